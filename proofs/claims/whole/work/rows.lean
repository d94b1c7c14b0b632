section
-- ===== PART A: goes FIRST, ahead of the names: the tables' words, and 'selects' of the private methods out of them =====
/-- a private method of a class that the tables say can be made, by its rows of tables_1 -/
def lw_okq (q : MethodName × Nat) : Prop := (q.1.cls ≠ "java/lang/invoke/MethodHandle" ∧ q.1.cls ≠ "java/lang/invoke/VarHandle") ∧ Cond.instantiable q.1.cls q.2 ∈ tables_1 ∧ Cond.privateMethod q.1 ∈ tables_1 ∧ Cond.instanceMethod q.1 ∈ tables_1
theorem lw_p0 : lw_okq (⟨"TrickHouses", "sheetOf", "(I)LTrickHouses$Sheet;"⟩, 9) := ⟨⟨by decide +kernel, by decide +kernel⟩, List.mem_of_getElem? (i := 15) (by decide +kernel), List.mem_of_getElem? (i := 283) (by decide +kernel), List.mem_of_getElem? (i := 284) (by decide +kernel)⟩
theorem lw_p1 : lw_okq (⟨"TrickHouses", "failed", "(I)I"⟩, 9) := ⟨⟨by decide +kernel, by decide +kernel⟩, List.mem_of_getElem? (i := 15) (by decide +kernel), List.mem_of_getElem? (i := 298) (by decide +kernel), List.mem_of_getElem? (i := 299) (by decide +kernel)⟩
theorem lw_p2 : lw_okq (⟨"TrickHouses$Text", "codeAt", "(I)I"⟩, 4) := ⟨⟨by decide +kernel, by decide +kernel⟩, List.mem_of_getElem? (i := 49) (by decide +kernel), List.mem_of_getElem? (i := 313) (by decide +kernel), List.mem_of_getElem? (i := 314) (by decide +kernel)⟩
theorem lw_p3 : lw_okq (⟨"TrickHouses$Text", "goodOfHouse", "(I)I"⟩, 4) := ⟨⟨by decide +kernel, by decide +kernel⟩, List.mem_of_getElem? (i := 49) (by decide +kernel), List.mem_of_getElem? (i := 318) (by decide +kernel), List.mem_of_getElem? (i := 319) (by decide +kernel)⟩
theorem lw_p4 : lw_okq (⟨"TrickHouses$Text", "kindAt", "(I)I"⟩, 4) := ⟨⟨by decide +kernel, by decide +kernel⟩, List.mem_of_getElem? (i := 49) (by decide +kernel), List.mem_of_getElem? (i := 322) (by decide +kernel), List.mem_of_getElem? (i := 323) (by decide +kernel)⟩
theorem lw_p5 : lw_okq (⟨"TrickHouses$Text", "digitAt", "(I)I"⟩, 4) := ⟨⟨by decide +kernel, by decide +kernel⟩, List.mem_of_getElem? (i := 49) (by decide +kernel), List.mem_of_getElem? (i := 326) (by decide +kernel), List.mem_of_getElem? (i := 327) (by decide +kernel)⟩
theorem lw_p6 : lw_okq (⟨"TrickHouses$Text", "goodOfGuest", "(I)I"⟩, 4) := ⟨⟨by decide +kernel, by decide +kernel⟩, List.mem_of_getElem? (i := 49) (by decide +kernel), List.mem_of_getElem? (i := 330) (by decide +kernel), List.mem_of_getElem? (i := 331) (by decide +kernel)⟩
theorem lw_p7 : lw_okq (⟨"TrickHouses$Text", "placeOfHouse", "(I)I"⟩, 4) := ⟨⟨by decide +kernel, by decide +kernel⟩, List.mem_of_getElem? (i := 49) (by decide +kernel), List.mem_of_getElem? (i := 342) (by decide +kernel), List.mem_of_getElem? (i := 343) (by decide +kernel)⟩
theorem lw_p8 : lw_okq (⟨"TrickHouses", "refusalOfPairs", "(LTrickHouses$Sheet;II)I"⟩, 9) := ⟨⟨by decide +kernel, by decide +kernel⟩, List.mem_of_getElem? (i := 15) (by decide +kernel), List.mem_of_getElem? (i := 395) (by decide +kernel), List.mem_of_getElem? (i := 396) (by decide +kernel)⟩
theorem lw_p9 : lw_okq (⟨"TrickHouses$Walk", "enter", "(II)Z"⟩, 6) := ⟨⟨by decide +kernel, by decide +kernel⟩, List.mem_of_getElem? (i := 117) (by decide +kernel), List.mem_of_getElem? (i := 418) (by decide +kernel), List.mem_of_getElem? (i := 419) (by decide +kernel)⟩
theorem lw_p10 : lw_okq (⟨"TrickHouses", "ofVisits", "(I)I"⟩, 9) := ⟨⟨by decide +kernel, by decide +kernel⟩, List.mem_of_getElem? (i := 15) (by decide +kernel), List.mem_of_getElem? (i := 423) (by decide +kernel), List.mem_of_getElem? (i := 424) (by decide +kernel)⟩
theorem lw_p11 : lw_okq (⟨"TrickHouses", "isOrder", "(LTrickHouses$Sheet;II)Z"⟩, 9) := ⟨⟨by decide +kernel, by decide +kernel⟩, List.mem_of_getElem? (i := 15) (by decide +kernel), List.mem_of_getElem? (i := 431) (by decide +kernel), List.mem_of_getElem? (i := 432) (by decide +kernel)⟩
theorem lw_p12 : lw_okq (⟨"TrickHouses$Search", "goInOrder", "()I"⟩, 8) := ⟨⟨by decide +kernel, by decide +kernel⟩, List.mem_of_getElem? (i := 149) (by decide +kernel), List.mem_of_getElem? (i := 479) (by decide +kernel), List.mem_of_getElem? (i := 480) (by decide +kernel)⟩
theorem lw_p13 : lw_okq (⟨"TrickHouses$Search", "keep", "(I)V"⟩, 8) := ⟨⟨by decide +kernel, by decide +kernel⟩, List.mem_of_getElem? (i := 149) (by decide +kernel), List.mem_of_getElem? (i := 486) (by decide +kernel), List.mem_of_getElem? (i := 487) (by decide +kernel)⟩
theorem lw_p14 : lw_okq (⟨"TrickHouses$Orders", "lastRise", "()I"⟩, 2) := ⟨⟨by decide +kernel, by decide +kernel⟩, List.mem_of_getElem? (i := 155) (by decide +kernel), List.mem_of_getElem? (i := 495) (by decide +kernel), List.mem_of_getElem? (i := 496) (by decide +kernel)⟩
theorem lw_p15 : lw_okq (⟨"TrickHouses$Orders", "lastAbove", "(I)I"⟩, 2) := ⟨⟨by decide +kernel, by decide +kernel⟩, List.mem_of_getElem? (i := 155) (by decide +kernel), List.mem_of_getElem? (i := 499) (by decide +kernel), List.mem_of_getElem? (i := 500) (by decide +kernel)⟩
def lw_privs_1 : List (MethodName × Nat) := [(⟨"TrickHouses", "sheetOf", "(I)LTrickHouses$Sheet;"⟩, 9), (⟨"TrickHouses", "failed", "(I)I"⟩, 9), (⟨"TrickHouses$Text", "codeAt", "(I)I"⟩, 4), (⟨"TrickHouses$Text", "goodOfHouse", "(I)I"⟩, 4), (⟨"TrickHouses$Text", "kindAt", "(I)I"⟩, 4), (⟨"TrickHouses$Text", "digitAt", "(I)I"⟩, 4), (⟨"TrickHouses$Text", "goodOfGuest", "(I)I"⟩, 4), (⟨"TrickHouses$Text", "placeOfHouse", "(I)I"⟩, 4), (⟨"TrickHouses", "refusalOfPairs", "(LTrickHouses$Sheet;II)I"⟩, 9), (⟨"TrickHouses$Walk", "enter", "(II)Z"⟩, 6), (⟨"TrickHouses", "ofVisits", "(I)I"⟩, 9), (⟨"TrickHouses", "isOrder", "(LTrickHouses$Sheet;II)Z"⟩, 9), (⟨"TrickHouses$Search", "goInOrder", "()I"⟩, 8), (⟨"TrickHouses$Search", "keep", "(I)V"⟩, 8), (⟨"TrickHouses$Orders", "lastRise", "()I"⟩, 2), (⟨"TrickHouses$Orders", "lastAbove", "(I)I"⟩, 2)]
theorem lw_r1 : ∀ q ∈ lw_privs_1, lw_okq q := List.forall_mem_cons.mpr ⟨lw_p0, List.forall_mem_cons.mpr ⟨lw_p1, List.forall_mem_cons.mpr ⟨lw_p2, List.forall_mem_cons.mpr ⟨lw_p3, List.forall_mem_cons.mpr ⟨lw_p4, List.forall_mem_cons.mpr ⟨lw_p5, List.forall_mem_cons.mpr ⟨lw_p6, List.forall_mem_cons.mpr ⟨lw_p7, List.forall_mem_cons.mpr ⟨lw_p8, List.forall_mem_cons.mpr ⟨lw_p9, List.forall_mem_cons.mpr ⟨lw_p10, List.forall_mem_cons.mpr ⟨lw_p11, List.forall_mem_cons.mpr ⟨lw_p12, List.forall_mem_cons.mpr ⟨lw_p13, List.forall_mem_cons.mpr ⟨lw_p14, List.forall_mem_cons.mpr ⟨lw_p15, fun _ h => absurd h List.not_mem_nil⟩⟩⟩⟩⟩⟩⟩⟩⟩⟩⟩⟩⟩⟩⟩⟩
theorem lw_p16 : lw_okq (⟨"TrickHouses$Orders", "swap", "(II)V"⟩, 2) := ⟨⟨by decide +kernel, by decide +kernel⟩, List.mem_of_getElem? (i := 155) (by decide +kernel), List.mem_of_getElem? (i := 503) (by decide +kernel), List.mem_of_getElem? (i := 504) (by decide +kernel)⟩
theorem lw_p17 : lw_okq (⟨"TrickHouses$Search", "judgeMates", "()V"⟩, 8) := ⟨⟨by decide +kernel, by decide +kernel⟩, List.mem_of_getElem? (i := 149) (by decide +kernel), List.mem_of_getElem? (i := 519) (by decide +kernel), List.mem_of_getElem? (i := 520) (by decide +kernel)⟩
theorem lw_p18 : lw_okq (⟨"TrickHouses$Readings", "allAreSo", "()Z"⟩, 7) := ⟨⟨by decide +kernel, by decide +kernel⟩, List.mem_of_getElem? (i := 220) (by decide +kernel), List.mem_of_getElem? (i := 572) (by decide +kernel), List.mem_of_getElem? (i := 573) (by decide +kernel)⟩
theorem lw_p19 : lw_okq (⟨"TrickHouses", "bodyOfLearning", "(I)I"⟩, 9) := ⟨⟨by decide +kernel, by decide +kernel⟩, List.mem_of_getElem? (i := 15) (by decide +kernel), List.mem_of_getElem? (i := 631) (by decide +kernel), List.mem_of_getElem? (i := 632) (by decide +kernel)⟩
theorem lw_p20 : lw_okq (⟨"TrickHouses", "leave", "(I)V"⟩, 9) := ⟨⟨by decide +kernel, by decide +kernel⟩, List.mem_of_getElem? (i := 15) (by decide +kernel), List.mem_of_getElem? (i := 635) (by decide +kernel), List.mem_of_getElem? (i := 636) (by decide +kernel)⟩
theorem lw_p21 : lw_okq (⟨"TrickHouses", "bodyOfDouble", "(I)I"⟩, 9) := ⟨⟨by decide +kernel, by decide +kernel⟩, List.mem_of_getElem? (i := 15) (by decide +kernel), List.mem_of_getElem? (i := 639) (by decide +kernel), List.mem_of_getElem? (i := 640) (by decide +kernel)⟩
theorem lw_p22 : lw_okq (⟨"TrickHouses", "bodyOfHouse", "(I)I"⟩, 9) := ⟨⟨by decide +kernel, by decide +kernel⟩, List.mem_of_getElem? (i := 15) (by decide +kernel), List.mem_of_getElem? (i := 643) (by decide +kernel), List.mem_of_getElem? (i := 644) (by decide +kernel)⟩
theorem lw_p23 : lw_okq (⟨"TrickHouses", "ownKnock", "()I"⟩, 9) := ⟨⟨by decide +kernel, by decide +kernel⟩, List.mem_of_getElem? (i := 15) (by decide +kernel), List.mem_of_getElem? (i := 651) (by decide +kernel), List.mem_of_getElem? (i := 652) (by decide +kernel)⟩
theorem lw_p24 : lw_okq (⟨"TrickHouses", "lentKnock", "(I)I"⟩, 9) := ⟨⟨by decide +kernel, by decide +kernel⟩, List.mem_of_getElem? (i := 15) (by decide +kernel), List.mem_of_getElem? (i := 655) (by decide +kernel), List.mem_of_getElem? (i := 656) (by decide +kernel)⟩
theorem lw_p25 : lw_okq (⟨"TrickHousesModel", "against", "(IIII)I"⟩, 26) := ⟨⟨by decide +kernel, by decide +kernel⟩, List.mem_of_getElem? (i := 675) (by decide +kernel), List.mem_of_getElem? (i := 773) (by decide +kernel), List.mem_of_getElem? (i := 774) (by decide +kernel)⟩
theorem lw_p26 : lw_okq (⟨"TrickHousesModel", "fails", "(I)I"⟩, 26) := ⟨⟨by decide +kernel, by decide +kernel⟩, List.mem_of_getElem? (i := 675) (by decide +kernel), List.mem_of_getElem? (i := 777) (by decide +kernel), List.mem_of_getElem? (i := 778) (by decide +kernel)⟩
theorem lw_p27 : lw_okq (⟨"TrickHousesModel", "readWay", "(I)Z"⟩, 26) := ⟨⟨by decide +kernel, by decide +kernel⟩, List.mem_of_getElem? (i := 675) (by decide +kernel), List.mem_of_getElem? (i := 781) (by decide +kernel), List.mem_of_getElem? (i := 782) (by decide +kernel)⟩
theorem lw_p28 : lw_okq (⟨"TrickHousesModel", "isSign", "(II)Z"⟩, 26) := ⟨⟨by decide +kernel, by decide +kernel⟩, List.mem_of_getElem? (i := 675) (by decide +kernel), List.mem_of_getElem? (i := 785) (by decide +kernel), List.mem_of_getElem? (i := 786) (by decide +kernel)⟩
theorem lw_p29 : lw_okq (⟨"TrickHousesModel", "readOneHouse", "(I)Z"⟩, 26) := ⟨⟨by decide +kernel, by decide +kernel⟩, List.mem_of_getElem? (i := 675) (by decide +kernel), List.mem_of_getElem? (i := 789) (by decide +kernel), List.mem_of_getElem? (i := 790) (by decide +kernel)⟩
theorem lw_p30 : lw_okq (⟨"TrickHousesModel", "digit", "(III)I"⟩, 26) := ⟨⟨by decide +kernel, by decide +kernel⟩, List.mem_of_getElem? (i := 675) (by decide +kernel), List.mem_of_getElem? (i := 793) (by decide +kernel), List.mem_of_getElem? (i := 794) (by decide +kernel)⟩
theorem lw_p31 : lw_okq (⟨"TrickHousesModel", "readGuest", "(I)Z"⟩, 26) := ⟨⟨by decide +kernel, by decide +kernel⟩, List.mem_of_getElem? (i := 675) (by decide +kernel), List.mem_of_getElem? (i := 797) (by decide +kernel), List.mem_of_getElem? (i := 798) (by decide +kernel)⟩
def lw_privs_2 : List (MethodName × Nat) := [(⟨"TrickHouses$Orders", "swap", "(II)V"⟩, 2), (⟨"TrickHouses$Search", "judgeMates", "()V"⟩, 8), (⟨"TrickHouses$Readings", "allAreSo", "()Z"⟩, 7), (⟨"TrickHouses", "bodyOfLearning", "(I)I"⟩, 9), (⟨"TrickHouses", "leave", "(I)V"⟩, 9), (⟨"TrickHouses", "bodyOfDouble", "(I)I"⟩, 9), (⟨"TrickHouses", "bodyOfHouse", "(I)I"⟩, 9), (⟨"TrickHouses", "ownKnock", "()I"⟩, 9), (⟨"TrickHouses", "lentKnock", "(I)I"⟩, 9), (⟨"TrickHousesModel", "against", "(IIII)I"⟩, 26), (⟨"TrickHousesModel", "fails", "(I)I"⟩, 26), (⟨"TrickHousesModel", "readWay", "(I)Z"⟩, 26), (⟨"TrickHousesModel", "isSign", "(II)Z"⟩, 26), (⟨"TrickHousesModel", "readOneHouse", "(I)Z"⟩, 26), (⟨"TrickHousesModel", "digit", "(III)I"⟩, 26), (⟨"TrickHousesModel", "readGuest", "(I)Z"⟩, 26)]
theorem lw_r2 : ∀ q ∈ lw_privs_2, lw_okq q := List.forall_mem_cons.mpr ⟨lw_p16, List.forall_mem_cons.mpr ⟨lw_p17, List.forall_mem_cons.mpr ⟨lw_p18, List.forall_mem_cons.mpr ⟨lw_p19, List.forall_mem_cons.mpr ⟨lw_p20, List.forall_mem_cons.mpr ⟨lw_p21, List.forall_mem_cons.mpr ⟨lw_p22, List.forall_mem_cons.mpr ⟨lw_p23, List.forall_mem_cons.mpr ⟨lw_p24, List.forall_mem_cons.mpr ⟨lw_p25, List.forall_mem_cons.mpr ⟨lw_p26, List.forall_mem_cons.mpr ⟨lw_p27, List.forall_mem_cons.mpr ⟨lw_p28, List.forall_mem_cons.mpr ⟨lw_p29, List.forall_mem_cons.mpr ⟨lw_p30, List.forall_mem_cons.mpr ⟨lw_p31, fun _ h => absurd h List.not_mem_nil⟩⟩⟩⟩⟩⟩⟩⟩⟩⟩⟩⟩⟩⟩⟩⟩
theorem lw_p32 : lw_okq (⟨"TrickHousesModel", "isHouse", "(I)Z"⟩, 26) := ⟨⟨by decide +kernel, by decide +kernel⟩, List.mem_of_getElem? (i := 675) (by decide +kernel), List.mem_of_getElem? (i := 805) (by decide +kernel), List.mem_of_getElem? (i := 806) (by decide +kernel)⟩
theorem lw_p33 : lw_okq (⟨"TrickHousesModel", "isGuest", "(I)Z"⟩, 26) := ⟨⟨by decide +kernel, by decide +kernel⟩, List.mem_of_getElem? (i := 675) (by decide +kernel), List.mem_of_getElem? (i := 813) (by decide +kernel), List.mem_of_getElem? (i := 814) (by decide +kernel)⟩
theorem lw_p34 : lw_okq (⟨"TrickHousesModel", "used", "(III)I"⟩, 26) := ⟨⟨by decide +kernel, by decide +kernel⟩, List.mem_of_getElem? (i := 675) (by decide +kernel), List.mem_of_getElem? (i := 832) (by decide +kernel), List.mem_of_getElem? (i := 833) (by decide +kernel)⟩
theorem lw_p35 : lw_okq (⟨"TrickHousesModel", "allGuests", "()I"⟩, 26) := ⟨⟨by decide +kernel, by decide +kernel⟩, List.mem_of_getElem? (i := 675) (by decide +kernel), List.mem_of_getElem? (i := 840) (by decide +kernel), List.mem_of_getElem? (i := 841) (by decide +kernel)⟩
theorem lw_p36 : lw_okq (⟨"TrickHousesModel", "visitAll", "(III)I"⟩, 26) := ⟨⟨by decide +kernel, by decide +kernel⟩, List.mem_of_getElem? (i := 675) (by decide +kernel), List.mem_of_getElem? (i := 844) (by decide +kernel), List.mem_of_getElem? (i := 845) (by decide +kernel)⟩
theorem lw_p37 : lw_okq (⟨"TrickHousesModel", "begin", "()V"⟩, 26) := ⟨⟨by decide +kernel, by decide +kernel⟩, List.mem_of_getElem? (i := 675) (by decide +kernel), List.mem_of_getElem? (i := 848) (by decide +kernel), List.mem_of_getElem? (i := 849) (by decide +kernel)⟩
theorem lw_p38 : lw_okq (⟨"TrickHousesModel", "visit", "(II)Z"⟩, 26) := ⟨⟨by decide +kernel, by decide +kernel⟩, List.mem_of_getElem? (i := 675) (by decide +kernel), List.mem_of_getElem? (i := 852) (by decide +kernel), List.mem_of_getElem? (i := 853) (by decide +kernel)⟩
theorem lw_p39 : lw_okq (⟨"TrickHousesModel", "gearOfAll", "(I)I"⟩, 26) := ⟨⟨by decide +kernel, by decide +kernel⟩, List.mem_of_getElem? (i := 675) (by decide +kernel), List.mem_of_getElem? (i := 856) (by decide +kernel), List.mem_of_getElem? (i := 857) (by decide +kernel)⟩
theorem lw_p40 : lw_okq (⟨"TrickHousesModel", "goThrough", "(I)V"⟩, 26) := ⟨⟨by decide +kernel, by decide +kernel⟩, List.mem_of_getElem? (i := 675) (by decide +kernel), List.mem_of_getElem? (i := 864) (by decide +kernel), List.mem_of_getElem? (i := 865) (by decide +kernel)⟩
theorem lw_p41 : lw_okq (⟨"TrickHousesModel", "passesEach", "(I)Z"⟩, 26) := ⟨⟨by decide +kernel, by decide +kernel⟩, List.mem_of_getElem? (i := 675) (by decide +kernel), List.mem_of_getElem? (i := 875) (by decide +kernel), List.mem_of_getElem? (i := 876) (by decide +kernel)⟩
theorem lw_p42 : lw_okq (⟨"TrickHousesModel", "beginRows", "()V"⟩, 26) := ⟨⟨by decide +kernel, by decide +kernel⟩, List.mem_of_getElem? (i := 675) (by decide +kernel), List.mem_of_getElem? (i := 887) (by decide +kernel), List.mem_of_getElem? (i := 888) (by decide +kernel)⟩
theorem lw_p43 : lw_okq (⟨"TrickHousesModel", "goRow", "()V"⟩, 26) := ⟨⟨by decide +kernel, by decide +kernel⟩, List.mem_of_getElem? (i := 675) (by decide +kernel), List.mem_of_getElem? (i := 891) (by decide +kernel), List.mem_of_getElem? (i := 892) (by decide +kernel)⟩
theorem lw_p44 : lw_okq (⟨"TrickHousesModel", "throughNow", "()I"⟩, 26) := ⟨⟨by decide +kernel, by decide +kernel⟩, List.mem_of_getElem? (i := 675) (by decide +kernel), List.mem_of_getElem? (i := 895) (by decide +kernel), List.mem_of_getElem? (i := 896) (by decide +kernel)⟩
theorem lw_p45 : lw_okq (⟨"TrickHousesModel", "nextRow", "()Z"⟩, 26) := ⟨⟨by decide +kernel, by decide +kernel⟩, List.mem_of_getElem? (i := 675) (by decide +kernel), List.mem_of_getElem? (i := 899) (by decide +kernel), List.mem_of_getElem? (i := 900) (by decide +kernel)⟩
theorem lw_p46 : lw_okq (⟨"TrickHousesModel", "swap", "(II)V"⟩, 26) := ⟨⟨by decide +kernel, by decide +kernel⟩, List.mem_of_getElem? (i := 675) (by decide +kernel), List.mem_of_getElem? (i := 903) (by decide +kernel), List.mem_of_getElem? (i := 904) (by decide +kernel)⟩
theorem lw_p47 : lw_okq (⟨"TrickHousesModel", "layMates", "(I)Z"⟩, 26) := ⟨⟨by decide +kernel, by decide +kernel⟩, List.mem_of_getElem? (i := 675) (by decide +kernel), List.mem_of_getElem? (i := 911) (by decide +kernel), List.mem_of_getElem? (i := 912) (by decide +kernel)⟩
def lw_privs_3 : List (MethodName × Nat) := [(⟨"TrickHousesModel", "isHouse", "(I)Z"⟩, 26), (⟨"TrickHousesModel", "isGuest", "(I)Z"⟩, 26), (⟨"TrickHousesModel", "used", "(III)I"⟩, 26), (⟨"TrickHousesModel", "allGuests", "()I"⟩, 26), (⟨"TrickHousesModel", "visitAll", "(III)I"⟩, 26), (⟨"TrickHousesModel", "begin", "()V"⟩, 26), (⟨"TrickHousesModel", "visit", "(II)Z"⟩, 26), (⟨"TrickHousesModel", "gearOfAll", "(I)I"⟩, 26), (⟨"TrickHousesModel", "goThrough", "(I)V"⟩, 26), (⟨"TrickHousesModel", "passesEach", "(I)Z"⟩, 26), (⟨"TrickHousesModel", "beginRows", "()V"⟩, 26), (⟨"TrickHousesModel", "goRow", "()V"⟩, 26), (⟨"TrickHousesModel", "throughNow", "()I"⟩, 26), (⟨"TrickHousesModel", "nextRow", "()Z"⟩, 26), (⟨"TrickHousesModel", "swap", "(II)V"⟩, 26), (⟨"TrickHousesModel", "layMates", "(I)Z"⟩, 26)]
theorem lw_r3 : ∀ q ∈ lw_privs_3, lw_okq q := List.forall_mem_cons.mpr ⟨lw_p32, List.forall_mem_cons.mpr ⟨lw_p33, List.forall_mem_cons.mpr ⟨lw_p34, List.forall_mem_cons.mpr ⟨lw_p35, List.forall_mem_cons.mpr ⟨lw_p36, List.forall_mem_cons.mpr ⟨lw_p37, List.forall_mem_cons.mpr ⟨lw_p38, List.forall_mem_cons.mpr ⟨lw_p39, List.forall_mem_cons.mpr ⟨lw_p40, List.forall_mem_cons.mpr ⟨lw_p41, List.forall_mem_cons.mpr ⟨lw_p42, List.forall_mem_cons.mpr ⟨lw_p43, List.forall_mem_cons.mpr ⟨lw_p44, List.forall_mem_cons.mpr ⟨lw_p45, List.forall_mem_cons.mpr ⟨lw_p46, List.forall_mem_cons.mpr ⟨lw_p47, fun _ h => absurd h List.not_mem_nil⟩⟩⟩⟩⟩⟩⟩⟩⟩⟩⟩⟩⟩⟩⟩⟩
theorem lw_p48 : lw_okq (⟨"TrickHousesModel", "goMates", "()I"⟩, 26) := ⟨⟨by decide +kernel, by decide +kernel⟩, List.mem_of_getElem? (i := 675) (by decide +kernel), List.mem_of_getElem? (i := 915) (by decide +kernel), List.mem_of_getElem? (i := 916) (by decide +kernel)⟩
theorem lw_p49 : lw_okq (⟨"TrickHousesModel", "goAll", "()V"⟩, 26) := ⟨⟨by decide +kernel, by decide +kernel⟩, List.mem_of_getElem? (i := 675) (by decide +kernel), List.mem_of_getElem? (i := 923) (by decide +kernel), List.mem_of_getElem? (i := 924) (by decide +kernel)⟩
theorem lw_p50 : lw_okq (⟨"TrickHousesModel", "areSo", "()Z"⟩, 26) := ⟨⟨by decide +kernel, by decide +kernel⟩, List.mem_of_getElem? (i := 675) (by decide +kernel), List.mem_of_getElem? (i := 943) (by decide +kernel), List.mem_of_getElem? (i := 944) (by decide +kernel)⟩
theorem lw_p51 : lw_okq (⟨"TrickHousesModel", "lost", "(I)J"⟩, 26) := ⟨⟨by decide +kernel, by decide +kernel⟩, List.mem_of_getElem? (i := 675) (by decide +kernel), List.mem_of_getElem? (i := 975) (by decide +kernel), List.mem_of_getElem? (i := 976) (by decide +kernel)⟩
theorem lw_p52 : lw_okq (⟨"TrickHousesModel", "begins", "(I)V"⟩, 26) := ⟨⟨by decide +kernel, by decide +kernel⟩, List.mem_of_getElem? (i := 675) (by decide +kernel), List.mem_of_getElem? (i := 987) (by decide +kernel), List.mem_of_getElem? (i := 988) (by decide +kernel)⟩
def lw_privs_4 : List (MethodName × Nat) := [(⟨"TrickHousesModel", "goMates", "()I"⟩, 26), (⟨"TrickHousesModel", "goAll", "()V"⟩, 26), (⟨"TrickHousesModel", "areSo", "()Z"⟩, 26), (⟨"TrickHousesModel", "lost", "(I)J"⟩, 26), (⟨"TrickHousesModel", "begins", "(I)V"⟩, 26)]
theorem lw_r4 : ∀ q ∈ lw_privs_4, lw_okq q := List.forall_mem_cons.mpr ⟨lw_p48, List.forall_mem_cons.mpr ⟨lw_p49, List.forall_mem_cons.mpr ⟨lw_p50, List.forall_mem_cons.mpr ⟨lw_p51, List.forall_mem_cons.mpr ⟨lw_p52, fun _ h => absurd h List.not_mem_nil⟩⟩⟩⟩⟩
def lw_privs : List (MethodName × Nat) := lw_privs_1 ++ (lw_privs_2 ++ (lw_privs_3 ++ (lw_privs_4)))
def lw_tbl : List Cond := k2_sels lw_privs ++ tables_1
theorem lw_privs_ok : ∀ q ∈ lw_privs, lw_okq q := by
  show ∀ q ∈ lw_privs_1 ++ (lw_privs_2 ++ (lw_privs_3 ++ (lw_privs_4))), lw_okq q
  exact List.forall_mem_append.mpr ⟨lw_r1, List.forall_mem_append.mpr ⟨lw_r2, List.forall_mem_append.mpr ⟨lw_r3, lw_r4⟩⟩⟩
end
section
/-! the words that all methods rest on: the good ones of the tables -/
def TG : List Cond := lw_tbl.filter goodWord
theorem TG_m {w : Cond} (i : Nat) (h : lw_tbl[i]? = some w) (hg : goodWord w = true) : w ∈ TG := List.mem_filter.mpr ⟨List.mem_of_getElem? h, hg⟩
theorem TG_good {w : Cond} (h : w ∈ TG) : goodWord w = true := (List.mem_filter.mp h).2
theorem TG_tbl {w : Cond} (h : w ∈ TG) : w ∈ lw_tbl := (List.mem_filter.mp h).1
theorem TG_in {ws : List Cond} (h : ∀ w ∈ ws, w ∈ TG) : GoodIn TG ws := fun w hw => ⟨h w hw, good_of_word (TG_good (h w hw))⟩
abbrev wm (y : MethodName) (b : ByteArray) (n : Nat) (ret : Option FieldType) : List Cond := .code y b n ret :: TG
/-! names of classes and fields -/
def N_Orders : String := "TrickHouses$Orders"
def T_Orders : u_T := fun k => match k with
  | 0 => ("TrickHouses$Orders", "row", "[I", true)
  | _ => ("TrickHouses$Orders", "size", "I", false)
def y_Orders_t : Nat → FieldType := fun k => match k with
  | 0 => .array .int
  | _ => .int
theorem t_Orders_nm : ∀ a, a < 2 → ∀ b, b < 2 → a ≠ b → (T_Orders a).2.1 ≠ (T_Orders b).2.1 := by decide +kernel
theorem t_Orders_ok : ∀ k, k < 2 → parseFieldDescriptor (T_Orders k).2.2.1 = some (y_Orders_t k) := by decide +kernel
theorem t_Orders_in0 : ∀ w ∈ u_ws N_Orders T_Orders 2, w ∈ lw_tbl := by decide +kernel
theorem t_Orders_good : ∀ w ∈ u_ws N_Orders T_Orders 2, goodWord w = true := by decide +kernel
theorem t_Orders_in : ∀ w ∈ u_ws N_Orders T_Orders 2, w ∈ TG := fun w h => List.mem_filter.mpr ⟨t_Orders_in0 w h, t_Orders_good w h⟩
def N_Readings : String := "TrickHouses$Readings"
def T_Readings : u_T := fun k => match k with
  | 0 => ("TrickHouses$Readings", "road", "LTrickHouses$Way;", true)
  | 1 => ("TrickHouses$Readings", "walk", "LTrickHouses$Walk;", true)
  | 2 => ("TrickHouses$Readings", "guest", "[I", true)
  | 3 => ("TrickHouses$Readings", "house", "[I", true)
  | 4 => ("TrickHouses$Readings", "count", "I", false)
  | 5 => ("TrickHouses$Readings", "fitting", "I", false)
  | _ => ("TrickHouses$Readings", "leastFitting", "I", false)
def y_Readings_t : Nat → FieldType := fun k => match k with
  | 0 => .object "TrickHouses$Way"
  | 1 => .object "TrickHouses$Walk"
  | 2 => .array .int
  | 3 => .array .int
  | 4 => .int
  | 5 => .int
  | _ => .int
theorem t_Readings_nm : ∀ a, a < 7 → ∀ b, b < 7 → a ≠ b → (T_Readings a).2.1 ≠ (T_Readings b).2.1 := by decide +kernel
theorem t_Readings_ok : ∀ k, k < 7 → parseFieldDescriptor (T_Readings k).2.2.1 = some (y_Readings_t k) := by decide +kernel
theorem t_Readings_in0 : ∀ w ∈ u_ws N_Readings T_Readings 7, w ∈ lw_tbl := by decide +kernel
theorem t_Readings_good : ∀ w ∈ u_ws N_Readings T_Readings 7, goodWord w = true := by decide +kernel
theorem t_Readings_in : ∀ w ∈ u_ws N_Readings T_Readings 7, w ∈ TG := fun w h => List.mem_filter.mpr ⟨t_Readings_in0 w h, t_Readings_good w h⟩
def N_Search : String := "TrickHouses$Search"
def T_Search : u_T := fun k => match k with
  | 0 => ("TrickHouses$Search", "road", "LTrickHouses$Way;", true)
  | 1 => ("TrickHouses$Search", "walk", "LTrickHouses$Walk;", true)
  | 2 => ("TrickHouses$Search", "orders", "LTrickHouses$Orders;", true)
  | 3 => ("TrickHouses$Search", "found", "[I", true)
  | 4 => ("TrickHouses$Search", "most", "I", false)
  | 5 => ("TrickHouses$Search", "fewest", "I", false)
  | 6 => ("TrickHouses$Search", "good", "I", false)
  | _ => ("TrickHouses$Search", "all", "I", false)
def y_Search_t : Nat → FieldType := fun k => match k with
  | 0 => .object "TrickHouses$Way"
  | 1 => .object "TrickHouses$Walk"
  | 2 => .object "TrickHouses$Orders"
  | 3 => .array .int
  | 4 => .int
  | 5 => .int
  | 6 => .int
  | _ => .int
theorem t_Search_nm : ∀ a, a < 8 → ∀ b, b < 8 → a ≠ b → (T_Search a).2.1 ≠ (T_Search b).2.1 := by decide +kernel
theorem t_Search_ok : ∀ k, k < 8 → parseFieldDescriptor (T_Search k).2.2.1 = some (y_Search_t k) := by decide +kernel
theorem t_Search_in0 : ∀ w ∈ u_ws N_Search T_Search 8, w ∈ lw_tbl := by decide +kernel
theorem t_Search_good : ∀ w ∈ u_ws N_Search T_Search 8, goodWord w = true := by decide +kernel
theorem t_Search_in : ∀ w ∈ u_ws N_Search T_Search 8, w ∈ TG := fun w h => List.mem_filter.mpr ⟨t_Search_in0 w h, t_Search_good w h⟩
def N_Sheet : String := "TrickHouses$Sheet"
def T_Sheet : u_T := fun k => match k with
  | 0 => ("TrickHouses$Sheet", "cells", "[I", true)
  | 1 => ("TrickHouses$Sheet", "hasRow", "Z", false)
  | 2 => ("TrickHouses$Sheet", "lane", "I", false)
  | _ => ("TrickHouses$Sheet", "length", "I", false)
def y_Sheet_t : Nat → FieldType := fun k => match k with
  | 0 => .array .int
  | 1 => .boolean
  | 2 => .int
  | _ => .int
theorem t_Sheet_nm : ∀ a, a < 4 → ∀ b, b < 4 → a ≠ b → (T_Sheet a).2.1 ≠ (T_Sheet b).2.1 := by decide +kernel
theorem t_Sheet_ok : ∀ k, k < 4 → parseFieldDescriptor (T_Sheet k).2.2.1 = some (y_Sheet_t k) := by decide +kernel
theorem t_Sheet_in0 : ∀ w ∈ u_ws N_Sheet T_Sheet 4, w ∈ lw_tbl := by decide +kernel
theorem t_Sheet_good : ∀ w ∈ u_ws N_Sheet T_Sheet 4, goodWord w = true := by decide +kernel
theorem t_Sheet_in : ∀ w ∈ u_ws N_Sheet T_Sheet 4, w ∈ TG := fun w h => List.mem_filter.mpr ⟨t_Sheet_in0 w h, t_Sheet_good w h⟩
def N_Text : String := "TrickHouses$Text"
def T_Text : u_T := fun k => match k with
  | 0 => ("TrickHouses$Text", "codes", "[I", true)
  | 1 => ("TrickHouses$Text", "count", "I", false)
  | 2 => ("TrickHouses$Text", "houses", "I", false)
  | _ => ("TrickHouses$Text", "guests", "I", false)
def y_Text_t : Nat → FieldType := fun k => match k with
  | 0 => .array .int
  | 1 => .int
  | 2 => .int
  | _ => .int
theorem t_Text_nm : ∀ a, a < 4 → ∀ b, b < 4 → a ≠ b → (T_Text a).2.1 ≠ (T_Text b).2.1 := by decide +kernel
theorem t_Text_ok : ∀ k, k < 4 → parseFieldDescriptor (T_Text k).2.2.1 = some (y_Text_t k) := by decide +kernel
theorem t_Text_in0 : ∀ w ∈ u_ws N_Text T_Text 4, w ∈ lw_tbl := by decide +kernel
theorem t_Text_good : ∀ w ∈ u_ws N_Text T_Text 4, goodWord w = true := by decide +kernel
theorem t_Text_in : ∀ w ∈ u_ws N_Text T_Text 4, w ∈ TG := fun w h => List.mem_filter.mpr ⟨t_Text_in0 w h, t_Text_good w h⟩
def N_Trials : String := "TrickHouses$Trials"
def T_Trials : u_T := fun k => match k with
  | 0 => ("TrickHouses$Trials", "road", "LTrickHouses$Way;", true)
  | 1 => ("TrickHouses$Trials", "walk", "LTrickHouses$Walk;", true)
  | 2 => ("TrickHouses$Trials", "found", "I", false)
  | _ => ("TrickHouses$Trials", "come", "I", false)
def y_Trials_t : Nat → FieldType := fun k => match k with
  | 0 => .object "TrickHouses$Way"
  | 1 => .object "TrickHouses$Walk"
  | 2 => .int
  | _ => .int
theorem t_Trials_nm : ∀ a, a < 4 → ∀ b, b < 4 → a ≠ b → (T_Trials a).2.1 ≠ (T_Trials b).2.1 := by decide +kernel
theorem t_Trials_ok : ∀ k, k < 4 → parseFieldDescriptor (T_Trials k).2.2.1 = some (y_Trials_t k) := by decide +kernel
theorem t_Trials_in0 : ∀ w ∈ u_ws N_Trials T_Trials 4, w ∈ lw_tbl := by decide +kernel
theorem t_Trials_good : ∀ w ∈ u_ws N_Trials T_Trials 4, goodWord w = true := by decide +kernel
theorem t_Trials_in : ∀ w ∈ u_ws N_Trials T_Trials 4, w ∈ TG := fun w h => List.mem_filter.mpr ⟨t_Trials_in0 w h, t_Trials_good w h⟩
def N_Walk : String := "TrickHouses$Walk"
def T_Walk : u_T := fun k => match k with
  | 0 => ("TrickHouses$Walk", "road", "LTrickHouses$Way;", true)
  | 1 => ("TrickHouses$Walk", "knows", "[I", true)
  | 2 => ("TrickHouses$Walk", "lostIn", "[I", true)
  | 3 => ("TrickHouses$Walk", "through", "I", false)
  | 4 => ("TrickHouses$Walk", "gone", "I", false)
  | _ => ("TrickHouses$Walk", "firstLoss", "I", false)
def y_Walk_t : Nat → FieldType := fun k => match k with
  | 0 => .object "TrickHouses$Way"
  | 1 => .array .int
  | 2 => .array .int
  | 3 => .int
  | 4 => .int
  | _ => .int
theorem t_Walk_nm : ∀ a, a < 6 → ∀ b, b < 6 → a ≠ b → (T_Walk a).2.1 ≠ (T_Walk b).2.1 := by decide +kernel
theorem t_Walk_ok : ∀ k, k < 6 → parseFieldDescriptor (T_Walk k).2.2.1 = some (y_Walk_t k) := by decide +kernel
theorem t_Walk_in0 : ∀ w ∈ u_ws N_Walk T_Walk 6, w ∈ lw_tbl := by decide +kernel
theorem t_Walk_good : ∀ w ∈ u_ws N_Walk T_Walk 6, goodWord w = true := by decide +kernel
theorem t_Walk_in : ∀ w ∈ u_ws N_Walk T_Walk 6, w ∈ TG := fun w h => List.mem_filter.mpr ⟨t_Walk_in0 w h, t_Walk_good w h⟩
def N_Way : String := "TrickHouses$Way"
def T_Way : u_T := fun k => match k with
  | 0 => ("TrickHouses$Way", "kind", "[I", true)
  | 1 => ("TrickHouses$Way", "helps", "[I", true)
  | 2 => ("TrickHouses$Way", "helpsToo", "[I", true)
  | 3 => ("TrickHouses$Way", "bars", "[I", true)
  | 4 => ("TrickHouses$Way", "gear", "[I", true)
  | 5 => ("TrickHouses$Way", "houses", "I", false)
  | 6 => ("TrickHouses$Way", "guests", "I", false)
  | _ => ("TrickHouses$Way", "barredByAll", "I", false)
def y_Way_t : Nat → FieldType := fun k => match k with
  | 0 => .array .int
  | 1 => .array .int
  | 2 => .array .int
  | 3 => .array .int
  | 4 => .array .int
  | 5 => .int
  | 6 => .int
  | _ => .int
theorem t_Way_nm : ∀ a, a < 8 → ∀ b, b < 8 → a ≠ b → (T_Way a).2.1 ≠ (T_Way b).2.1 := by decide +kernel
theorem t_Way_ok : ∀ k, k < 8 → parseFieldDescriptor (T_Way k).2.2.1 = some (y_Way_t k) := by decide +kernel
theorem t_Way_in0 : ∀ w ∈ u_ws N_Way T_Way 8, w ∈ lw_tbl := by decide +kernel
theorem t_Way_good : ∀ w ∈ u_ws N_Way T_Way 8, goodWord w = true := by decide +kernel
theorem t_Way_in : ∀ w ∈ u_ws N_Way T_Way 8, w ∈ TG := fun w h => List.mem_filter.mpr ⟨t_Way_in0 w h, t_Way_good w h⟩
def N_Main : String := "TrickHouses"
def T_Main : u_T := fun k => match k with
  | 0 => ("TrickHouses", "sheets", "[LTrickHouses$Sheet;", true)
  | 1 => ("TrickHouses", "text", "LTrickHouses$Text;", true)
  | 2 => ("TrickHouses", "road", "LTrickHouses$Way;", true)
  | 3 => ("TrickHouses", "walk", "LTrickHouses$Walk;", true)
  | 4 => ("TrickHouses", "search", "LTrickHouses$Search;", true)
  | 5 => ("TrickHouses", "trials", "LTrickHouses$Trials;", true)
  | 6 => ("TrickHouses", "readings", "LTrickHouses$Readings;", true)
  | 7 => ("TrickHouses", "traced", "I", false)
  | _ => ("TrickHouses", "latestFault", "I", false)
def y_Main_t : Nat → FieldType := fun k => match k with
  | 0 => .array (.object "TrickHouses$Sheet")
  | 1 => .object "TrickHouses$Text"
  | 2 => .object "TrickHouses$Way"
  | 3 => .object "TrickHouses$Walk"
  | 4 => .object "TrickHouses$Search"
  | 5 => .object "TrickHouses$Trials"
  | 6 => .object "TrickHouses$Readings"
  | 7 => .int
  | _ => .int
theorem t_Main_nm : ∀ a, a < 9 → ∀ b, b < 9 → a ≠ b → (T_Main a).2.1 ≠ (T_Main b).2.1 := by decide +kernel
theorem t_Main_ok : ∀ k, k < 9 → parseFieldDescriptor (T_Main k).2.2.1 = some (y_Main_t k) := by decide +kernel
theorem t_Main_in0 : ∀ w ∈ u_ws N_Main T_Main 9, w ∈ lw_tbl := by decide +kernel
theorem t_Main_good : ∀ w ∈ u_ws N_Main T_Main 9, goodWord w = true := by decide +kernel
theorem t_Main_in : ∀ w ∈ u_ws N_Main T_Main 9, w ∈ TG := fun w h => List.mem_filter.mpr ⟨t_Main_in0 w h, t_Main_good w h⟩
def N_Model : String := "TrickHousesModel"
def T_Model : u_T := fun k => match k with
  | 0 => ("TrickHousesModel", "fault", "I", false)
  | 1 => ("TrickHousesModel", "trace", "I", false)
  | 2 => ("TrickHousesModel", "sorts", "[I", true)
  | 3 => ("TrickHousesModel", "sheetLong", "[I", true)
  | 4 => ("TrickHousesModel", "cells", "[I", true)
  | 5 => ("TrickHousesModel", "houses", "I", false)
  | 6 => ("TrickHousesModel", "guests", "I", false)
  | 7 => ("TrickHousesModel", "kind", "[I", true)
  | 8 => ("TrickHousesModel", "helps", "[I", true)
  | 9 => ("TrickHousesModel", "other", "[I", true)
  | 10 => ("TrickHousesModel", "bars", "[I", true)
  | 11 => ("TrickHousesModel", "gearOf", "[I", true)
  | 12 => ("TrickHousesModel", "barredToo", "I", false)
  | 13 => ("TrickHousesModel", "at", "I", false)
  | 14 => ("TrickHousesModel", "readHouses", "I", false)
  | 15 => ("TrickHousesModel", "readMany", "I", false)
  | 16 => ("TrickHousesModel", "read", "[I", true)
  | 17 => ("TrickHousesModel", "readGear", "[I", true)
  | 18 => ("TrickHousesModel", "lostNow", "I", false)
  | 19 => ("TrickHousesModel", "lostIn", "[I", true)
  | 20 => ("TrickHousesModel", "knows", "[I", true)
  | 21 => ("TrickHousesModel", "row", "[I", true)
  | 22 => ("TrickHousesModel", "found", "[I", true)
  | 23 => ("TrickHousesModel", "readings", "I", false)
  | 24 => ("TrickHousesModel", "readGuestOf", "[I", true)
  | _ => ("TrickHousesModel", "readIn", "[I", true)
def y_Model_t : Nat → FieldType := fun k => match k with
  | 0 => .int
  | 1 => .int
  | 2 => .array .int
  | 3 => .array .int
  | 4 => .array .int
  | 5 => .int
  | 6 => .int
  | 7 => .array .int
  | 8 => .array .int
  | 9 => .array .int
  | 10 => .array .int
  | 11 => .array .int
  | 12 => .int
  | 13 => .int
  | 14 => .int
  | 15 => .int
  | 16 => .array .int
  | 17 => .array .int
  | 18 => .int
  | 19 => .array .int
  | 20 => .array .int
  | 21 => .array .int
  | 22 => .array .int
  | 23 => .int
  | 24 => .array .int
  | _ => .array .int
theorem t_Model_nm : ∀ a, a < 26 → ∀ b, b < 26 → a ≠ b → (T_Model a).2.1 ≠ (T_Model b).2.1 := by decide +kernel
theorem t_Model_ok : ∀ k, k < 26 → parseFieldDescriptor (T_Model k).2.2.1 = some (y_Model_t k) := by decide +kernel
theorem t_Model_in0 : ∀ w ∈ u_ws N_Model T_Model 26, w ∈ lw_tbl := by decide +kernel
theorem t_Model_good : ∀ w ∈ u_ws N_Model T_Model 26, goodWord w = true := by decide +kernel
theorem t_Model_in : ∀ w ∈ u_ws N_Model T_Model 26, w ∈ TG := fun w h => List.mem_filter.mpr ⟨t_Model_in0 w h, t_Model_good w h⟩
abbrev classes : List vw_C := [(N_Orders, T_Orders, 2), (N_Readings, T_Readings, 7), (N_Search, T_Search, 8), (N_Sheet, T_Sheet, 4), (N_Text, T_Text, 4), (N_Trials, T_Trials, 4), (N_Walk, T_Walk, 6), (N_Way, T_Way, 8), (N_Main, T_Main, 9), (N_Model, T_Model, 26)]
/-! the world: 46 cells, numbers in M -/
abbrev Mem : Type := Nat → Nat → Int32
def mrow (M : Mem) (k : Nat) (f : Nat → Int32) : Mem := fun q => if q = k then f else M q
def mset (M : Mem) (k j : Nat) (v : Int32) : Mem := mrow M k (upd (M k) j v)
abbrev GG : Type := va_G × ClassId × ClassId × (Nat → Nat)
def ent (g : GG) (k : Nat) (m : Nat → Int32) : va_E := match k with
  | 0 => .inr (8, [.ref (g.2.2.2 1), .ref (g.2.2.2 10), .ref (g.2.2.2 12), .ref (g.2.2.2 18), .ref (g.2.2.2 21), .ref (g.2.2.2 25), .ref (g.2.2.2 26), .int (m 7), .int (m 8)])
  | 1 => .inl (g.2.2.1, 4, .inr (.inr (.inr (.inr (fun j => some (g.2.2.2 (2 + j)))))))
  | 2 => .inr (3, [.ref (g.2.2.2 6), .int (m 1), .int (m 2), .int (m 3)])
  | 3 => .inr (3, [.ref (g.2.2.2 7), .int (m 1), .int (m 2), .int (m 3)])
  | 4 => .inr (3, [.ref (g.2.2.2 8), .int (m 1), .int (m 2), .int (m 3)])
  | 5 => .inr (3, [.ref (g.2.2.2 9), .int (m 1), .int (m 2), .int (m 3)])
  | 6 => .inl (g.2.1, 60, .inl m)
  | 7 => .inl (g.2.1, 60, .inl m)
  | 8 => .inl (g.2.1, 60, .inl m)
  | 9 => .inl (g.2.1, 60, .inl m)
  | 10 => .inr (4, [.ref (g.2.2.2 11), .int (m 1), .int (m 2), .int (m 3)])
  | 11 => .inl (g.2.1, 60, .inl m)
  | 12 => .inr (7, [.ref (g.2.2.2 13), .ref (g.2.2.2 14), .ref (g.2.2.2 15), .ref (g.2.2.2 16), .ref (g.2.2.2 17), .int (m 5), .int (m 6), .int (m 7)])
  | 13 => .inl (g.2.1, 6, .inl m)
  | 14 => .inl (g.2.1, 6, .inl m)
  | 15 => .inl (g.2.1, 6, .inl m)
  | 16 => .inl (g.2.1, 6, .inl m)
  | 17 => .inl (g.2.1, 5, .inl m)
  | 18 => .inr (6, [.ref (g.2.2.2 12), .ref (g.2.2.2 19), .ref (g.2.2.2 20), .int (m 3), .int (m 4), .int (m 5)])
  | 19 => .inl (g.2.1, 6, .inl m)
  | 20 => .inl (g.2.1, 5, .inl m)
  | 21 => .inr (2, [.ref (g.2.2.2 12), .ref (g.2.2.2 18), .ref (g.2.2.2 22), .ref (g.2.2.2 24), .int (m 4), .int (m 5), .int (m 6), .int (m 7)])
  | 22 => .inr (0, [.ref (g.2.2.2 23), .int (m 1)])
  | 23 => .inl (g.2.1, 5, .inl m)
  | 24 => .inl (g.2.1, 5, .inl m)
  | 25 => .inr (5, [.ref (g.2.2.2 12), .ref (g.2.2.2 18), .int (m 2), .int (m 3)])
  | 26 => .inr (1, [.ref (g.2.2.2 12), .ref (g.2.2.2 18), .ref (g.2.2.2 27), .ref (g.2.2.2 28), .int (m 4), .int (m 5), .int (m 6)])
  | 27 => .inl (g.2.1, 8, .inl m)
  | 28 => .inl (g.2.1, 8, .inl m)
  | 29 => .inr (9, [.int (m 0), .int (m 1), .ref (g.2.2.2 30), .ref (g.2.2.2 31), .ref (g.2.2.2 32), .int (m 5), .int (m 6), .ref (g.2.2.2 33), .ref (g.2.2.2 34), .ref (g.2.2.2 35), .ref (g.2.2.2 36), .ref (g.2.2.2 37), .int (m 12), .int (m 13), .int (m 14), .int (m 15), .ref (g.2.2.2 38), .ref (g.2.2.2 39), .int (m 18), .ref (g.2.2.2 40), .ref (g.2.2.2 41), .ref (g.2.2.2 42), .ref (g.2.2.2 43), .int (m 23), .ref (g.2.2.2 44), .ref (g.2.2.2 45)])
  | 30 => .inl (g.2.1, 4, .inl m)
  | 31 => .inl (g.2.1, 4, .inl m)
  | 32 => .inl (g.2.1, 240, .inl m)
  | 33 => .inl (g.2.1, 6, .inl m)
  | 34 => .inl (g.2.1, 6, .inl m)
  | 35 => .inl (g.2.1, 6, .inl m)
  | 36 => .inl (g.2.1, 6, .inl m)
  | 37 => .inl (g.2.1, 5, .inl m)
  | 38 => .inl (g.2.1, 24, .inl m)
  | 39 => .inl (g.2.1, 5, .inl m)
  | 40 => .inl (g.2.1, 5, .inl m)
  | 41 => .inl (g.2.1, 6, .inl m)
  | 42 => .inl (g.2.1, 5, .inl m)
  | 43 => .inl (g.2.1, 5, .inl m)
  | 44 => .inl (g.2.1, 8, .inl m)
  | 45 => .inl (g.2.1, 8, .inl m)
  | _ => .inl (g.2.1, 0, .inl m)
def wsOf (g : GG) (M : Mem) : va_W := (List.range 46).map (fun k => (g.2.2.2 k, ent g k (M k)))
def AW (g : GG) : Nat → Prop := fun q => ∃ k, k < 46 ∧ q = g.2.2.2 k
def WP (g : GG) (M : Mem) (H : Heap) : Prop := va_P g.1 classes (wsOf g M) H
abbrev tysOf (g : GG) : List (ClassId × FieldType) := [(g.2.1, .int), (g.2.2.1, .object "TrickHouses$Sheet")]
def y_isBelow : MethodName := ⟨N_Main, "isBelow", "(II)Z"⟩
abbrev nw1 : Cond := .methodLinkNest N_Text 55 y_isBelow N_Main
abbrev nw2 : Cond := .methodLinkNest N_Way 52 y_isBelow N_Main
def WK (g : GG) (U : State) : Prop := va_K g.1 classes (tysOf g) U ∧ va_Nw nw1 U ∧ va_Nw nw2 U
def WI (g : GG) : Prop := ∀ i j, i < 46 → j < 46 → g.2.2.2 i = g.2.2.2 j → i = j
theorem WK.warm {g : GG} {s U : State} (h : WK g s) (hW : s.WarmedH U.vm) : WK g U := ⟨va_K.moved hW.alike h.1, va_Nw.warmM hW h.2.1, va_Nw.warmM hW h.2.2⟩
theorem WK.calling {g : GG} {U : State} {gg : JFrame} {mk : MethodId} {a : Array Value} (h : WK g U) : WK g (U.calling gg mk a) := ⟨va_K.moved (u := U) (U := U.calling gg mk a) (Vm.Alike.refl U.vm) h.1, va_Nw.same rfl (u := U) rfl h.2.1, va_Nw.same rfl (u := U) rfl h.2.2⟩
theorem ws_at (g : GG) (M : Mem) {k : Nat} (hk : k < 46) : (wsOf g M)[k]? = some (g.2.2.2 k, ent g k (M k)) := by
  simp [wsOf, hk]
theorem ws_ge (g : GG) (M : Mem) {k : Nat} (hk : ¬ k < 46) : (wsOf g M)[k]? = none := by
  simp [wsOf]; omega
theorem ws_set (g : GG) (M : Mem) {k : Nat} (hk : k < 46) (f : Nat → Int32) : (wsOf g M).set k (g.2.2.2 k, ent g k f) = wsOf g (mrow M k f) := by
  apply List.ext_getElem?
  intro i
  by_cases hi : i < 46
  · by_cases hik : i = k
    · subst hik
      rw [List.getElem?_set_self (by simp [wsOf]; omega), ws_at g _ hi]
      simp [mrow]
    · rw [List.getElem?_set_ne (Ne.symm hik), ws_at g _ hi, ws_at g _ hi]
      simp [mrow, hik]
  · rw [ws_ge g _ hi, List.getElem?_set_ne (by omega), ws_ge g _ hi]
theorem ws_D {g : GG} (h : WI g) (M : Mem) : va_D (AW g) (wsOf g M) := by
  have key : ∀ (i : Nat) (q : Nat × va_E), (wsOf g M)[i]? = some q → i < 46 ∧ q.1 = g.2.2.2 i := by
    intro i q hq
    by_cases hi : i < 46
    · rw [ws_at g M hi] at hq
      cases hq
      exact ⟨hi, rfl⟩
    · rw [ws_ge g M hi] at hq
      cases hq
  refine ⟨fun i j x y hx hy e => ?_, fun k q hq => ⟨k, (key k q hq).1, (key k q hq).2⟩⟩
  obtain ⟨h1, e1⟩ := key i x hx
  obtain ⟨h2, e2⟩ := key j y hy
  exact h i j h1 h2 (by rw [← e1, ← e2, e])
section RW
variable {p : Program} {l : Launch} {e : Env} {R : Room} {s : State} {m : MethodId} {args : Array Value} {below : List Frame} {meth : Method} {c : Code} {H H0 : Heap} {locs : List Loc} {cells slots : Nat} {Q : State → Prop}
variable {cc : ByteArray} {pc nL : Nat} {ls : Array Slot} {rest : List Value} {own : String} {g : GG} {M : Mem}
theorem r_get {Cn : String} {T : u_T} {N ci : Nat} (hin : ∀ w ∈ u_ws Cn T N, w ∈ TG) (hc : classes[ci]? = some (Cn, T, N)) (k : Nat) (hk : k < 46) {fs : List Value} (he : ent g k (M k) = .inr (ci, fs)) (j : Nat) (hj : j < N) (hd : (T j).1 = Cn) {v : Value} (hv : fs[j]? = some v)
    (C : CallFix p m c cc nL s args TG own) (hW : WK g s) (hP : WP g M H) {index : Nat} (hl : Cond.fieldLink own index Cn (T j).2.1 (T j).2.2.1 ∈ TG) (hdg : decode cc pc = .ok (.getfield index, 3))
    (kk : W p l e R s m args below meth c H locs cells slots Q (F0 m (pc + 3) ls (v :: rest))) : W p l e R s m args below meth c H locs cells slots Q (F0 m pc ls (.ref (g.2.2.2 k) :: rest)) := by
  refine va_get (D := g.1) (cl := classes) (ci := ci) (C := Cn) (T := T) (N := N) (tys := tysOf g) C.1 C.2.1 C.2.2.2.2 hin C.2.2.2.1 hW.1 hP k (by rw [ws_at g M hk, he]) hc j hj (C.2.2.2.2 _ hl) (fun x h => by rw [hd] at h; exact h) hv hdg kk
theorem r_put {Cn : String} {T : u_T} {N ci : Nat} (hin : ∀ w ∈ u_ws Cn T N, w ∈ TG) (ty0 : Nat → FieldType) (hty : ∀ k, k < N → parseFieldDescriptor (T k).2.2.1 = some (ty0 k)) (hnm : ∀ a, a < N → ∀ b, b < N → a ≠ b → (T a).2.1 ≠ (T b).2.1) (hc : classes[ci]? = some (Cn, T, N)) (k : Nat) (hk : k < 46) {fs : List Value} (he : ent g k (M k) = .inr (ci, fs)) (j : Nat) (hj : j < N) (hd : (T j).1 = Cn) (hfin : (T j).2.2.2 = false) {v : Int32} {ty : FieldType} (hpd : parseFieldDescriptor (T j).2.2.1 = some ty) (hn : narrow ty (.int v) = .int v) (hfit : fits ty (.int v) = true) (hlen : j < fs.length) (hs : .inr (ci, fs.set j (.int v)) = ent g k (upd (M k) j v)) (hI : WI g)
    (C : CallFix p m c cc nL s args TG own) (hW : WK g s) (hP : WP g M H) (hS : va_S (AW g) H0 H locs) {index : Nat} (hl : Cond.fieldLink own index Cn (T j).2.1 (T j).2.2.1 ∈ TG) (hdg : decode cc pc = .ok (.putfield index, 3))
    (kk : ∀ (H1 : Heap) (locs1 : List Loc), WP g (mset M k j v) H1 → va_S (AW g) H0 H1 locs1 → W p l e R s m args below meth c H1 locs1 cells slots Q (F0 m (pc + 3) ls rest)) : W p l e R s m args below meth c H locs cells slots Q (F0 m pc ls (.int v :: .ref (g.2.2.2 k) :: rest)) := by
  refine va_put (D := g.1) (cl := classes) (ci := ci) (C := Cn) (T := T) (N := N) (tys := tysOf g) C.1 C.2.1 C.2.2.2.2 hin ty0 hty hnm C.2.2.2.1 hW.1 hP (ws_D hI M) hS k (by rw [ws_at g M hk, he]) hc j hj (C.2.2.2.2 _ hl) (fun x h => by rw [hd] at h; exact h) hfin hpd hn hfit hlen hdg (fun H1 locs1 hP1 _ hS1 => ?_)
  rw [hs, ws_set g M hk] at hP1
  exact kk H1 locs1 hP1 hS1
theorem r_ald (k : Nat) (hk : k < 46) {n : Nat} (he : ent g k (M k) = .inl (g.2.1, n, .inl (M k)))
    (C : CallFix p m c cc nL s args TG own) (hW : WK g s) (hP : WP g M H) {i : Int32} (hin : vp_in i n) (hdg : decode cc pc = .ok (.iaload, 1))
    (kk : W p l e R s m args below meth c H locs cells slots Q (F0 m (pc + 1) ls (.int (M k i.toNatClampNeg) :: rest))) : W p l e R s m args below meth c H locs cells slots Q (F0 m pc ls (.int i :: .ref (g.2.2.2 k) :: rest)) :=
  va_iald (tys := tysOf g) C.1 C.2.1 hW.1 hP k 0 (by rw [ws_at g M hk, he]) rfl hin hdg kk
theorem r_ast (k : Nat) (hk : k < 46) {n : Nat} (he : ∀ f, ent g k f = .inl (g.2.1, n, .inl f)) (hI : WI g)
    (C : CallFix p m c cc nL s args TG own) (hW : WK g s) (hP : WP g M H) (hS : va_S (AW g) H0 H locs) {i x : Int32} (hin : vp_in i n) (hdg : decode cc pc = .ok (.iastore, 1))
    (kk : ∀ (H1 : Heap) (locs1 : List Loc), WP g (mset M k i.toNatClampNeg x) H1 → va_S (AW g) H0 H1 locs1 → W p l e R s m args below meth c H1 locs1 cells slots Q (F0 m (pc + 1) ls rest)) : W p l e R s m args below meth c H locs cells slots Q (F0 m pc ls (.int x :: .int i :: .ref (g.2.2.2 k) :: rest)) := by
  refine va_iast (tys := tysOf g) C.1 C.2.1 hW.1 hP (ws_D hI M) hS k 0 (by rw [ws_at g M hk, he]) rfl hin hdg (fun H1 locs1 hP1 _ hS1 => ?_)
  rw [← he, ws_set g M hk] at hP1
  exact kk H1 locs1 hP1 hS1
end RW
end
section
/-! contracts and calls over the one world -/
def PQ (g : GG) (R : Option Value → Mem → Prop) : Array Value → State → Outcome → State → Prop := fun _ st oc t => (∃ (v : Option Value) (M1 : Mem), oc = .returned v ∧ R v M1 ∧ WP g M1 t.heap) ∧ va_F (AW g) st t
def RI (R : Int32 → Mem → Prop) : Option Value → Mem → Prop := fun v M => ∃ r, v = some (.int r) ∧ R r M
def RZ (R : Int32 → Mem → Prop) : Option Value → Mem → Prop := fun v M => ∃ r, v = some (.int r) ∧ narrow .boolean (.int r) = .int r ∧ R r M
def RL (R : Int64 → Mem → Prop) : Option Value → Mem → Prop := fun v M => ∃ r, v = some (.long r) ∧ R r M
def RV (R : Mem → Prop) : Option Value → Mem → Prop := fun v M => v = none ∧ R M
def RO (g : GG) (R : Option Nat → Mem → Prop) : Option Value → Mem → Prop := fun v M => (v = some .null ∧ R none M) ∨ ∃ q, q < 4 ∧ v = some (.ref (g.2.2.2 (2 + q))) ∧ R (some q) M
abbrev PP (g : GG) (M : Mem) (av : List Value) : Array Value → State → Prop := va_Pc av (fun U => WP g M U.heap ∧ WK g U)
abbrev RM (f n : Nat) : Room := { frames := f, cells := 0, slots := 0, locals := n }
def CBV (y : MethodName) (b : ByteArray) (mL : Nat) (ret : Option FieldType) (Cn : String) (n : Nat) : Prop := (Cond.instanceMethod y ∈ TG ∧ Cond.selects Cn y y ∈ TG ∧ Cond.initialized Cn ∈ TG ∧ Cond.code y b mL ret ∈ TG) ∧ (y.cls = Cn ∧ y.cls ≠ "java/lang/invoke/MethodHandle" ∧ y.cls ≠ "java/lang/invoke/VarHandle" ∧ (parseMethodDescriptor y.desc).map (fun d => d.parameters.length) = some n)
def CBS (y : MethodName) (b : ByteArray) (mL : Nat) (ret : Option FieldType) (n : Nat) : Prop := (Cond.static y ∈ TG ∧ Cond.initialized y.cls ∈ TG ∧ Cond.code y b mL ret ∈ TG) ∧ (y.cls ≠ "java/lang/invoke/MethodHandle" ∧ y.cls ≠ "java/lang/invoke/VarHandle" ∧ (parseMethodDescriptor y.desc).map (fun d => d.parameters.length) = some n)
def IsOb (g : GG) (M : Mem) (k ci : Nat) (Cn : String) : Prop := k < 46 ∧ (∃ fs, ent g k (M k) = .inr (ci, fs)) ∧ ∃ q, classes[ci]? = some (Cn, q)
theorem wm_in {y : MethodName} {b : ByteArray} {n : Nat} {ret : Option FieldType} (h : Cond.code y b n ret ∈ TG) {w : Cond} (hw : w ∈ wm y b n ret) : w ∈ TG := (List.mem_cons.mp hw).elim (fun e => by rw [e]; exact h) id
theorem PP_blind {g : GG} {M : Mem} {av : List Value} : FrameBlind (PP g M av) := fun _ _ _ _ h => ⟨h.1, h.2.1, h.2.2.calling⟩
section CW
variable {p : Program} {l : Launch} {e : Env} {R : Room} {s : State} {m : MethodId} {args : Array Value} {below : List Frame} {meth : Method} {c : Code} {H H0 : Heap} {locs : List Loc} {cells slots : Nat} {Q : State → Prop}
variable {cc : ByteArray} {pc nL : Nat} {ls : Array Slot} {rest st0 : List Value} {own : String} {g : GG} {M : Mem} {a : Array Value}
theorem r_run {R1 : Option Value → Mem → Prop} (hr : va_Run p l e R s m args below meth c H locs cells slots 0 0 (F0 m pc ls st0) rest (PQ g R1 a) (AW g)) (hS : va_S (AW g) H0 H locs)
    (kk : ∀ (v : Option Value) (M1 : Mem) (H1 : Heap) (locs1 : List Loc), R1 v M1 → WP g M1 H1 → va_S (AW g) H0 H1 locs1 → W p l e R s m args below meth c H1 locs1 cells slots Q (F0 m (pc + 3) ls (v.toList ++ rest))) : W p l e R s m args below meth c H locs cells slots Q (F0 m pc ls st0) := by
  intro T hT X
  obtain ⟨v, st₀, t, T', L, h0, X', hL, e1, e2, ⟨⟨v', M1, hv, hR, hP⟩, hz, hk⟩, st⟩ := hr T hT X
  cases hv
  rw [h0] at hz hk
  obtain ⟨t2, a1, b1⟩ := kk v M1 T'.heap (locs ++ L) hR (by rw [e1]; exact hP)
    ⟨Nat.le_trans hS.1 (by rw [e1]; exact hz), fun q h1 h2 => by rw [e1, hk q (Nat.lt_of_lt_of_le h1 hS.1) h2]; exact hS.2.1 q h1 h2, fun q hq => by
      rcases List.mem_append.mp hq with h | h
      · exact hS.2.2 q h
      · exact hL q h⟩ T' rfl X'
  exact ⟨t2, st t2 a1, b1⟩
theorem r_runI {R1 : Int32 → Mem → Prop} (hr : va_Run p l e R s m args below meth c H locs cells slots 0 0 (F0 m pc ls st0) rest (PQ g (RI R1) a) (AW g)) (hS : va_S (AW g) H0 H locs)
    (kk : ∀ (r : Int32) (M1 : Mem) (H1 : Heap) (locs1 : List Loc), R1 r M1 → WP g M1 H1 → va_S (AW g) H0 H1 locs1 → W p l e R s m args below meth c H1 locs1 cells slots Q (F0 m (pc + 3) ls (.int r :: rest))) : W p l e R s m args below meth c H locs cells slots Q (F0 m pc ls st0) :=
  r_run hr hS (fun v M1 H1 locs1 hR hP hS1 => by obtain ⟨r, rfl, h⟩ := hR; exact kk r M1 H1 locs1 h hP hS1)
theorem r_runZ {R1 : Int32 → Mem → Prop} (hr : va_Run p l e R s m args below meth c H locs cells slots 0 0 (F0 m pc ls st0) rest (PQ g (RZ R1) a) (AW g)) (hS : va_S (AW g) H0 H locs)
    (kk : ∀ (r : Int32) (M1 : Mem) (H1 : Heap) (locs1 : List Loc), narrow .boolean (.int r) = .int r → R1 r M1 → WP g M1 H1 → va_S (AW g) H0 H1 locs1 → W p l e R s m args below meth c H1 locs1 cells slots Q (F0 m (pc + 3) ls (.int r :: rest))) : W p l e R s m args below meth c H locs cells slots Q (F0 m pc ls st0) :=
  r_run hr hS (fun v M1 H1 locs1 hR hP hS1 => by obtain ⟨r, rfl, h0, h⟩ := hR; exact kk r M1 H1 locs1 h0 h hP hS1)
theorem r_runL {R1 : Int64 → Mem → Prop} (hr : va_Run p l e R s m args below meth c H locs cells slots 0 0 (F0 m pc ls st0) rest (PQ g (RL R1) a) (AW g)) (hS : va_S (AW g) H0 H locs)
    (kk : ∀ (r : Int64) (M1 : Mem) (H1 : Heap) (locs1 : List Loc), R1 r M1 → WP g M1 H1 → va_S (AW g) H0 H1 locs1 → W p l e R s m args below meth c H1 locs1 cells slots Q (F0 m (pc + 3) ls (.long r :: rest))) : W p l e R s m args below meth c H locs cells slots Q (F0 m pc ls st0) :=
  r_run hr hS (fun v M1 H1 locs1 hR hP hS1 => by obtain ⟨r, rfl, h⟩ := hR; exact kk r M1 H1 locs1 h hP hS1)
theorem r_runV {R1 : Mem → Prop} (hr : va_Run p l e R s m args below meth c H locs cells slots 0 0 (F0 m pc ls st0) rest (PQ g (RV R1) a) (AW g)) (hS : va_S (AW g) H0 H locs)
    (kk : ∀ (M1 : Mem) (H1 : Heap) (locs1 : List Loc), R1 M1 → WP g M1 H1 → va_S (AW g) H0 H1 locs1 → W p l e R s m args below meth c H1 locs1 cells slots Q (F0 m (pc + 3) ls rest)) : W p l e R s m args below meth c H locs cells slots Q (F0 m pc ls st0) :=
  r_run hr hS (fun v M1 H1 locs1 hR hP hS1 => by obtain ⟨rfl, h⟩ := hR; exact kk M1 H1 locs1 h hP hS1)
theorem r_runO {R1 : Option Nat → Mem → Prop} (hr : va_Run p l e R s m args below meth c H locs cells slots 0 0 (F0 m pc ls st0) rest (PQ g (RO g R1) a) (AW g)) (hS : va_S (AW g) H0 H locs)
    (k0 : ∀ (M1 : Mem) (H1 : Heap) (locs1 : List Loc), R1 none M1 → WP g M1 H1 → va_S (AW g) H0 H1 locs1 → W p l e R s m args below meth c H1 locs1 cells slots Q (F0 m (pc + 3) ls (.null :: rest)))
    (k1 : ∀ (q : Nat) (M1 : Mem) (H1 : Heap) (locs1 : List Loc), q < 4 → R1 (some q) M1 → WP g M1 H1 → va_S (AW g) H0 H1 locs1 → W p l e R s m args below meth c H1 locs1 cells slots Q (F0 m (pc + 3) ls (.ref (g.2.2.2 (2 + q)) :: rest))) : W p l e R s m args below meth c H locs cells slots Q (F0 m pc ls st0) :=
  r_run hr hS (fun v M1 H1 locs1 hR hP hS1 => by
    rcases hR with ⟨rfl, h⟩ | ⟨q, hq, rfl, h⟩
    · exact k0 M1 H1 locs1 h hP hS1
    · exact k1 q M1 H1 locs1 hq h hP hS1)
theorem k_V {R1 : Option Value → Mem → Prop} {y : MethodName} {b : ByteArray} {mL n ci k index f1 n1 : Nat} {ret : Option FieldType} {Cn : String} {As : List Value}
    (C : CallFix p m c cc nL s args TG own) (hW : WK g s) (hP : WP g M H) (hM : Met l y (wm y b mL ret) (RM f1 n1) (PP g M (.ref (g.2.2.2 k) :: As)) (PQ g R1) 0 0 (AW g)) (hcb : CBV y b mL ret Cn n) (hml : Cond.methodLink own index y ∈ TG) (ho : IsOb g M k ci Cn)
    (hroom : f1 + 1 ≤ R.frames ∧ 8 + (mL + 11) + n1 ≤ R.locals) (hn : As.length = n) (hl : ls.size = nL) (hst : st0 = As.reverse ++ .ref (g.2.2.2 k) :: rest) (hrest : (rest.map fun v => v.category).sum ≤ 8) (hdg : decode cc pc = .ok (.invokevirtual index, 3)) (hf : cells ≤ R.cells ∧ slots ≤ R.slots) :
    va_Run p l e R s m args below meth c H locs cells slots 0 0 (F0 m pc ls st0) rest (PQ g R1 (Value.ref (g.2.2.2 k) :: As).toArray) (AW g) := by
  obtain ⟨hk, ⟨fs, he⟩, q, hc⟩ := ho
  obtain ⟨⟨h1, h2, h3, h4⟩, hd⟩ := hcb
  have hG : GoodIn TG (wsV own index Cn y (wm y b mL ret)) := TG_in (fun w hw => by
    rcases List.mem_append.mp hw with h | h
    · simp only [List.mem_cons, List.not_mem_nil, or_false] at h
      rcases h with rfl | rfl | rfl | rfl
      · exact hml
      · exact h1
      · exact h2
      · exact h3
    · exact wm_in h4 h)
  exact va_runV C hM (cwV n C.2.2.2.2 hG rfl rfl rfl hd hroom) ⟨PP_blind, va_recv hW.1 hP hc (by rw [ws_at g M hk, he]), fun U hU hWm => ⟨rfl, by rw [hU]; exact hP, hW.warm hWm⟩⟩ rfl hn hl hst (lv_room hrest) hdg hf
theorem k_S {R1 : Option Value → Mem → Prop} {y : MethodName} {b : ByteArray} {mL n index f1 n1 : Nat} {ret : Option FieldType} {As : List Value}
    (C : CallFix p m c cc nL s args TG own) (hW : WK g s) (hP : WP g M H) (hM : Met l y (wm y b mL ret) (RM f1 n1) (PP g M As) (PQ g R1) 0 0 (AW g)) (hcb : CBS y b mL ret n) (hml : Cond.methodLink own index y ∈ TG)
    (hroom : f1 + 1 ≤ R.frames ∧ 8 + (mL + 11) + n1 ≤ R.locals) (hn : As.length = n) (hl : ls.size = nL) (hst : st0 = As.reverse ++ rest) (hrest : (rest.map fun v => v.category).sum ≤ 8) (hdg : decode cc pc = .ok (.invokestatic index, 3)) (hf : cells ≤ R.cells ∧ slots ≤ R.slots) :
    va_Run p l e R s m args below meth c H locs cells slots 0 0 (F0 m pc ls st0) rest (PQ g R1 As.toArray) (AW g) := by
  obtain ⟨⟨h1, h3, h4⟩, hd⟩ := hcb
  have hG : GoodIn TG (va_wsS own index y (wm y b mL ret)) := TG_in (fun w hw => by
    rcases List.mem_append.mp hw with h | h
    · simp only [List.mem_cons, List.not_mem_nil, or_false] at h
      rcases h with rfl | rfl | rfl
      · exact hml
      · exact h1
      · exact h3
    · exact wm_in h4 h)
  exact va_runS C hM (va_cwS n C.2.2.2.2 hG rfl rfl rfl hd hroom) ⟨PP_blind, fun U hU hWm => ⟨rfl, by rw [hU]; exact hP, hW.warm hWm⟩⟩ rfl hn hl hst (lv_room hrest) hdg hf
theorem k_N {R1 : Option Value → Mem → Prop} {y : MethodName} {b : ByteArray} {mL n index f1 n1 : Nat} {ret : Option FieldType} {host : String} {As : List Value}
    (C : CallFix p m c cc nL s args TG own) (hW : WK g s) (hP : WP g M H) (hM : Met l y (wm y b mL ret) (RM f1 n1) (PP g M As) (PQ g R1) 0 0 (AW g)) (hcb : CBS y b mL ret n) (hml : va_Nw (.methodLinkNest own index y host) s)
    (hroom : f1 + 1 ≤ R.frames ∧ 8 + (mL + 11) + n1 ≤ R.locals) (hn : As.length = n) (hl : ls.size = nL) (hst : st0 = As.reverse ++ rest) (hrest : (rest.map fun v => v.category).sum ≤ 8) (hdg : decode cc pc = .ok (.invokestatic index, 3)) (hf : cells ≤ R.cells ∧ slots ≤ R.slots) :
    va_Run p l e R s m args below meth c H locs cells slots 0 0 (F0 m pc ls st0) rest (PQ g R1 As.toArray) (AW g) := by
  obtain ⟨⟨h1, h3, h4⟩, hd⟩ := hcb
  exact va_runSN C hM ⟨va_cnB n C.2.2.2.2 (TG_in (fun w hw => wm_in h4 hw)) rfl rfl rfl hml (C.2.2.2.2 _ h3) hd hroom, C.2.2.2.2 _ h1, trivial⟩ ⟨PP_blind, fun U hU hWm => ⟨rfl, by rw [hU]; exact hP, hW.warm hWm⟩⟩ rfl hn hl hst (lv_room hrest) hdg hf
/-! answers -/
theorem r_iret {R1 : Int32 → Mem → Prop} {v : Int32} (C : CallFix p m c cc nL s args TG own) (hr : meth.sig.returnType = some .int) (hlocks : meth.locks = false) (hP : WP g M H) (hS : va_S (AW g) s.heap H locs) (hk : R1 v M) (hdg : decode cc pc = .ok (.ireturn, 1)) :
    W p l e R s m args below meth c H locs cells slots (MQ below (PQ g (RI R1)) args s cells slots (AW g)) (F0 m pc ls [.int v]) :=
  W.iret (hlocks := hlocks) C.1 C.2.1 hr (fun t ht _ => ⟨⟨_, M, rfl, ⟨v, rfl, hk⟩, by rw [ht]; exact hP⟩, hS.F ht⟩) hS.2.2 hdg
theorem r_zret {R1 : Int32 → Mem → Prop} {v : Int32} (hz : narrow .boolean (.int v) = .int v) (C : CallFix p m c cc nL s args TG own) (hr : meth.sig.returnType = some .boolean) (hlocks : meth.locks = false) (hP : WP g M H) (hS : va_S (AW g) s.heap H locs) (hk : R1 v M) (hdg : decode cc pc = .ok (.ireturn, 1)) :
    W p l e R s m args below meth c H locs cells slots (MQ below (PQ g (RZ R1)) args s cells slots (AW g)) (F0 m pc ls [.int v]) :=
  W.zret (hlocks := hlocks) C.1 C.2.1 hr hz (fun t ht _ => ⟨⟨_, M, rfl, ⟨v, rfl, hz, hk⟩, by rw [ht]; exact hP⟩, hS.F ht⟩) hS.2.2 hdg
theorem r_lret {R1 : Int64 → Mem → Prop} {v : Int64} (C : CallFix p m c cc nL s args TG own) (hr : meth.sig.returnType = some .long) (hlocks : meth.locks = false) (hP : WP g M H) (hS : va_S (AW g) s.heap H locs) (hk : R1 v M) (hdg : decode cc pc = .ok (.lreturn, 1)) :
    W p l e R s m args below meth c H locs cells slots (MQ below (PQ g (RL R1)) args s cells slots (AW g)) (F0 m pc ls [.long v]) :=
  W.lret (hlocks := hlocks) C.1 C.2.1 hr (fun t ht _ => ⟨⟨_, M, rfl, ⟨v, rfl, hk⟩, by rw [ht]; exact hP⟩, hS.F ht⟩) hS.2.2 hdg
theorem r_vret {R1 : Mem → Prop} (C : CallFix p m c cc nL s args TG own) (hr : meth.sig.returnType = none) (hlocks : meth.locks = false) (hP : WP g M H) (hS : va_S (AW g) s.heap H locs) (hk : R1 M) (hdg : decode cc pc = .ok (.return_, 1)) :
    W p l e R s m args below meth c H locs cells slots (MQ below (PQ g (RV R1)) args s cells slots (AW g)) (F0 m pc ls []) :=
  W.vret (hlocks := hlocks) C.1 C.2.1 hr (fun t ht _ => ⟨⟨_, M, rfl, ⟨rfl, hk⟩, by rw [ht]; exact hP⟩, hS.F ht⟩) hS.2.2 hdg
end CW
/-- the start of every contract: the machine's facts, the world, the words -/
theorem m_of {l : Launch} {y : MethodName} {b : ByteArray} {mL f1 n1 : Nat} {ret : Option FieldType} {own : String} {g : GG} {M : Mem} {av : List Value} {R1 : Option Value → Mem → Prop} (hy : plainName y.cls = true) (hown : y.cls = own)
    (hlen : (lg_sl av).length ≤ mL)
    (body : ∀ (p : Program) (e : Env) (s : State) (m : MethodId) (below : List Frame) (meth : Method) (c : Code) (ls : Array Slot), CallFix p m c b mL s av.toArray TG own → meth.sig.returnType = ret → meth.locks = false → WK g s → WP g M s.heap → va_S (AW g) s.heap s.heap [] → lv_has ls mL (lv_args 0 av) →
      W p l e (RM f1 n1) s m av.toArray below meth c s.heap [] 0 0 (MQ below (PQ g R1) av.toArray s 0 0 (AW g)) (F0 m 0 ls [])) : Met l y (wm y b mL ret) (RM f1 n1) (PP g M av) (PQ g R1) 0 0 (AW g) := by
  refine Met.ofW (cc := b) (maxL := mL) (ret := ret) hy rfl ?_
  intro p e s m args below meth c s₁ B hml hv
  obtain ⟨rfl, hP, hK⟩ := hv
  have hts := atoms_spec (ws := wm y b mL ret) B.pre
  have ho : s.vm.findClass own = some m.cls := by rw [← hown]; exact findClass_of_methodNamed B.named
  have hl := lv_entry av (n := mL) hlen
  rw [lg_entry_eq]
  generalize (lg_sl av ++ List.replicate (mL - (lg_sl av).length) Slot.unset).toArray = ls at hl ⊢
  exact body p e s m below meth c ls ⟨B.exec, B.bytes, hml, ho, fun w hw => hts w (List.mem_cons_of_mem _ hw)⟩ B.returns B.notSynchronized hK hP va_S.rf hl
end
section
/-! names of methods, words of the tables that calls and fields rest on -/
def N_Int : String := "java/lang/Integer"
def N_Arr : String := "java/util/Arrays"
def N_Law : String := "TrickHousesLaw"
abbrev b_Main_way : ByteArray := prog_1_method_2_code
def y_Main_way : MethodName := ⟨N_Main, "way", "(IIII)I"⟩
abbrev b_Main_sheetOf : ByteArray := prog_1_method_33_code
def y_Main_sheetOf : MethodName := ⟨N_Main, "sheetOf", "(I)LTrickHouses$Sheet;"⟩
abbrev b_Main_isBelow : ByteArray := prog_1_method_32_code
abbrev y_Main_isBelow : MethodName := y_isBelow
abbrev b_Sheet_faultOfTaking : ByteArray := prog_5_method_5_code
def y_Sheet_faultOfTaking : MethodName := ⟨N_Sheet, "faultOfTaking", "(III)I"⟩
abbrev b_Sheet_holds : ByteArray := prog_5_method_4_code
def y_Sheet_holds : MethodName := ⟨N_Sheet, "holds", "(II)Z"⟩
abbrev b_Main_failed : ByteArray := prog_1_method_34_code
def y_Main_failed : MethodName := ⟨N_Main, "failed", "(I)I"⟩
abbrev b_Text_read : ByteArray := prog_6_method_2_code
def y_Text_read : MethodName := ⟨N_Text, "read", "(LTrickHouses$Sheet;II)V"⟩
abbrev b_Text_firstFault : ByteArray := prog_6_method_3_code
def y_Text_firstFault : MethodName := ⟨N_Text, "firstFault", "()I"⟩
abbrev b_Text_codeAt : ByteArray := prog_6_method_10_code
def y_Text_codeAt : MethodName := ⟨N_Text, "codeAt", "(I)I"⟩
abbrev b_Text_goodOfHouse : ByteArray := prog_6_method_8_code
def y_Text_goodOfHouse : MethodName := ⟨N_Text, "goodOfHouse", "(I)I"⟩
abbrev b_Text_kindAt : ByteArray := prog_6_method_11_code
def y_Text_kindAt : MethodName := ⟨N_Text, "kindAt", "(I)I"⟩
abbrev b_Text_digitAt : ByteArray := prog_6_method_12_code
def y_Text_digitAt : MethodName := ⟨N_Text, "digitAt", "(I)I"⟩
abbrev b_Text_goodOfGuest : ByteArray := prog_6_method_9_code
def y_Text_goodOfGuest : MethodName := ⟨N_Text, "goodOfGuest", "(I)I"⟩
abbrev b_Way_become : ByteArray := prog_9_method_2_code
def y_Way_become : MethodName := ⟨N_Way, "become", "(LTrickHouses$Text;)V"⟩
abbrev b_Text_kindOfHouse : ByteArray := prog_6_method_4_code
def y_Text_kindOfHouse : MethodName := ⟨N_Text, "kindOfHouse", "(I)I"⟩
abbrev b_Text_placeOfHouse : ByteArray := prog_6_method_7_code
def y_Text_placeOfHouse : MethodName := ⟨N_Text, "placeOfHouse", "(I)I"⟩
abbrev b_Text_digitOfHouse : ByteArray := prog_6_method_5_code
def y_Text_digitOfHouse : MethodName := ⟨N_Text, "digitOfHouse", "(II)I"⟩
abbrev b_Text_gearOfGuest : ByteArray := prog_6_method_6_code
def y_Text_gearOfGuest : MethodName := ⟨N_Text, "gearOfGuest", "(I)I"⟩
abbrev b_Main_ofHouse : ByteArray := prog_1_method_3_code
def y_Main_ofHouse : MethodName := ⟨N_Main, "ofHouse", "(II)I"⟩
abbrev b_Way_hasHouse : ByteArray := prog_9_method_4_code
def y_Way_hasHouse : MethodName := ⟨N_Way, "hasHouse", "(I)Z"⟩
abbrev b_Main_gear : ByteArray := prog_1_method_4_code
def y_Main_gear : MethodName := ⟨N_Main, "gear", "(I)I"⟩
abbrev b_Way_hasGuest : ByteArray := prog_9_method_5_code
def y_Way_hasGuest : MethodName := ⟨N_Way, "hasGuest", "(I)Z"⟩
abbrev b_Main_give : ByteArray := prog_1_method_5_code
def y_Main_give : MethodName := ⟨N_Main, "give", "(II)I"⟩
abbrev b_Main_bar : ByteArray := prog_1_method_6_code
def y_Main_bar : MethodName := ⟨N_Main, "bar", "(II)I"⟩
abbrev b_Main_passes : ByteArray := prog_1_method_7_code
def y_Main_passes : MethodName := ⟨N_Main, "passes", "(III)I"⟩
abbrev b_Way_usedIn : ByteArray := prog_9_method_8_code
def y_Way_usedIn : MethodName := ⟨N_Way, "usedIn", "(III)I"⟩
abbrev b_Main_visits : ByteArray := prog_1_method_8_code
def y_Main_visits : MethodName := ⟨N_Main, "visits", "(IIIII)I"⟩
abbrev b_Way_isTold : ByteArray := prog_9_method_3_code
def y_Way_isTold : MethodName := ⟨N_Way, "isTold", "()Z"⟩
abbrev b_Main_refusalOfPairs : ByteArray := prog_1_method_35_code
def y_Main_refusalOfPairs : MethodName := ⟨N_Main, "refusalOfPairs", "(LTrickHouses$Sheet;II)I"⟩
abbrev b_Way_everyone : ByteArray := prog_9_method_6_code
def y_Way_everyone : MethodName := ⟨N_Way, "everyone", "()I"⟩
abbrev b_Walk_begin : ByteArray := prog_8_method_2_code
def y_Walk_begin : MethodName := ⟨N_Walk, "begin", "()V"⟩
abbrev b_Arr_fill : ByteArray := prog_14_method_103_code
def y_Arr_fill : MethodName := ⟨N_Arr, "fill", "([II)V"⟩
abbrev b_Walk_visit : ByteArray := prog_8_method_3_code
def y_Walk_visit : MethodName := ⟨N_Walk, "visit", "(III)V"⟩
abbrev b_Way_gearOf : ByteArray := prog_9_method_7_code
def y_Way_gearOf : MethodName := ⟨N_Way, "gearOf", "(I)I"⟩
abbrev b_Walk_enter : ByteArray := prog_8_method_7_code
def y_Walk_enter : MethodName := ⟨N_Walk, "enter", "(II)Z"⟩
abbrev b_Main_ofVisits : ByteArray := prog_1_method_36_code
def y_Main_ofVisits : MethodName := ⟨N_Main, "ofVisits", "(I)I"⟩
abbrev b_Main_going : ByteArray := prog_1_method_9_code
def y_Main_going : MethodName := ⟨N_Main, "going", "(IIIII)I"⟩
abbrev b_Main_isOrder : ByteArray := prog_1_method_37_code
def y_Main_isOrder : MethodName := ⟨N_Main, "isOrder", "(LTrickHouses$Sheet;II)Z"⟩
abbrev b_Walk_goAlone : ByteArray := prog_8_method_5_code
def y_Walk_goAlone : MethodName := ⟨N_Walk, "goAlone", "(I)V"⟩
abbrev b_Walk_send : ByteArray := prog_8_method_4_code
def y_Walk_send : MethodName := ⟨N_Walk, "send", "(I)I"⟩
abbrev b_Main_least : ByteArray := prog_1_method_10_code
def y_Main_least : MethodName := ⟨N_Main, "least", "()I"⟩
abbrev b_Way_leastGear : ByteArray := prog_9_method_10_code
def y_Way_leastGear : MethodName := ⟨N_Way, "leastGear", "()I"⟩
abbrev b_Int_bitCount : ByteArray := prog_12_method_49_code
def y_Int_bitCount : MethodName := ⟨N_Int, "bitCount", "(I)I"⟩
abbrev b_Way_firstNotPassedBy : ByteArray := prog_9_method_9_code
def y_Way_firstNotPassedBy : MethodName := ⟨N_Way, "firstNotPassedBy", "(I)I"⟩
abbrev b_Main_hard : ByteArray := prog_1_method_11_code
def y_Main_hard : MethodName := ⟨N_Main, "hard", "()I"⟩
abbrev b_Main_best : ByteArray := prog_1_method_12_code
def y_Main_best : MethodName := ⟨N_Main, "best", "(I)I"⟩
abbrev b_Search_findBest : ByteArray := prog_4_method_2_code
def y_Search_findBest : MethodName := ⟨N_Search, "findBest", "()V"⟩
abbrev b_Orders_begin : ByteArray := prog_2_method_2_code
def y_Orders_begin : MethodName := ⟨N_Orders, "begin", "(I)I"⟩
abbrev b_Search_goInOrder : ByteArray := prog_4_method_5_code
def y_Search_goInOrder : MethodName := ⟨N_Search, "goInOrder", "()I"⟩
abbrev b_Search_keep : ByteArray := prog_4_method_7_code
def y_Search_keep : MethodName := ⟨N_Search, "keep", "(I)V"⟩
abbrev b_Orders_next : ByteArray := prog_2_method_3_code
def y_Orders_next : MethodName := ⟨N_Orders, "next", "()V"⟩
abbrev b_Orders_lastRise : ByteArray := prog_2_method_5_code
def y_Orders_lastRise : MethodName := ⟨N_Orders, "lastRise", "()I"⟩
abbrev b_Orders_lastAbove : ByteArray := prog_2_method_6_code
def y_Orders_lastAbove : MethodName := ⟨N_Orders, "lastAbove", "(I)I"⟩
abbrev b_Orders_swap : ByteArray := prog_2_method_7_code
def y_Orders_swap : MethodName := ⟨N_Orders, "swap", "(II)V"⟩
abbrev b_Main_twos : ByteArray := prog_1_method_13_code
def y_Main_twos : MethodName := ⟨N_Main, "twos", "(I)I"⟩
abbrev b_Search_findTwos : ByteArray := prog_4_method_3_code
def y_Search_findTwos : MethodName := ⟨N_Search, "findTwos", "()V"⟩
abbrev b_Orders_isOfMates : ByteArray := prog_2_method_4_code
def y_Orders_isOfMates : MethodName := ⟨N_Orders, "isOfMates", "()Z"⟩
abbrev b_Search_judgeMates : ByteArray := prog_4_method_6_code
def y_Search_judgeMates : MethodName := ⟨N_Search, "judgeMates", "()V"⟩
abbrev b_Main_gift : ByteArray := prog_1_method_14_code
def y_Main_gift : MethodName := ⟨N_Main, "gift", "(I)I"⟩
abbrev b_Trials_findGift : ByteArray := prog_7_method_2_code
def y_Trials_findGift : MethodName := ⟨N_Trials, "findGift", "()V"⟩
abbrev b_Walk_goByNumbers : ByteArray := prog_8_method_6_code
def y_Walk_goByNumbers : MethodName := ⟨N_Walk, "goByNumbers", "()I"⟩
abbrev b_Main_worst : ByteArray := prog_1_method_15_code
def y_Main_worst : MethodName := ⟨N_Main, "worst", "(I)I"⟩
abbrev b_Trials_findWorst : ByteArray := prog_7_method_3_code
def y_Trials_findWorst : MethodName := ⟨N_Trials, "findWorst", "()V"⟩
abbrev b_Main_reading : ByteArray := prog_1_method_16_code
def y_Main_reading : MethodName := ⟨N_Main, "reading", "(II)I"⟩
abbrev b_Readings_isFull : ByteArray := prog_3_method_2_code
def y_Readings_isFull : MethodName := ⟨N_Readings, "isFull", "()Z"⟩
abbrev b_Readings_add : ByteArray := prog_3_method_3_code
def y_Readings_add : MethodName := ⟨N_Readings, "add", "(II)I"⟩
abbrev b_Main_back : ByteArray := prog_1_method_17_code
def y_Main_back : MethodName := ⟨N_Main, "back", "(I)I"⟩
abbrev b_Main_had : ByteArray := prog_1_method_18_code
def y_Main_had : MethodName := ⟨N_Main, "had", "(II)I"⟩
abbrev b_Readings_findHad : ByteArray := prog_3_method_4_code
def y_Readings_findHad : MethodName := ⟨N_Readings, "findHad", "(I)V"⟩
abbrev b_Readings_allAreSo : ByteArray := prog_3_method_6_code
def y_Readings_allAreSo : MethodName := ⟨N_Readings, "allAreSo", "()Z"⟩
abbrev b_Main_kinds : ByteArray := prog_1_method_19_code
def y_Main_kinds : MethodName := ⟨N_Main, "kinds", "(I)I"⟩
abbrev b_Readings_kindsOf : ByteArray := prog_3_method_5_code
def y_Readings_kindsOf : MethodName := ⟨N_Readings, "kindsOf", "(I)I"⟩
abbrev b_Main_odds : ByteArray := prog_1_method_20_code
def y_Main_odds : MethodName := ⟨N_Main, "odds", "(II)J"⟩
abbrev b_Search_countThroughOf : ByteArray := prog_4_method_4_code
def y_Search_countThroughOf : MethodName := ⟨N_Search, "countThroughOf", "(I)V"⟩
abbrev b_Main_sharedDivisor : ByteArray := prog_1_method_38_code
def y_Main_sharedDivisor : MethodName := ⟨N_Main, "sharedDivisor", "(II)I"⟩
abbrev b_Main_sheet : ByteArray := prog_1_method_21_code
def y_Main_sheet : MethodName := ⟨N_Main, "sheet", "(III)I"⟩
abbrev b_Sheet_renew : ByteArray := prog_5_method_2_code
def y_Sheet_renew : MethodName := ⟨N_Sheet, "renew", "(II)V"⟩
abbrev b_Main_lose : ByteArray := prog_1_method_22_code
def y_Main_lose : MethodName := ⟨N_Main, "lose", "(I)I"⟩
abbrev b_Main_put : ByteArray := prog_1_method_23_code
def y_Main_put : MethodName := ⟨N_Main, "put", "(III)I"⟩
abbrev b_Sheet_cut : ByteArray := prog_5_method_3_code
def y_Sheet_cut : MethodName := ⟨N_Sheet, "cut", "(I)I"⟩
abbrev b_Main_cell : ByteArray := prog_1_method_24_code
def y_Main_cell : MethodName := ⟨N_Main, "cell", "(III)J"⟩
abbrev b_Main_copy : ByteArray := prog_1_method_25_code
def y_Main_copy : MethodName := ⟨N_Main, "copy", "(IIIII)I"⟩
abbrev b_Main_tell : ByteArray := prog_1_method_26_code
def y_Main_tell : MethodName := ⟨N_Main, "tell", "(I)I"⟩
abbrev b_Main_bodyOfLearning : ByteArray := prog_1_method_42_code
def y_Main_bodyOfLearning : MethodName := ⟨N_Main, "bodyOfLearning", "(I)I"⟩
abbrev b_Main_leave : ByteArray := prog_1_method_39_code
def y_Main_leave : MethodName := ⟨N_Main, "leave", "(I)V"⟩
abbrev b_Main_bodyOfDouble : ByteArray := prog_1_method_41_code
def y_Main_bodyOfDouble : MethodName := ⟨N_Main, "bodyOfDouble", "(I)I"⟩
abbrev b_Main_bodyOfHouse : ByteArray := prog_1_method_40_code
def y_Main_bodyOfHouse : MethodName := ⟨N_Main, "bodyOfHouse", "(I)I"⟩
abbrev b_Main_knock : ByteArray := prog_1_method_27_code
def y_Main_knock : MethodName := ⟨N_Main, "knock", "(I)I"⟩
abbrev b_Main_ownKnock : ByteArray := prog_1_method_44_code
def y_Main_ownKnock : MethodName := ⟨N_Main, "ownKnock", "()I"⟩
abbrev b_Main_lentKnock : ByteArray := prog_1_method_43_code
def y_Main_lentKnock : MethodName := ⟨N_Main, "lentKnock", "(I)I"⟩
abbrev b_Main_as : ByteArray := prog_1_method_28_code
def y_Main_as : MethodName := ⟨N_Main, "as", "(II)I"⟩
abbrev b_Main_trace : ByteArray := prog_1_method_29_code
def y_Main_trace : MethodName := ⟨N_Main, "trace", "()I"⟩
abbrev b_Main_fault : ByteArray := prog_1_method_30_code
def y_Main_fault : MethodName := ⟨N_Main, "fault", "()I"⟩
abbrev b_Main_many : ByteArray := prog_1_method_31_code
def y_Main_many : MethodName := ⟨N_Main, "many", "(I)I"⟩
abbrev b_Model_way : ByteArray := prog_11_method_14_code
def y_Model_way : MethodName := ⟨N_Model, "way", "(IIII)I"⟩
abbrev b_Model_isSheet : ByteArray := prog_11_method_6_code
def y_Model_isSheet : MethodName := ⟨N_Model, "isSheet", "(I)Z"⟩
abbrev b_Model_within : ByteArray := prog_11_method_5_code
def y_Model_within : MethodName := ⟨N_Model, "within", "(III)Z"⟩
abbrev b_Model_isSort : ByteArray := prog_11_method_7_code
def y_Model_isSort : MethodName := ⟨N_Model, "isSort", "(I)Z"⟩
abbrev b_Model_against : ByteArray := prog_11_method_8_code
def y_Model_against : MethodName := ⟨N_Model, "against", "(IIII)I"⟩
abbrev b_Model_fails : ByteArray := prog_11_method_3_code
def y_Model_fails : MethodName := ⟨N_Model, "fails", "(I)I"⟩
abbrev b_Model_readWay : ByteArray := prog_11_method_15_code
def y_Model_readWay : MethodName := ⟨N_Model, "readWay", "(I)Z"⟩
abbrev b_Model_isSign : ByteArray := prog_11_method_13_code
def y_Model_isSign : MethodName := ⟨N_Model, "isSign", "(II)Z"⟩
abbrev b_Model_readOneHouse : ByteArray := prog_11_method_16_code
def y_Model_readOneHouse : MethodName := ⟨N_Model, "readOneHouse", "(I)Z"⟩
abbrev b_Model_digit : ByteArray := prog_11_method_12_code
def y_Model_digit : MethodName := ⟨N_Model, "digit", "(III)I"⟩
abbrev b_Model_readGuest : ByteArray := prog_11_method_17_code
def y_Model_readGuest : MethodName := ⟨N_Model, "readGuest", "(I)Z"⟩
abbrev b_Model_ofHouse : ByteArray := prog_11_method_18_code
def y_Model_ofHouse : MethodName := ⟨N_Model, "ofHouse", "(II)I"⟩
abbrev b_Model_isHouse : ByteArray := prog_11_method_9_code
def y_Model_isHouse : MethodName := ⟨N_Model, "isHouse", "(I)Z"⟩
abbrev b_Model_gear : ByteArray := prog_11_method_19_code
def y_Model_gear : MethodName := ⟨N_Model, "gear", "(I)I"⟩
abbrev b_Model_isGuest : ByteArray := prog_11_method_10_code
def y_Model_isGuest : MethodName := ⟨N_Model, "isGuest", "(I)Z"⟩
abbrev b_Model_give : ByteArray := prog_11_method_21_code
def y_Model_give : MethodName := ⟨N_Model, "give", "(II)I"⟩
abbrev b_Model_isSet : ByteArray := prog_11_method_20_code
def y_Model_isSet : MethodName := ⟨N_Model, "isSet", "(I)Z"⟩
abbrev b_Model_bar : ByteArray := prog_11_method_22_code
def y_Model_bar : MethodName := ⟨N_Model, "bar", "(II)I"⟩
abbrev b_Model_passes : ByteArray := prog_11_method_24_code
def y_Model_passes : MethodName := ⟨N_Model, "passes", "(III)I"⟩
abbrev b_Model_used : ByteArray := prog_11_method_23_code
def y_Model_used : MethodName := ⟨N_Model, "used", "(III)I"⟩
abbrev b_Model_visits : ByteArray := prog_11_method_32_code
def y_Model_visits : MethodName := ⟨N_Model, "visits", "(IIIII)I"⟩
abbrev b_Model_allGuests : ByteArray := prog_11_method_11_code
def y_Model_allGuests : MethodName := ⟨N_Model, "allGuests", "()I"⟩
abbrev b_Model_visitAll : ByteArray := prog_11_method_33_code
def y_Model_visitAll : MethodName := ⟨N_Model, "visitAll", "(III)I"⟩
abbrev b_Model_begin : ByteArray := prog_11_method_25_code
def y_Model_begin : MethodName := ⟨N_Model, "begin", "()V"⟩
abbrev b_Model_visit : ByteArray := prog_11_method_27_code
def y_Model_visit : MethodName := ⟨N_Model, "visit", "(II)Z"⟩
abbrev b_Model_gearOfAll : ByteArray := prog_11_method_26_code
def y_Model_gearOfAll : MethodName := ⟨N_Model, "gearOfAll", "(I)I"⟩
abbrev b_Model_going : ByteArray := prog_11_method_34_code
def y_Model_going : MethodName := ⟨N_Model, "going", "(IIIII)I"⟩
abbrev b_Model_goThrough : ByteArray := prog_11_method_28_code
def y_Model_goThrough : MethodName := ⟨N_Model, "goThrough", "(I)V"⟩
abbrev b_Model_least : ByteArray := prog_11_method_36_code
def y_Model_least : MethodName := ⟨N_Model, "least", "()I"⟩
abbrev b_Model_size : ByteArray := prog_11_method_30_code
def y_Model_size : MethodName := ⟨N_Model, "size", "(I)I"⟩
abbrev b_Model_passesEach : ByteArray := prog_11_method_35_code
def y_Model_passesEach : MethodName := ⟨N_Model, "passesEach", "(I)Z"⟩
abbrev b_Model_hard : ByteArray := prog_11_method_37_code
def y_Model_hard : MethodName := ⟨N_Model, "hard", "()I"⟩
abbrev b_Model_best : ByteArray := prog_11_method_42_code
def y_Model_best : MethodName := ⟨N_Model, "best", "(I)I"⟩
abbrev b_Model_beginRows : ByteArray := prog_11_method_38_code
def y_Model_beginRows : MethodName := ⟨N_Model, "beginRows", "()V"⟩
abbrev b_Model_goRow : ByteArray := prog_11_method_41_code
def y_Model_goRow : MethodName := ⟨N_Model, "goRow", "()V"⟩
abbrev b_Model_throughNow : ByteArray := prog_11_method_31_code
def y_Model_throughNow : MethodName := ⟨N_Model, "throughNow", "()I"⟩
abbrev b_Model_nextRow : ByteArray := prog_11_method_40_code
def y_Model_nextRow : MethodName := ⟨N_Model, "nextRow", "()Z"⟩
abbrev b_Model_swap : ByteArray := prog_11_method_39_code
def y_Model_swap : MethodName := ⟨N_Model, "swap", "(II)V"⟩
abbrev b_Model_twos : ByteArray := prog_11_method_45_code
def y_Model_twos : MethodName := ⟨N_Model, "twos", "(I)I"⟩
abbrev b_Model_layMates : ByteArray := prog_11_method_43_code
def y_Model_layMates : MethodName := ⟨N_Model, "layMates", "(I)Z"⟩
abbrev b_Model_goMates : ByteArray := prog_11_method_44_code
def y_Model_goMates : MethodName := ⟨N_Model, "goMates", "()I"⟩
abbrev b_Model_gift : ByteArray := prog_11_method_46_code
def y_Model_gift : MethodName := ⟨N_Model, "gift", "(I)I"⟩
abbrev b_Model_goAll : ByteArray := prog_11_method_29_code
def y_Model_goAll : MethodName := ⟨N_Model, "goAll", "()V"⟩
abbrev b_Model_worst : ByteArray := prog_11_method_47_code
def y_Model_worst : MethodName := ⟨N_Model, "worst", "(I)I"⟩
abbrev b_Model_reading : ByteArray := prog_11_method_48_code
def y_Model_reading : MethodName := ⟨N_Model, "reading", "(II)I"⟩
abbrev b_Model_back : ByteArray := prog_11_method_49_code
def y_Model_back : MethodName := ⟨N_Model, "back", "(I)I"⟩
abbrev b_Model_had : ByteArray := prog_11_method_51_code
def y_Model_had : MethodName := ⟨N_Model, "had", "(II)I"⟩
abbrev b_Model_areSo : ByteArray := prog_11_method_50_code
def y_Model_areSo : MethodName := ⟨N_Model, "areSo", "()Z"⟩
abbrev b_Model_kinds : ByteArray := prog_11_method_52_code
def y_Model_kinds : MethodName := ⟨N_Model, "kinds", "(I)I"⟩
abbrev b_Model_odds : ByteArray := prog_11_method_54_code
def y_Model_odds : MethodName := ⟨N_Model, "odds", "(II)J"⟩
abbrev b_Model_inLeastTerms : ByteArray := prog_11_method_53_code
def y_Model_inLeastTerms : MethodName := ⟨N_Model, "inLeastTerms", "(JJI)J"⟩
abbrev b_Model_sheet : ByteArray := prog_11_method_55_code
def y_Model_sheet : MethodName := ⟨N_Model, "sheet", "(III)I"⟩
abbrev b_Model_lose : ByteArray := prog_11_method_56_code
def y_Model_lose : MethodName := ⟨N_Model, "lose", "(I)I"⟩
abbrev b_Model_put : ByteArray := prog_11_method_57_code
def y_Model_put : MethodName := ⟨N_Model, "put", "(III)I"⟩
abbrev b_Model_cell : ByteArray := prog_11_method_58_code
def y_Model_cell : MethodName := ⟨N_Model, "cell", "(III)J"⟩
abbrev b_Model_lost : ByteArray := prog_11_method_4_code
def y_Model_lost : MethodName := ⟨N_Model, "lost", "(I)J"⟩
abbrev b_Model_copy : ByteArray := prog_11_method_59_code
def y_Model_copy : MethodName := ⟨N_Model, "copy", "(IIIII)I"⟩
abbrev b_Model_tell : ByteArray := prog_11_method_61_code
def y_Model_tell : MethodName := ⟨N_Model, "tell", "(I)I"⟩
abbrev b_Model_begins : ByteArray := prog_11_method_60_code
def y_Model_begins : MethodName := ⟨N_Model, "begins", "(I)V"⟩
abbrev b_Model_knock : ByteArray := prog_11_method_62_code
def y_Model_knock : MethodName := ⟨N_Model, "knock", "(I)I"⟩
abbrev b_Model_as : ByteArray := prog_11_method_63_code
def y_Model_as : MethodName := ⟨N_Model, "as", "(II)I"⟩
abbrev b_Model_trace : ByteArray := prog_11_method_64_code
def y_Model_trace : MethodName := ⟨N_Model, "trace", "()I"⟩
abbrev b_Model_fault : ByteArray := prog_11_method_65_code
def y_Model_fault : MethodName := ⟨N_Model, "fault", "()I"⟩
abbrev b_Model_many : ByteArray := prog_11_method_66_code
def y_Model_many : MethodName := ⟨N_Model, "many", "(I)I"⟩
theorem kn_native : Cond.native arraycopyName ∈ TG := TG_m 360 (by decide +kernel) (by decide +kernel)
theorem kn_static : Cond.static arraycopyName ∈ TG := TG_m 359 (by decide +kernel) (by decide +kernel)
theorem kn_init : Cond.initialized "java/lang/System" ∈ TG := TG_m 64 (by decide +kernel) (by decide +kernel)
theorem cb_Main_way : CBV y_Main_way b_Main_way 8 (some .int) N_Main 4 := ⟨⟨TG_m 332 (by decide +kernel) (by decide +kernel), TG_m 333 (by decide +kernel) (by decide +kernel), TG_m 54 (by decide +kernel) (by decide +kernel), TG_m 334 (by decide +kernel) (by decide +kernel)⟩, by decide +kernel⟩
theorem cb_Main_sheetOf : CBV y_Main_sheetOf b_Main_sheetOf 2 (some (.object "TrickHouses$Sheet")) N_Main 1 := ⟨⟨TG_m 337 (by decide +kernel) (by decide +kernel), TG_m 0 (by decide +kernel) (by decide +kernel), TG_m 54 (by decide +kernel) (by decide +kernel), TG_m 338 (by decide +kernel) (by decide +kernel)⟩, by decide +kernel⟩
theorem cb_Main_isBelow : CBS y_Main_isBelow b_Main_isBelow 2 (some .boolean) 2 := ⟨⟨TG_m 340 (by decide +kernel) (by decide +kernel), TG_m 54 (by decide +kernel) (by decide +kernel), TG_m 341 (by decide +kernel) (by decide +kernel)⟩, by decide +kernel⟩
theorem cb_Sheet_faultOfTaking : CBV y_Sheet_faultOfTaking b_Sheet_faultOfTaking 4 (some .int) N_Sheet 3 := ⟨⟨TG_m 343 (by decide +kernel) (by decide +kernel), TG_m 344 (by decide +kernel) (by decide +kernel), TG_m 55 (by decide +kernel) (by decide +kernel), TG_m 345 (by decide +kernel) (by decide +kernel)⟩, by decide +kernel⟩
theorem cb_Sheet_holds : CBV y_Sheet_holds b_Sheet_holds 3 (some .boolean) N_Sheet 2 := ⟨⟨TG_m 347 (by decide +kernel) (by decide +kernel), TG_m 348 (by decide +kernel) (by decide +kernel), TG_m 55 (by decide +kernel) (by decide +kernel), TG_m 349 (by decide +kernel) (by decide +kernel)⟩, by decide +kernel⟩
theorem cb_Main_failed : CBV y_Main_failed b_Main_failed 2 (some .int) N_Main 1 := ⟨⟨TG_m 352 (by decide +kernel) (by decide +kernel), TG_m 1 (by decide +kernel) (by decide +kernel), TG_m 54 (by decide +kernel) (by decide +kernel), TG_m 353 (by decide +kernel) (by decide +kernel)⟩, by decide +kernel⟩
theorem cb_Text_read : CBV y_Text_read b_Text_read 4 none N_Text 3 := ⟨⟨TG_m 355 (by decide +kernel) (by decide +kernel), TG_m 356 (by decide +kernel) (by decide +kernel), TG_m 56 (by decide +kernel) (by decide +kernel), TG_m 357 (by decide +kernel) (by decide +kernel)⟩, by decide +kernel⟩
theorem cb_Text_firstFault : CBV y_Text_firstFault b_Text_firstFault 3 (some .int) N_Text 0 := ⟨⟨TG_m 362 (by decide +kernel) (by decide +kernel), TG_m 363 (by decide +kernel) (by decide +kernel), TG_m 56 (by decide +kernel) (by decide +kernel), TG_m 364 (by decide +kernel) (by decide +kernel)⟩, by decide +kernel⟩
theorem cb_Text_codeAt : CBV y_Text_codeAt b_Text_codeAt 2 (some .int) N_Text 1 := ⟨⟨TG_m 367 (by decide +kernel) (by decide +kernel), TG_m 2 (by decide +kernel) (by decide +kernel), TG_m 56 (by decide +kernel) (by decide +kernel), TG_m 368 (by decide +kernel) (by decide +kernel)⟩, by decide +kernel⟩
theorem cb_Text_goodOfHouse : CBV y_Text_goodOfHouse b_Text_goodOfHouse 2 (some .int) N_Text 1 := ⟨⟨TG_m 372 (by decide +kernel) (by decide +kernel), TG_m 3 (by decide +kernel) (by decide +kernel), TG_m 56 (by decide +kernel) (by decide +kernel), TG_m 373 (by decide +kernel) (by decide +kernel)⟩, by decide +kernel⟩
theorem cb_Text_kindAt : CBV y_Text_kindAt b_Text_kindAt 2 (some .int) N_Text 1 := ⟨⟨TG_m 376 (by decide +kernel) (by decide +kernel), TG_m 4 (by decide +kernel) (by decide +kernel), TG_m 56 (by decide +kernel) (by decide +kernel), TG_m 377 (by decide +kernel) (by decide +kernel)⟩, by decide +kernel⟩
theorem cb_Text_digitAt : CBV y_Text_digitAt b_Text_digitAt 2 (some .int) N_Text 1 := ⟨⟨TG_m 380 (by decide +kernel) (by decide +kernel), TG_m 5 (by decide +kernel) (by decide +kernel), TG_m 56 (by decide +kernel) (by decide +kernel), TG_m 381 (by decide +kernel) (by decide +kernel)⟩, by decide +kernel⟩
theorem cb_Text_goodOfGuest : CBV y_Text_goodOfGuest b_Text_goodOfGuest 4 (some .int) N_Text 1 := ⟨⟨TG_m 384 (by decide +kernel) (by decide +kernel), TG_m 6 (by decide +kernel) (by decide +kernel), TG_m 56 (by decide +kernel) (by decide +kernel), TG_m 385 (by decide +kernel) (by decide +kernel)⟩, by decide +kernel⟩
theorem cb_Way_become : CBV y_Way_become b_Way_become 3 none N_Way 1 := ⟨⟨TG_m 387 (by decide +kernel) (by decide +kernel), TG_m 388 (by decide +kernel) (by decide +kernel), TG_m 57 (by decide +kernel) (by decide +kernel), TG_m 389 (by decide +kernel) (by decide +kernel)⟩, by decide +kernel⟩
theorem cb_Text_kindOfHouse : CBV y_Text_kindOfHouse b_Text_kindOfHouse 2 (some .int) N_Text 1 := ⟨⟨TG_m 391 (by decide +kernel) (by decide +kernel), TG_m 392 (by decide +kernel) (by decide +kernel), TG_m 56 (by decide +kernel) (by decide +kernel), TG_m 393 (by decide +kernel) (by decide +kernel)⟩, by decide +kernel⟩
theorem cb_Text_placeOfHouse : CBV y_Text_placeOfHouse b_Text_placeOfHouse 2 (some .int) N_Text 1 := ⟨⟨TG_m 396 (by decide +kernel) (by decide +kernel), TG_m 7 (by decide +kernel) (by decide +kernel), TG_m 56 (by decide +kernel) (by decide +kernel), TG_m 397 (by decide +kernel) (by decide +kernel)⟩, by decide +kernel⟩
theorem cb_Text_digitOfHouse : CBV y_Text_digitOfHouse b_Text_digitOfHouse 3 (some .int) N_Text 2 := ⟨⟨TG_m 399 (by decide +kernel) (by decide +kernel), TG_m 400 (by decide +kernel) (by decide +kernel), TG_m 56 (by decide +kernel) (by decide +kernel), TG_m 401 (by decide +kernel) (by decide +kernel)⟩, by decide +kernel⟩
theorem cb_Text_gearOfGuest : CBV y_Text_gearOfGuest b_Text_gearOfGuest 3 (some .int) N_Text 1 := ⟨⟨TG_m 403 (by decide +kernel) (by decide +kernel), TG_m 404 (by decide +kernel) (by decide +kernel), TG_m 56 (by decide +kernel) (by decide +kernel), TG_m 405 (by decide +kernel) (by decide +kernel)⟩, by decide +kernel⟩
theorem cb_Main_ofHouse : CBV y_Main_ofHouse b_Main_ofHouse 3 (some .int) N_Main 2 := ⟨⟨TG_m 407 (by decide +kernel) (by decide +kernel), TG_m 408 (by decide +kernel) (by decide +kernel), TG_m 54 (by decide +kernel) (by decide +kernel), TG_m 409 (by decide +kernel) (by decide +kernel)⟩, by decide +kernel⟩
theorem cb_Way_hasHouse : CBV y_Way_hasHouse b_Way_hasHouse 2 (some .boolean) N_Way 1 := ⟨⟨TG_m 411 (by decide +kernel) (by decide +kernel), TG_m 412 (by decide +kernel) (by decide +kernel), TG_m 57 (by decide +kernel) (by decide +kernel), TG_m 413 (by decide +kernel) (by decide +kernel)⟩, by decide +kernel⟩
theorem cb_Main_gear : CBV y_Main_gear b_Main_gear 2 (some .int) N_Main 1 := ⟨⟨TG_m 416 (by decide +kernel) (by decide +kernel), TG_m 417 (by decide +kernel) (by decide +kernel), TG_m 54 (by decide +kernel) (by decide +kernel), TG_m 418 (by decide +kernel) (by decide +kernel)⟩, by decide +kernel⟩
theorem cb_Way_hasGuest : CBV y_Way_hasGuest b_Way_hasGuest 2 (some .boolean) N_Way 1 := ⟨⟨TG_m 420 (by decide +kernel) (by decide +kernel), TG_m 421 (by decide +kernel) (by decide +kernel), TG_m 57 (by decide +kernel) (by decide +kernel), TG_m 422 (by decide +kernel) (by decide +kernel)⟩, by decide +kernel⟩
theorem cb_Main_give : CBV y_Main_give b_Main_give 4 (some .int) N_Main 2 := ⟨⟨TG_m 424 (by decide +kernel) (by decide +kernel), TG_m 425 (by decide +kernel) (by decide +kernel), TG_m 54 (by decide +kernel) (by decide +kernel), TG_m 426 (by decide +kernel) (by decide +kernel)⟩, by decide +kernel⟩
theorem cb_Main_bar : CBV y_Main_bar b_Main_bar 4 (some .int) N_Main 2 := ⟨⟨TG_m 428 (by decide +kernel) (by decide +kernel), TG_m 429 (by decide +kernel) (by decide +kernel), TG_m 54 (by decide +kernel) (by decide +kernel), TG_m 430 (by decide +kernel) (by decide +kernel)⟩, by decide +kernel⟩
theorem cb_Main_passes : CBV y_Main_passes b_Main_passes 4 (some .int) N_Main 3 := ⟨⟨TG_m 432 (by decide +kernel) (by decide +kernel), TG_m 433 (by decide +kernel) (by decide +kernel), TG_m 54 (by decide +kernel) (by decide +kernel), TG_m 434 (by decide +kernel) (by decide +kernel)⟩, by decide +kernel⟩
theorem cb_Way_usedIn : CBV y_Way_usedIn b_Way_usedIn 8 (some .int) N_Way 3 := ⟨⟨TG_m 436 (by decide +kernel) (by decide +kernel), TG_m 437 (by decide +kernel) (by decide +kernel), TG_m 57 (by decide +kernel) (by decide +kernel), TG_m 438 (by decide +kernel) (by decide +kernel)⟩, by decide +kernel⟩
theorem cb_Main_visits : CBV y_Main_visits b_Main_visits 11 (some .int) N_Main 5 := ⟨⟨TG_m 440 (by decide +kernel) (by decide +kernel), TG_m 441 (by decide +kernel) (by decide +kernel), TG_m 54 (by decide +kernel) (by decide +kernel), TG_m 442 (by decide +kernel) (by decide +kernel)⟩, by decide +kernel⟩
theorem cb_Way_isTold : CBV y_Way_isTold b_Way_isTold 1 (some .boolean) N_Way 0 := ⟨⟨TG_m 444 (by decide +kernel) (by decide +kernel), TG_m 445 (by decide +kernel) (by decide +kernel), TG_m 57 (by decide +kernel) (by decide +kernel), TG_m 446 (by decide +kernel) (by decide +kernel)⟩, by decide +kernel⟩
theorem cb_Main_refusalOfPairs : CBV y_Main_refusalOfPairs b_Main_refusalOfPairs 5 (some .int) N_Main 3 := ⟨⟨TG_m 449 (by decide +kernel) (by decide +kernel), TG_m 8 (by decide +kernel) (by decide +kernel), TG_m 54 (by decide +kernel) (by decide +kernel), TG_m 450 (by decide +kernel) (by decide +kernel)⟩, by decide +kernel⟩
theorem cb_Way_everyone : CBV y_Way_everyone b_Way_everyone 1 (some .int) N_Way 0 := ⟨⟨TG_m 452 (by decide +kernel) (by decide +kernel), TG_m 453 (by decide +kernel) (by decide +kernel), TG_m 57 (by decide +kernel) (by decide +kernel), TG_m 454 (by decide +kernel) (by decide +kernel)⟩, by decide +kernel⟩
theorem cb_Walk_begin : CBV y_Walk_begin b_Walk_begin 1 none N_Walk 0 := ⟨⟨TG_m 456 (by decide +kernel) (by decide +kernel), TG_m 457 (by decide +kernel) (by decide +kernel), TG_m 58 (by decide +kernel) (by decide +kernel), TG_m 458 (by decide +kernel) (by decide +kernel)⟩, by decide +kernel⟩
theorem cb_Arr_fill : CBS y_Arr_fill b_Arr_fill 4 none 2 := ⟨⟨TG_m 460 (by decide +kernel) (by decide +kernel), TG_m 65 (by decide +kernel) (by decide +kernel), TG_m 461 (by decide +kernel) (by decide +kernel)⟩, by decide +kernel⟩
theorem cb_Walk_visit : CBV y_Walk_visit b_Walk_visit 5 none N_Walk 3 := ⟨⟨TG_m 463 (by decide +kernel) (by decide +kernel), TG_m 464 (by decide +kernel) (by decide +kernel), TG_m 58 (by decide +kernel) (by decide +kernel), TG_m 465 (by decide +kernel) (by decide +kernel)⟩, by decide +kernel⟩
theorem cb_Way_gearOf : CBV y_Way_gearOf b_Way_gearOf 4 (some .int) N_Way 1 := ⟨⟨TG_m 467 (by decide +kernel) (by decide +kernel), TG_m 468 (by decide +kernel) (by decide +kernel), TG_m 57 (by decide +kernel) (by decide +kernel), TG_m 469 (by decide +kernel) (by decide +kernel)⟩, by decide +kernel⟩
theorem cb_Walk_enter : CBV y_Walk_enter b_Walk_enter 4 (some .boolean) N_Walk 2 := ⟨⟨TG_m 472 (by decide +kernel) (by decide +kernel), TG_m 9 (by decide +kernel) (by decide +kernel), TG_m 58 (by decide +kernel) (by decide +kernel), TG_m 473 (by decide +kernel) (by decide +kernel)⟩, by decide +kernel⟩
theorem cb_Main_ofVisits : CBV y_Main_ofVisits b_Main_ofVisits 3 (some .int) N_Main 1 := ⟨⟨TG_m 477 (by decide +kernel) (by decide +kernel), TG_m 10 (by decide +kernel) (by decide +kernel), TG_m 54 (by decide +kernel) (by decide +kernel), TG_m 478 (by decide +kernel) (by decide +kernel)⟩, by decide +kernel⟩
theorem cb_Main_going : CBV y_Main_going b_Main_going 10 (some .int) N_Main 5 := ⟨⟨TG_m 480 (by decide +kernel) (by decide +kernel), TG_m 481 (by decide +kernel) (by decide +kernel), TG_m 54 (by decide +kernel) (by decide +kernel), TG_m 482 (by decide +kernel) (by decide +kernel)⟩, by decide +kernel⟩
theorem cb_Main_isOrder : CBV y_Main_isOrder b_Main_isOrder 7 (some .boolean) N_Main 3 := ⟨⟨TG_m 485 (by decide +kernel) (by decide +kernel), TG_m 11 (by decide +kernel) (by decide +kernel), TG_m 54 (by decide +kernel) (by decide +kernel), TG_m 486 (by decide +kernel) (by decide +kernel)⟩, by decide +kernel⟩
theorem cb_Walk_goAlone : CBV y_Walk_goAlone b_Walk_goAlone 2 none N_Walk 1 := ⟨⟨TG_m 488 (by decide +kernel) (by decide +kernel), TG_m 489 (by decide +kernel) (by decide +kernel), TG_m 58 (by decide +kernel) (by decide +kernel), TG_m 490 (by decide +kernel) (by decide +kernel)⟩, by decide +kernel⟩
theorem cb_Walk_send : CBV y_Walk_send b_Walk_send 4 (some .int) N_Walk 1 := ⟨⟨TG_m 492 (by decide +kernel) (by decide +kernel), TG_m 493 (by decide +kernel) (by decide +kernel), TG_m 58 (by decide +kernel) (by decide +kernel), TG_m 494 (by decide +kernel) (by decide +kernel)⟩, by decide +kernel⟩
theorem cb_Main_least : CBV y_Main_least b_Main_least 1 (some .int) N_Main 0 := ⟨⟨TG_m 496 (by decide +kernel) (by decide +kernel), TG_m 497 (by decide +kernel) (by decide +kernel), TG_m 54 (by decide +kernel) (by decide +kernel), TG_m 498 (by decide +kernel) (by decide +kernel)⟩, by decide +kernel⟩
theorem cb_Way_leastGear : CBV y_Way_leastGear b_Way_leastGear 5 (some .int) N_Way 0 := ⟨⟨TG_m 500 (by decide +kernel) (by decide +kernel), TG_m 501 (by decide +kernel) (by decide +kernel), TG_m 57 (by decide +kernel) (by decide +kernel), TG_m 502 (by decide +kernel) (by decide +kernel)⟩, by decide +kernel⟩
theorem cb_Int_bitCount : CBS y_Int_bitCount b_Int_bitCount 1 (some .int) 1 := ⟨⟨TG_m 504 (by decide +kernel) (by decide +kernel), TG_m 66 (by decide +kernel) (by decide +kernel), TG_m 505 (by decide +kernel) (by decide +kernel)⟩, by decide +kernel⟩
theorem cb_Way_firstNotPassedBy : CBV y_Way_firstNotPassedBy b_Way_firstNotPassedBy 3 (some .int) N_Way 1 := ⟨⟨TG_m 510 (by decide +kernel) (by decide +kernel), TG_m 511 (by decide +kernel) (by decide +kernel), TG_m 57 (by decide +kernel) (by decide +kernel), TG_m 512 (by decide +kernel) (by decide +kernel)⟩, by decide +kernel⟩
theorem cb_Main_hard : CBV y_Main_hard b_Main_hard 1 (some .int) N_Main 0 := ⟨⟨TG_m 515 (by decide +kernel) (by decide +kernel), TG_m 516 (by decide +kernel) (by decide +kernel), TG_m 54 (by decide +kernel) (by decide +kernel), TG_m 517 (by decide +kernel) (by decide +kernel)⟩, by decide +kernel⟩
theorem cb_Main_best : CBV y_Main_best b_Main_best 2 (some .int) N_Main 1 := ⟨⟨TG_m 520 (by decide +kernel) (by decide +kernel), TG_m 521 (by decide +kernel) (by decide +kernel), TG_m 54 (by decide +kernel) (by decide +kernel), TG_m 522 (by decide +kernel) (by decide +kernel)⟩, by decide +kernel⟩
theorem cb_Search_findBest : CBV y_Search_findBest b_Search_findBest 4 none N_Search 0 := ⟨⟨TG_m 524 (by decide +kernel) (by decide +kernel), TG_m 525 (by decide +kernel) (by decide +kernel), TG_m 59 (by decide +kernel) (by decide +kernel), TG_m 526 (by decide +kernel) (by decide +kernel)⟩, by decide +kernel⟩
theorem cb_Orders_begin : CBV y_Orders_begin b_Orders_begin 4 (some .int) N_Orders 1 := ⟨⟨TG_m 528 (by decide +kernel) (by decide +kernel), TG_m 529 (by decide +kernel) (by decide +kernel), TG_m 60 (by decide +kernel) (by decide +kernel), TG_m 530 (by decide +kernel) (by decide +kernel)⟩, by decide +kernel⟩
theorem cb_Search_goInOrder : CBV y_Search_goInOrder b_Search_goInOrder 2 (some .int) N_Search 0 := ⟨⟨TG_m 533 (by decide +kernel) (by decide +kernel), TG_m 12 (by decide +kernel) (by decide +kernel), TG_m 59 (by decide +kernel) (by decide +kernel), TG_m 534 (by decide +kernel) (by decide +kernel)⟩, by decide +kernel⟩
theorem cb_Search_keep : CBV y_Search_keep b_Search_keep 2 none N_Search 1 := ⟨⟨TG_m 540 (by decide +kernel) (by decide +kernel), TG_m 13 (by decide +kernel) (by decide +kernel), TG_m 59 (by decide +kernel) (by decide +kernel), TG_m 541 (by decide +kernel) (by decide +kernel)⟩, by decide +kernel⟩
theorem cb_Orders_next : CBV y_Orders_next b_Orders_next 4 none N_Orders 0 := ⟨⟨TG_m 544 (by decide +kernel) (by decide +kernel), TG_m 545 (by decide +kernel) (by decide +kernel), TG_m 60 (by decide +kernel) (by decide +kernel), TG_m 546 (by decide +kernel) (by decide +kernel)⟩, by decide +kernel⟩
theorem cb_Orders_lastRise : CBV y_Orders_lastRise b_Orders_lastRise 2 (some .int) N_Orders 0 := ⟨⟨TG_m 549 (by decide +kernel) (by decide +kernel), TG_m 14 (by decide +kernel) (by decide +kernel), TG_m 60 (by decide +kernel) (by decide +kernel), TG_m 550 (by decide +kernel) (by decide +kernel)⟩, by decide +kernel⟩
theorem cb_Orders_lastAbove : CBV y_Orders_lastAbove b_Orders_lastAbove 3 (some .int) N_Orders 1 := ⟨⟨TG_m 553 (by decide +kernel) (by decide +kernel), TG_m 15 (by decide +kernel) (by decide +kernel), TG_m 60 (by decide +kernel) (by decide +kernel), TG_m 554 (by decide +kernel) (by decide +kernel)⟩, by decide +kernel⟩
theorem cb_Orders_swap : CBV y_Orders_swap b_Orders_swap 4 none N_Orders 2 := ⟨⟨TG_m 557 (by decide +kernel) (by decide +kernel), TG_m 16 (by decide +kernel) (by decide +kernel), TG_m 60 (by decide +kernel) (by decide +kernel), TG_m 558 (by decide +kernel) (by decide +kernel)⟩, by decide +kernel⟩
theorem cb_Main_twos : CBV y_Main_twos b_Main_twos 2 (some .int) N_Main 1 := ⟨⟨TG_m 560 (by decide +kernel) (by decide +kernel), TG_m 561 (by decide +kernel) (by decide +kernel), TG_m 54 (by decide +kernel) (by decide +kernel), TG_m 562 (by decide +kernel) (by decide +kernel)⟩, by decide +kernel⟩
theorem cb_Search_findTwos : CBV y_Search_findTwos b_Search_findTwos 3 none N_Search 0 := ⟨⟨TG_m 564 (by decide +kernel) (by decide +kernel), TG_m 565 (by decide +kernel) (by decide +kernel), TG_m 59 (by decide +kernel) (by decide +kernel), TG_m 566 (by decide +kernel) (by decide +kernel)⟩, by decide +kernel⟩
theorem cb_Orders_isOfMates : CBV y_Orders_isOfMates b_Orders_isOfMates 2 (some .boolean) N_Orders 0 := ⟨⟨TG_m 568 (by decide +kernel) (by decide +kernel), TG_m 569 (by decide +kernel) (by decide +kernel), TG_m 60 (by decide +kernel) (by decide +kernel), TG_m 570 (by decide +kernel) (by decide +kernel)⟩, by decide +kernel⟩
theorem cb_Search_judgeMates : CBV y_Search_judgeMates b_Search_judgeMates 5 none N_Search 0 := ⟨⟨TG_m 573 (by decide +kernel) (by decide +kernel), TG_m 17 (by decide +kernel) (by decide +kernel), TG_m 59 (by decide +kernel) (by decide +kernel), TG_m 574 (by decide +kernel) (by decide +kernel)⟩, by decide +kernel⟩
theorem cb_Main_gift : CBV y_Main_gift b_Main_gift 2 (some .int) N_Main 1 := ⟨⟨TG_m 577 (by decide +kernel) (by decide +kernel), TG_m 578 (by decide +kernel) (by decide +kernel), TG_m 54 (by decide +kernel) (by decide +kernel), TG_m 579 (by decide +kernel) (by decide +kernel)⟩, by decide +kernel⟩
theorem cb_Trials_findGift : CBV y_Trials_findGift b_Trials_findGift 5 none N_Trials 0 := ⟨⟨TG_m 581 (by decide +kernel) (by decide +kernel), TG_m 582 (by decide +kernel) (by decide +kernel), TG_m 61 (by decide +kernel) (by decide +kernel), TG_m 583 (by decide +kernel) (by decide +kernel)⟩, by decide +kernel⟩
theorem cb_Walk_goByNumbers : CBV y_Walk_goByNumbers b_Walk_goByNumbers 2 (some .int) N_Walk 0 := ⟨⟨TG_m 585 (by decide +kernel) (by decide +kernel), TG_m 586 (by decide +kernel) (by decide +kernel), TG_m 58 (by decide +kernel) (by decide +kernel), TG_m 587 (by decide +kernel) (by decide +kernel)⟩, by decide +kernel⟩
theorem cb_Main_worst : CBV y_Main_worst b_Main_worst 2 (some .int) N_Main 1 := ⟨⟨TG_m 592 (by decide +kernel) (by decide +kernel), TG_m 593 (by decide +kernel) (by decide +kernel), TG_m 54 (by decide +kernel) (by decide +kernel), TG_m 594 (by decide +kernel) (by decide +kernel)⟩, by decide +kernel⟩
theorem cb_Trials_findWorst : CBV y_Trials_findWorst b_Trials_findWorst 3 none N_Trials 0 := ⟨⟨TG_m 596 (by decide +kernel) (by decide +kernel), TG_m 597 (by decide +kernel) (by decide +kernel), TG_m 61 (by decide +kernel) (by decide +kernel), TG_m 598 (by decide +kernel) (by decide +kernel)⟩, by decide +kernel⟩
theorem cb_Main_reading : CBV y_Main_reading b_Main_reading 3 (some .int) N_Main 2 := ⟨⟨TG_m 600 (by decide +kernel) (by decide +kernel), TG_m 601 (by decide +kernel) (by decide +kernel), TG_m 54 (by decide +kernel) (by decide +kernel), TG_m 602 (by decide +kernel) (by decide +kernel)⟩, by decide +kernel⟩
theorem cb_Readings_isFull : CBV y_Readings_isFull b_Readings_isFull 1 (some .boolean) N_Readings 0 := ⟨⟨TG_m 604 (by decide +kernel) (by decide +kernel), TG_m 605 (by decide +kernel) (by decide +kernel), TG_m 62 (by decide +kernel) (by decide +kernel), TG_m 606 (by decide +kernel) (by decide +kernel)⟩, by decide +kernel⟩
theorem cb_Readings_add : CBV y_Readings_add b_Readings_add 3 (some .int) N_Readings 2 := ⟨⟨TG_m 608 (by decide +kernel) (by decide +kernel), TG_m 609 (by decide +kernel) (by decide +kernel), TG_m 62 (by decide +kernel) (by decide +kernel), TG_m 610 (by decide +kernel) (by decide +kernel)⟩, by decide +kernel⟩
theorem cb_Main_back : CBV y_Main_back b_Main_back 2 (some .int) N_Main 1 := ⟨⟨TG_m 612 (by decide +kernel) (by decide +kernel), TG_m 613 (by decide +kernel) (by decide +kernel), TG_m 54 (by decide +kernel) (by decide +kernel), TG_m 614 (by decide +kernel) (by decide +kernel)⟩, by decide +kernel⟩
theorem cb_Main_had : CBV y_Main_had b_Main_had 3 (some .int) N_Main 2 := ⟨⟨TG_m 616 (by decide +kernel) (by decide +kernel), TG_m 617 (by decide +kernel) (by decide +kernel), TG_m 54 (by decide +kernel) (by decide +kernel), TG_m 618 (by decide +kernel) (by decide +kernel)⟩, by decide +kernel⟩
theorem cb_Readings_findHad : CBV y_Readings_findHad b_Readings_findHad 4 none N_Readings 1 := ⟨⟨TG_m 620 (by decide +kernel) (by decide +kernel), TG_m 621 (by decide +kernel) (by decide +kernel), TG_m 62 (by decide +kernel) (by decide +kernel), TG_m 622 (by decide +kernel) (by decide +kernel)⟩, by decide +kernel⟩
theorem cb_Readings_allAreSo : CBV y_Readings_allAreSo b_Readings_allAreSo 2 (some .boolean) N_Readings 0 := ⟨⟨TG_m 626 (by decide +kernel) (by decide +kernel), TG_m 18 (by decide +kernel) (by decide +kernel), TG_m 62 (by decide +kernel) (by decide +kernel), TG_m 627 (by decide +kernel) (by decide +kernel)⟩, by decide +kernel⟩
theorem cb_Main_kinds : CBV y_Main_kinds b_Main_kinds 2 (some .int) N_Main 1 := ⟨⟨TG_m 629 (by decide +kernel) (by decide +kernel), TG_m 630 (by decide +kernel) (by decide +kernel), TG_m 54 (by decide +kernel) (by decide +kernel), TG_m 631 (by decide +kernel) (by decide +kernel)⟩, by decide +kernel⟩
theorem cb_Readings_kindsOf : CBV y_Readings_kindsOf b_Readings_kindsOf 5 (some .int) N_Readings 1 := ⟨⟨TG_m 633 (by decide +kernel) (by decide +kernel), TG_m 634 (by decide +kernel) (by decide +kernel), TG_m 62 (by decide +kernel) (by decide +kernel), TG_m 635 (by decide +kernel) (by decide +kernel)⟩, by decide +kernel⟩
theorem cb_Main_odds : CBV y_Main_odds b_Main_odds 5 (some .long) N_Main 2 := ⟨⟨TG_m 637 (by decide +kernel) (by decide +kernel), TG_m 638 (by decide +kernel) (by decide +kernel), TG_m 54 (by decide +kernel) (by decide +kernel), TG_m 639 (by decide +kernel) (by decide +kernel)⟩, by decide +kernel⟩
theorem cb_Search_countThroughOf : CBV y_Search_countThroughOf b_Search_countThroughOf 3 none N_Search 1 := ⟨⟨TG_m 642 (by decide +kernel) (by decide +kernel), TG_m 643 (by decide +kernel) (by decide +kernel), TG_m 59 (by decide +kernel) (by decide +kernel), TG_m 644 (by decide +kernel) (by decide +kernel)⟩, by decide +kernel⟩
theorem cb_Main_sharedDivisor : CBS y_Main_sharedDivisor b_Main_sharedDivisor 3 (some .int) 2 := ⟨⟨TG_m 646 (by decide +kernel) (by decide +kernel), TG_m 54 (by decide +kernel) (by decide +kernel), TG_m 647 (by decide +kernel) (by decide +kernel)⟩, by decide +kernel⟩
theorem cb_Main_sheet : CBV y_Main_sheet b_Main_sheet 5 (some .int) N_Main 3 := ⟨⟨TG_m 649 (by decide +kernel) (by decide +kernel), TG_m 650 (by decide +kernel) (by decide +kernel), TG_m 54 (by decide +kernel) (by decide +kernel), TG_m 651 (by decide +kernel) (by decide +kernel)⟩, by decide +kernel⟩
theorem cb_Sheet_renew : CBV y_Sheet_renew b_Sheet_renew 3 none N_Sheet 2 := ⟨⟨TG_m 653 (by decide +kernel) (by decide +kernel), TG_m 654 (by decide +kernel) (by decide +kernel), TG_m 55 (by decide +kernel) (by decide +kernel), TG_m 655 (by decide +kernel) (by decide +kernel)⟩, by decide +kernel⟩
theorem cb_Main_lose : CBV y_Main_lose b_Main_lose 4 (some .int) N_Main 1 := ⟨⟨TG_m 658 (by decide +kernel) (by decide +kernel), TG_m 659 (by decide +kernel) (by decide +kernel), TG_m 54 (by decide +kernel) (by decide +kernel), TG_m 660 (by decide +kernel) (by decide +kernel)⟩, by decide +kernel⟩
theorem cb_Main_put : CBV y_Main_put b_Main_put 5 (some .int) N_Main 3 := ⟨⟨TG_m 662 (by decide +kernel) (by decide +kernel), TG_m 663 (by decide +kernel) (by decide +kernel), TG_m 54 (by decide +kernel) (by decide +kernel), TG_m 664 (by decide +kernel) (by decide +kernel)⟩, by decide +kernel⟩
theorem cb_Sheet_cut : CBV y_Sheet_cut b_Sheet_cut 2 (some .int) N_Sheet 1 := ⟨⟨TG_m 666 (by decide +kernel) (by decide +kernel), TG_m 667 (by decide +kernel) (by decide +kernel), TG_m 55 (by decide +kernel) (by decide +kernel), TG_m 668 (by decide +kernel) (by decide +kernel)⟩, by decide +kernel⟩
theorem cb_Main_cell : CBV y_Main_cell b_Main_cell 5 (some .long) N_Main 3 := ⟨⟨TG_m 670 (by decide +kernel) (by decide +kernel), TG_m 671 (by decide +kernel) (by decide +kernel), TG_m 54 (by decide +kernel) (by decide +kernel), TG_m 672 (by decide +kernel) (by decide +kernel)⟩, by decide +kernel⟩
theorem cb_Main_copy : CBV y_Main_copy b_Main_copy 8 (some .int) N_Main 5 := ⟨⟨TG_m 674 (by decide +kernel) (by decide +kernel), TG_m 675 (by decide +kernel) (by decide +kernel), TG_m 54 (by decide +kernel) (by decide +kernel), TG_m 676 (by decide +kernel) (by decide +kernel)⟩, by decide +kernel⟩
theorem cb_Main_tell : CBV y_Main_tell b_Main_tell 2 (some .int) N_Main 1 := ⟨⟨TG_m 680 (by decide +kernel) (by decide +kernel), TG_m 681 (by decide +kernel) (by decide +kernel), TG_m 54 (by decide +kernel) (by decide +kernel), TG_m 682 (by decide +kernel) (by decide +kernel)⟩, by decide +kernel⟩
theorem cb_Main_bodyOfLearning : CBV y_Main_bodyOfLearning b_Main_bodyOfLearning 3 (some .int) N_Main 1 := ⟨⟨TG_m 685 (by decide +kernel) (by decide +kernel), TG_m 19 (by decide +kernel) (by decide +kernel), TG_m 54 (by decide +kernel) (by decide +kernel), TG_m 686 (by decide +kernel) (by decide +kernel)⟩, by decide +kernel⟩
theorem cb_Main_leave : CBV y_Main_leave b_Main_leave 2 none N_Main 1 := ⟨⟨TG_m 689 (by decide +kernel) (by decide +kernel), TG_m 20 (by decide +kernel) (by decide +kernel), TG_m 54 (by decide +kernel) (by decide +kernel), TG_m 690 (by decide +kernel) (by decide +kernel)⟩, by decide +kernel⟩
theorem cb_Main_bodyOfDouble : CBV y_Main_bodyOfDouble b_Main_bodyOfDouble 2 (some .int) N_Main 1 := ⟨⟨TG_m 693 (by decide +kernel) (by decide +kernel), TG_m 21 (by decide +kernel) (by decide +kernel), TG_m 54 (by decide +kernel) (by decide +kernel), TG_m 694 (by decide +kernel) (by decide +kernel)⟩, by decide +kernel⟩
theorem cb_Main_bodyOfHouse : CBV y_Main_bodyOfHouse b_Main_bodyOfHouse 2 (some .int) N_Main 1 := ⟨⟨TG_m 697 (by decide +kernel) (by decide +kernel), TG_m 22 (by decide +kernel) (by decide +kernel), TG_m 54 (by decide +kernel) (by decide +kernel), TG_m 698 (by decide +kernel) (by decide +kernel)⟩, by decide +kernel⟩
theorem cb_Main_knock : CBV y_Main_knock b_Main_knock 2 (some .int) N_Main 1 := ⟨⟨TG_m 700 (by decide +kernel) (by decide +kernel), TG_m 701 (by decide +kernel) (by decide +kernel), TG_m 54 (by decide +kernel) (by decide +kernel), TG_m 702 (by decide +kernel) (by decide +kernel)⟩, by decide +kernel⟩
theorem cb_Main_ownKnock : CBV y_Main_ownKnock b_Main_ownKnock 1 (some .int) N_Main 0 := ⟨⟨TG_m 705 (by decide +kernel) (by decide +kernel), TG_m 23 (by decide +kernel) (by decide +kernel), TG_m 54 (by decide +kernel) (by decide +kernel), TG_m 706 (by decide +kernel) (by decide +kernel)⟩, by decide +kernel⟩
theorem cb_Main_lentKnock : CBV y_Main_lentKnock b_Main_lentKnock 2 (some .int) N_Main 1 := ⟨⟨TG_m 709 (by decide +kernel) (by decide +kernel), TG_m 24 (by decide +kernel) (by decide +kernel), TG_m 54 (by decide +kernel) (by decide +kernel), TG_m 710 (by decide +kernel) (by decide +kernel)⟩, by decide +kernel⟩
theorem cb_Main_as : CBV y_Main_as b_Main_as 3 (some .int) N_Main 2 := ⟨⟨TG_m 712 (by decide +kernel) (by decide +kernel), TG_m 713 (by decide +kernel) (by decide +kernel), TG_m 54 (by decide +kernel) (by decide +kernel), TG_m 714 (by decide +kernel) (by decide +kernel)⟩, by decide +kernel⟩
theorem cb_Main_trace : CBV y_Main_trace b_Main_trace 1 (some .int) N_Main 0 := ⟨⟨TG_m 716 (by decide +kernel) (by decide +kernel), TG_m 717 (by decide +kernel) (by decide +kernel), TG_m 54 (by decide +kernel) (by decide +kernel), TG_m 718 (by decide +kernel) (by decide +kernel)⟩, by decide +kernel⟩
theorem cb_Main_fault : CBV y_Main_fault b_Main_fault 1 (some .int) N_Main 0 := ⟨⟨TG_m 720 (by decide +kernel) (by decide +kernel), TG_m 721 (by decide +kernel) (by decide +kernel), TG_m 54 (by decide +kernel) (by decide +kernel), TG_m 722 (by decide +kernel) (by decide +kernel)⟩, by decide +kernel⟩
theorem cb_Main_many : CBV y_Main_many b_Main_many 2 (some .int) N_Main 1 := ⟨⟨TG_m 724 (by decide +kernel) (by decide +kernel), TG_m 725 (by decide +kernel) (by decide +kernel), TG_m 54 (by decide +kernel) (by decide +kernel), TG_m 726 (by decide +kernel) (by decide +kernel)⟩, by decide +kernel⟩
theorem cb_Model_way : CBV y_Model_way b_Model_way 8 (some .int) N_Model 4 := ⟨⟨TG_m 813 (by decide +kernel) (by decide +kernel), TG_m 814 (by decide +kernel) (by decide +kernel), TG_m 63 (by decide +kernel) (by decide +kernel), TG_m 815 (by decide +kernel) (by decide +kernel)⟩, by decide +kernel⟩
theorem cb_Model_isSheet : CBS y_Model_isSheet b_Model_isSheet 1 (some .boolean) 1 := ⟨⟨TG_m 817 (by decide +kernel) (by decide +kernel), TG_m 63 (by decide +kernel) (by decide +kernel), TG_m 818 (by decide +kernel) (by decide +kernel)⟩, by decide +kernel⟩
theorem cb_Model_within : CBS y_Model_within b_Model_within 3 (some .boolean) 3 := ⟨⟨TG_m 820 (by decide +kernel) (by decide +kernel), TG_m 63 (by decide +kernel) (by decide +kernel), TG_m 821 (by decide +kernel) (by decide +kernel)⟩, by decide +kernel⟩
theorem cb_Model_isSort : CBS y_Model_isSort b_Model_isSort 1 (some .boolean) 1 := ⟨⟨TG_m 823 (by decide +kernel) (by decide +kernel), TG_m 63 (by decide +kernel) (by decide +kernel), TG_m 824 (by decide +kernel) (by decide +kernel)⟩, by decide +kernel⟩
theorem cb_Model_against : CBV y_Model_against b_Model_against 5 (some .int) N_Model 4 := ⟨⟨TG_m 827 (by decide +kernel) (by decide +kernel), TG_m 25 (by decide +kernel) (by decide +kernel), TG_m 63 (by decide +kernel) (by decide +kernel), TG_m 828 (by decide +kernel) (by decide +kernel)⟩, by decide +kernel⟩
theorem cb_Model_fails : CBV y_Model_fails b_Model_fails 2 (some .int) N_Model 1 := ⟨⟨TG_m 831 (by decide +kernel) (by decide +kernel), TG_m 26 (by decide +kernel) (by decide +kernel), TG_m 63 (by decide +kernel) (by decide +kernel), TG_m 832 (by decide +kernel) (by decide +kernel)⟩, by decide +kernel⟩
theorem cb_Model_readWay : CBV y_Model_readWay b_Model_readWay 2 (some .boolean) N_Model 1 := ⟨⟨TG_m 835 (by decide +kernel) (by decide +kernel), TG_m 27 (by decide +kernel) (by decide +kernel), TG_m 63 (by decide +kernel) (by decide +kernel), TG_m 836 (by decide +kernel) (by decide +kernel)⟩, by decide +kernel⟩
theorem cb_Model_isSign : CBV y_Model_isSign b_Model_isSign 3 (some .boolean) N_Model 2 := ⟨⟨TG_m 839 (by decide +kernel) (by decide +kernel), TG_m 28 (by decide +kernel) (by decide +kernel), TG_m 63 (by decide +kernel) (by decide +kernel), TG_m 840 (by decide +kernel) (by decide +kernel)⟩, by decide +kernel⟩
theorem cb_Model_readOneHouse : CBV y_Model_readOneHouse b_Model_readOneHouse 5 (some .boolean) N_Model 1 := ⟨⟨TG_m 843 (by decide +kernel) (by decide +kernel), TG_m 29 (by decide +kernel) (by decide +kernel), TG_m 63 (by decide +kernel) (by decide +kernel), TG_m 844 (by decide +kernel) (by decide +kernel)⟩, by decide +kernel⟩
theorem cb_Model_digit : CBV y_Model_digit b_Model_digit 4 (some .int) N_Model 3 := ⟨⟨TG_m 847 (by decide +kernel) (by decide +kernel), TG_m 30 (by decide +kernel) (by decide +kernel), TG_m 63 (by decide +kernel) (by decide +kernel), TG_m 848 (by decide +kernel) (by decide +kernel)⟩, by decide +kernel⟩
theorem cb_Model_readGuest : CBV y_Model_readGuest b_Model_readGuest 4 (some .boolean) N_Model 1 := ⟨⟨TG_m 851 (by decide +kernel) (by decide +kernel), TG_m 31 (by decide +kernel) (by decide +kernel), TG_m 63 (by decide +kernel) (by decide +kernel), TG_m 852 (by decide +kernel) (by decide +kernel)⟩, by decide +kernel⟩
theorem cb_Model_ofHouse : CBV y_Model_ofHouse b_Model_ofHouse 3 (some .int) N_Model 2 := ⟨⟨TG_m 854 (by decide +kernel) (by decide +kernel), TG_m 855 (by decide +kernel) (by decide +kernel), TG_m 63 (by decide +kernel) (by decide +kernel), TG_m 856 (by decide +kernel) (by decide +kernel)⟩, by decide +kernel⟩
theorem cb_Model_isHouse : CBV y_Model_isHouse b_Model_isHouse 2 (some .boolean) N_Model 1 := ⟨⟨TG_m 859 (by decide +kernel) (by decide +kernel), TG_m 32 (by decide +kernel) (by decide +kernel), TG_m 63 (by decide +kernel) (by decide +kernel), TG_m 860 (by decide +kernel) (by decide +kernel)⟩, by decide +kernel⟩
theorem cb_Model_gear : CBV y_Model_gear b_Model_gear 2 (some .int) N_Model 1 := ⟨⟨TG_m 862 (by decide +kernel) (by decide +kernel), TG_m 863 (by decide +kernel) (by decide +kernel), TG_m 63 (by decide +kernel) (by decide +kernel), TG_m 864 (by decide +kernel) (by decide +kernel)⟩, by decide +kernel⟩
theorem cb_Model_isGuest : CBV y_Model_isGuest b_Model_isGuest 2 (some .boolean) N_Model 1 := ⟨⟨TG_m 867 (by decide +kernel) (by decide +kernel), TG_m 33 (by decide +kernel) (by decide +kernel), TG_m 63 (by decide +kernel) (by decide +kernel), TG_m 868 (by decide +kernel) (by decide +kernel)⟩, by decide +kernel⟩
theorem cb_Model_give : CBV y_Model_give b_Model_give 4 (some .int) N_Model 2 := ⟨⟨TG_m 870 (by decide +kernel) (by decide +kernel), TG_m 871 (by decide +kernel) (by decide +kernel), TG_m 63 (by decide +kernel) (by decide +kernel), TG_m 872 (by decide +kernel) (by decide +kernel)⟩, by decide +kernel⟩
theorem cb_Model_isSet : CBS y_Model_isSet b_Model_isSet 1 (some .boolean) 1 := ⟨⟨TG_m 874 (by decide +kernel) (by decide +kernel), TG_m 63 (by decide +kernel) (by decide +kernel), TG_m 875 (by decide +kernel) (by decide +kernel)⟩, by decide +kernel⟩
theorem cb_Model_bar : CBV y_Model_bar b_Model_bar 4 (some .int) N_Model 2 := ⟨⟨TG_m 877 (by decide +kernel) (by decide +kernel), TG_m 878 (by decide +kernel) (by decide +kernel), TG_m 63 (by decide +kernel) (by decide +kernel), TG_m 879 (by decide +kernel) (by decide +kernel)⟩, by decide +kernel⟩
theorem cb_Model_passes : CBV y_Model_passes b_Model_passes 4 (some .int) N_Model 3 := ⟨⟨TG_m 881 (by decide +kernel) (by decide +kernel), TG_m 882 (by decide +kernel) (by decide +kernel), TG_m 63 (by decide +kernel) (by decide +kernel), TG_m 883 (by decide +kernel) (by decide +kernel)⟩, by decide +kernel⟩
theorem cb_Model_used : CBV y_Model_used b_Model_used 7 (some .int) N_Model 3 := ⟨⟨TG_m 886 (by decide +kernel) (by decide +kernel), TG_m 34 (by decide +kernel) (by decide +kernel), TG_m 63 (by decide +kernel) (by decide +kernel), TG_m 887 (by decide +kernel) (by decide +kernel)⟩, by decide +kernel⟩
theorem cb_Model_visits : CBV y_Model_visits b_Model_visits 9 (some .int) N_Model 5 := ⟨⟨TG_m 889 (by decide +kernel) (by decide +kernel), TG_m 890 (by decide +kernel) (by decide +kernel), TG_m 63 (by decide +kernel) (by decide +kernel), TG_m 891 (by decide +kernel) (by decide +kernel)⟩, by decide +kernel⟩
theorem cb_Model_allGuests : CBV y_Model_allGuests b_Model_allGuests 1 (some .int) N_Model 0 := ⟨⟨TG_m 894 (by decide +kernel) (by decide +kernel), TG_m 35 (by decide +kernel) (by decide +kernel), TG_m 63 (by decide +kernel) (by decide +kernel), TG_m 895 (by decide +kernel) (by decide +kernel)⟩, by decide +kernel⟩
theorem cb_Model_visitAll : CBV y_Model_visitAll b_Model_visitAll 7 (some .int) N_Model 3 := ⟨⟨TG_m 898 (by decide +kernel) (by decide +kernel), TG_m 36 (by decide +kernel) (by decide +kernel), TG_m 63 (by decide +kernel) (by decide +kernel), TG_m 899 (by decide +kernel) (by decide +kernel)⟩, by decide +kernel⟩
theorem cb_Model_begin : CBV y_Model_begin b_Model_begin 2 none N_Model 0 := ⟨⟨TG_m 902 (by decide +kernel) (by decide +kernel), TG_m 37 (by decide +kernel) (by decide +kernel), TG_m 63 (by decide +kernel) (by decide +kernel), TG_m 903 (by decide +kernel) (by decide +kernel)⟩, by decide +kernel⟩
theorem cb_Model_visit : CBV y_Model_visit b_Model_visit 6 (some .boolean) N_Model 2 := ⟨⟨TG_m 906 (by decide +kernel) (by decide +kernel), TG_m 38 (by decide +kernel) (by decide +kernel), TG_m 63 (by decide +kernel) (by decide +kernel), TG_m 907 (by decide +kernel) (by decide +kernel)⟩, by decide +kernel⟩
theorem cb_Model_gearOfAll : CBV y_Model_gearOfAll b_Model_gearOfAll 4 (some .int) N_Model 1 := ⟨⟨TG_m 910 (by decide +kernel) (by decide +kernel), TG_m 39 (by decide +kernel) (by decide +kernel), TG_m 63 (by decide +kernel) (by decide +kernel), TG_m 911 (by decide +kernel) (by decide +kernel)⟩, by decide +kernel⟩
theorem cb_Model_going : CBV y_Model_going b_Model_going 11 (some .int) N_Model 5 := ⟨⟨TG_m 913 (by decide +kernel) (by decide +kernel), TG_m 914 (by decide +kernel) (by decide +kernel), TG_m 63 (by decide +kernel) (by decide +kernel), TG_m 915 (by decide +kernel) (by decide +kernel)⟩, by decide +kernel⟩
theorem cb_Model_goThrough : CBV y_Model_goThrough b_Model_goThrough 3 none N_Model 1 := ⟨⟨TG_m 918 (by decide +kernel) (by decide +kernel), TG_m 40 (by decide +kernel) (by decide +kernel), TG_m 63 (by decide +kernel) (by decide +kernel), TG_m 919 (by decide +kernel) (by decide +kernel)⟩, by decide +kernel⟩
theorem cb_Model_least : CBV y_Model_least b_Model_least 3 (some .int) N_Model 0 := ⟨⟨TG_m 921 (by decide +kernel) (by decide +kernel), TG_m 922 (by decide +kernel) (by decide +kernel), TG_m 63 (by decide +kernel) (by decide +kernel), TG_m 923 (by decide +kernel) (by decide +kernel)⟩, by decide +kernel⟩
theorem cb_Model_size : CBS y_Model_size b_Model_size 3 (some .int) 1 := ⟨⟨TG_m 925 (by decide +kernel) (by decide +kernel), TG_m 63 (by decide +kernel) (by decide +kernel), TG_m 926 (by decide +kernel) (by decide +kernel)⟩, by decide +kernel⟩
theorem cb_Model_passesEach : CBV y_Model_passesEach b_Model_passesEach 3 (some .boolean) N_Model 1 := ⟨⟨TG_m 929 (by decide +kernel) (by decide +kernel), TG_m 41 (by decide +kernel) (by decide +kernel), TG_m 63 (by decide +kernel) (by decide +kernel), TG_m 930 (by decide +kernel) (by decide +kernel)⟩, by decide +kernel⟩
theorem cb_Model_hard : CBV y_Model_hard b_Model_hard 2 (some .int) N_Model 0 := ⟨⟨TG_m 932 (by decide +kernel) (by decide +kernel), TG_m 933 (by decide +kernel) (by decide +kernel), TG_m 63 (by decide +kernel) (by decide +kernel), TG_m 934 (by decide +kernel) (by decide +kernel)⟩, by decide +kernel⟩
theorem cb_Model_best : CBV y_Model_best b_Model_best 5 (some .int) N_Model 1 := ⟨⟨TG_m 936 (by decide +kernel) (by decide +kernel), TG_m 937 (by decide +kernel) (by decide +kernel), TG_m 63 (by decide +kernel) (by decide +kernel), TG_m 938 (by decide +kernel) (by decide +kernel)⟩, by decide +kernel⟩
theorem cb_Model_beginRows : CBV y_Model_beginRows b_Model_beginRows 2 none N_Model 0 := ⟨⟨TG_m 941 (by decide +kernel) (by decide +kernel), TG_m 42 (by decide +kernel) (by decide +kernel), TG_m 63 (by decide +kernel) (by decide +kernel), TG_m 942 (by decide +kernel) (by decide +kernel)⟩, by decide +kernel⟩
theorem cb_Model_goRow : CBV y_Model_goRow b_Model_goRow 2 none N_Model 0 := ⟨⟨TG_m 945 (by decide +kernel) (by decide +kernel), TG_m 43 (by decide +kernel) (by decide +kernel), TG_m 63 (by decide +kernel) (by decide +kernel), TG_m 946 (by decide +kernel) (by decide +kernel)⟩, by decide +kernel⟩
theorem cb_Model_throughNow : CBV y_Model_throughNow b_Model_throughNow 1 (some .int) N_Model 0 := ⟨⟨TG_m 949 (by decide +kernel) (by decide +kernel), TG_m 44 (by decide +kernel) (by decide +kernel), TG_m 63 (by decide +kernel) (by decide +kernel), TG_m 950 (by decide +kernel) (by decide +kernel)⟩, by decide +kernel⟩
theorem cb_Model_nextRow : CBV y_Model_nextRow b_Model_nextRow 5 (some .boolean) N_Model 0 := ⟨⟨TG_m 953 (by decide +kernel) (by decide +kernel), TG_m 45 (by decide +kernel) (by decide +kernel), TG_m 63 (by decide +kernel) (by decide +kernel), TG_m 954 (by decide +kernel) (by decide +kernel)⟩, by decide +kernel⟩
theorem cb_Model_swap : CBV y_Model_swap b_Model_swap 4 none N_Model 2 := ⟨⟨TG_m 957 (by decide +kernel) (by decide +kernel), TG_m 46 (by decide +kernel) (by decide +kernel), TG_m 63 (by decide +kernel) (by decide +kernel), TG_m 958 (by decide +kernel) (by decide +kernel)⟩, by decide +kernel⟩
theorem cb_Model_twos : CBV y_Model_twos b_Model_twos 9 (some .int) N_Model 1 := ⟨⟨TG_m 960 (by decide +kernel) (by decide +kernel), TG_m 961 (by decide +kernel) (by decide +kernel), TG_m 63 (by decide +kernel) (by decide +kernel), TG_m 962 (by decide +kernel) (by decide +kernel)⟩, by decide +kernel⟩
theorem cb_Model_layMates : CBV y_Model_layMates b_Model_layMates 4 (some .boolean) N_Model 1 := ⟨⟨TG_m 965 (by decide +kernel) (by decide +kernel), TG_m 47 (by decide +kernel) (by decide +kernel), TG_m 63 (by decide +kernel) (by decide +kernel), TG_m 966 (by decide +kernel) (by decide +kernel)⟩, by decide +kernel⟩
theorem cb_Model_goMates : CBV y_Model_goMates b_Model_goMates 3 (some .int) N_Model 0 := ⟨⟨TG_m 969 (by decide +kernel) (by decide +kernel), TG_m 48 (by decide +kernel) (by decide +kernel), TG_m 63 (by decide +kernel) (by decide +kernel), TG_m 970 (by decide +kernel) (by decide +kernel)⟩, by decide +kernel⟩
theorem cb_Model_gift : CBV y_Model_gift b_Model_gift 7 (some .int) N_Model 1 := ⟨⟨TG_m 972 (by decide +kernel) (by decide +kernel), TG_m 973 (by decide +kernel) (by decide +kernel), TG_m 63 (by decide +kernel) (by decide +kernel), TG_m 974 (by decide +kernel) (by decide +kernel)⟩, by decide +kernel⟩
theorem cb_Model_goAll : CBV y_Model_goAll b_Model_goAll 2 none N_Model 0 := ⟨⟨TG_m 977 (by decide +kernel) (by decide +kernel), TG_m 49 (by decide +kernel) (by decide +kernel), TG_m 63 (by decide +kernel) (by decide +kernel), TG_m 978 (by decide +kernel) (by decide +kernel)⟩, by decide +kernel⟩
theorem cb_Model_worst : CBV y_Model_worst b_Model_worst 5 (some .int) N_Model 1 := ⟨⟨TG_m 980 (by decide +kernel) (by decide +kernel), TG_m 981 (by decide +kernel) (by decide +kernel), TG_m 63 (by decide +kernel) (by decide +kernel), TG_m 982 (by decide +kernel) (by decide +kernel)⟩, by decide +kernel⟩
theorem cb_Model_reading : CBV y_Model_reading b_Model_reading 3 (some .int) N_Model 2 := ⟨⟨TG_m 984 (by decide +kernel) (by decide +kernel), TG_m 985 (by decide +kernel) (by decide +kernel), TG_m 63 (by decide +kernel) (by decide +kernel), TG_m 986 (by decide +kernel) (by decide +kernel)⟩, by decide +kernel⟩
theorem cb_Model_back : CBV y_Model_back b_Model_back 2 (some .int) N_Model 1 := ⟨⟨TG_m 988 (by decide +kernel) (by decide +kernel), TG_m 989 (by decide +kernel) (by decide +kernel), TG_m 63 (by decide +kernel) (by decide +kernel), TG_m 990 (by decide +kernel) (by decide +kernel)⟩, by decide +kernel⟩
theorem cb_Model_had : CBV y_Model_had b_Model_had 7 (some .int) N_Model 2 := ⟨⟨TG_m 992 (by decide +kernel) (by decide +kernel), TG_m 993 (by decide +kernel) (by decide +kernel), TG_m 63 (by decide +kernel) (by decide +kernel), TG_m 994 (by decide +kernel) (by decide +kernel)⟩, by decide +kernel⟩
theorem cb_Model_areSo : CBV y_Model_areSo b_Model_areSo 2 (some .boolean) N_Model 0 := ⟨⟨TG_m 997 (by decide +kernel) (by decide +kernel), TG_m 50 (by decide +kernel) (by decide +kernel), TG_m 63 (by decide +kernel) (by decide +kernel), TG_m 998 (by decide +kernel) (by decide +kernel)⟩, by decide +kernel⟩
theorem cb_Model_kinds : CBV y_Model_kinds b_Model_kinds 5 (some .int) N_Model 1 := ⟨⟨TG_m 1000 (by decide +kernel) (by decide +kernel), TG_m 1001 (by decide +kernel) (by decide +kernel), TG_m 63 (by decide +kernel) (by decide +kernel), TG_m 1002 (by decide +kernel) (by decide +kernel)⟩, by decide +kernel⟩
theorem cb_Model_odds : CBV y_Model_odds b_Model_odds 6 (some .long) N_Model 2 := ⟨⟨TG_m 1004 (by decide +kernel) (by decide +kernel), TG_m 1005 (by decide +kernel) (by decide +kernel), TG_m 63 (by decide +kernel) (by decide +kernel), TG_m 1006 (by decide +kernel) (by decide +kernel)⟩, by decide +kernel⟩
theorem cb_Model_inLeastTerms : CBS y_Model_inLeastTerms b_Model_inLeastTerms 11 (some .long) 3 := ⟨⟨TG_m 1009 (by decide +kernel) (by decide +kernel), TG_m 63 (by decide +kernel) (by decide +kernel), TG_m 1010 (by decide +kernel) (by decide +kernel)⟩, by decide +kernel⟩
theorem cb_Model_sheet : CBV y_Model_sheet b_Model_sheet 5 (some .int) N_Model 3 := ⟨⟨TG_m 1012 (by decide +kernel) (by decide +kernel), TG_m 1013 (by decide +kernel) (by decide +kernel), TG_m 63 (by decide +kernel) (by decide +kernel), TG_m 1014 (by decide +kernel) (by decide +kernel)⟩, by decide +kernel⟩
theorem cb_Model_lose : CBV y_Model_lose b_Model_lose 3 (some .int) N_Model 1 := ⟨⟨TG_m 1016 (by decide +kernel) (by decide +kernel), TG_m 1017 (by decide +kernel) (by decide +kernel), TG_m 63 (by decide +kernel) (by decide +kernel), TG_m 1018 (by decide +kernel) (by decide +kernel)⟩, by decide +kernel⟩
theorem cb_Model_put : CBV y_Model_put b_Model_put 4 (some .int) N_Model 3 := ⟨⟨TG_m 1020 (by decide +kernel) (by decide +kernel), TG_m 1021 (by decide +kernel) (by decide +kernel), TG_m 63 (by decide +kernel) (by decide +kernel), TG_m 1022 (by decide +kernel) (by decide +kernel)⟩, by decide +kernel⟩
theorem cb_Model_cell : CBV y_Model_cell b_Model_cell 4 (some .long) N_Model 3 := ⟨⟨TG_m 1024 (by decide +kernel) (by decide +kernel), TG_m 1025 (by decide +kernel) (by decide +kernel), TG_m 63 (by decide +kernel) (by decide +kernel), TG_m 1026 (by decide +kernel) (by decide +kernel)⟩, by decide +kernel⟩
theorem cb_Model_lost : CBV y_Model_lost b_Model_lost 2 (some .long) N_Model 1 := ⟨⟨TG_m 1029 (by decide +kernel) (by decide +kernel), TG_m 51 (by decide +kernel) (by decide +kernel), TG_m 63 (by decide +kernel) (by decide +kernel), TG_m 1030 (by decide +kernel) (by decide +kernel)⟩, by decide +kernel⟩
theorem cb_Model_copy : CBV y_Model_copy b_Model_copy 10 (some .int) N_Model 5 := ⟨⟨TG_m 1032 (by decide +kernel) (by decide +kernel), TG_m 1033 (by decide +kernel) (by decide +kernel), TG_m 63 (by decide +kernel) (by decide +kernel), TG_m 1034 (by decide +kernel) (by decide +kernel)⟩, by decide +kernel⟩
theorem cb_Model_tell : CBV y_Model_tell b_Model_tell 3 (some .int) N_Model 1 := ⟨⟨TG_m 1036 (by decide +kernel) (by decide +kernel), TG_m 1037 (by decide +kernel) (by decide +kernel), TG_m 63 (by decide +kernel) (by decide +kernel), TG_m 1038 (by decide +kernel) (by decide +kernel)⟩, by decide +kernel⟩
theorem cb_Model_begins : CBV y_Model_begins b_Model_begins 2 none N_Model 1 := ⟨⟨TG_m 1041 (by decide +kernel) (by decide +kernel), TG_m 52 (by decide +kernel) (by decide +kernel), TG_m 63 (by decide +kernel) (by decide +kernel), TG_m 1042 (by decide +kernel) (by decide +kernel)⟩, by decide +kernel⟩
theorem cb_Model_knock : CBV y_Model_knock b_Model_knock 2 (some .int) N_Model 1 := ⟨⟨TG_m 1044 (by decide +kernel) (by decide +kernel), TG_m 1045 (by decide +kernel) (by decide +kernel), TG_m 63 (by decide +kernel) (by decide +kernel), TG_m 1046 (by decide +kernel) (by decide +kernel)⟩, by decide +kernel⟩
theorem cb_Model_as : CBV y_Model_as b_Model_as 3 (some .int) N_Model 2 := ⟨⟨TG_m 1048 (by decide +kernel) (by decide +kernel), TG_m 1049 (by decide +kernel) (by decide +kernel), TG_m 63 (by decide +kernel) (by decide +kernel), TG_m 1050 (by decide +kernel) (by decide +kernel)⟩, by decide +kernel⟩
theorem cb_Model_trace : CBV y_Model_trace b_Model_trace 1 (some .int) N_Model 0 := ⟨⟨TG_m 1052 (by decide +kernel) (by decide +kernel), TG_m 1053 (by decide +kernel) (by decide +kernel), TG_m 63 (by decide +kernel) (by decide +kernel), TG_m 1054 (by decide +kernel) (by decide +kernel)⟩, by decide +kernel⟩
theorem cb_Model_fault : CBV y_Model_fault b_Model_fault 1 (some .int) N_Model 0 := ⟨⟨TG_m 1056 (by decide +kernel) (by decide +kernel), TG_m 1057 (by decide +kernel) (by decide +kernel), TG_m 63 (by decide +kernel) (by decide +kernel), TG_m 1058 (by decide +kernel) (by decide +kernel)⟩, by decide +kernel⟩
theorem cb_Model_many : CBV y_Model_many b_Model_many 2 (some .int) N_Model 1 := ⟨⟨TG_m 1060 (by decide +kernel) (by decide +kernel), TG_m 1061 (by decide +kernel) (by decide +kernel), TG_m 63 (by decide +kernel) (by decide +kernel), TG_m 1062 (by decide +kernel) (by decide +kernel)⟩, by decide +kernel⟩
theorem fl_Main_13 : Cond.fieldLink N_Main 13 N_Main (T_Main 0).2.1 (T_Main 0).2.2.1 ∈ TG := TG_m 303 (by decide +kernel) (by decide +kernel)
theorem fl_Main_21 : Cond.fieldLink N_Main 21 N_Main (T_Main 1).2.1 (T_Main 1).2.2.1 ∈ TG := TG_m 304 (by decide +kernel) (by decide +kernel)
theorem fl_Main_28 : Cond.fieldLink N_Main 28 N_Main (T_Main 2).2.1 (T_Main 2).2.2.1 ∈ TG := TG_m 305 (by decide +kernel) (by decide +kernel)
theorem fl_Main_37 : Cond.fieldLink N_Main 37 N_Main (T_Main 3).2.1 (T_Main 3).2.2.1 ∈ TG := TG_m 306 (by decide +kernel) (by decide +kernel)
theorem fl_Main_46 : Cond.fieldLink N_Main 46 N_Main (T_Main 4).2.1 (T_Main 4).2.2.1 ∈ TG := TG_m 307 (by decide +kernel) (by decide +kernel)
theorem fl_Main_53 : Cond.fieldLink N_Main 53 N_Main (T_Main 5).2.1 (T_Main 5).2.2.1 ∈ TG := TG_m 308 (by decide +kernel) (by decide +kernel)
theorem fl_Main_60 : Cond.fieldLink N_Main 60 N_Main (T_Main 6).2.1 (T_Main 6).2.2.1 ∈ TG := TG_m 309 (by decide +kernel) (by decide +kernel)
theorem fl_Main_64 : Cond.fieldLink N_Main 64 N_Main (T_Main 7).2.1 (T_Main 7).2.2.1 ∈ TG := TG_m 310 (by decide +kernel) (by decide +kernel)
theorem fl_Main_68 : Cond.fieldLink N_Main 68 N_Main (T_Main 8).2.1 (T_Main 8).2.2.1 ∈ TG := TG_m 311 (by decide +kernel) (by decide +kernel)
theorem fl_Main_99 : Cond.fieldLink N_Main 99 N_Readings (T_Readings 4).2.1 (T_Readings 4).2.2.1 ∈ TG := TG_m 283 (by decide +kernel) (by decide +kernel)
theorem fl_Main_102 : Cond.fieldLink N_Main 102 N_Way (T_Way 5).2.1 (T_Way 5).2.2.1 ∈ TG := TG_m 143 (by decide +kernel) (by decide +kernel)
theorem fl_Main_109 : Cond.fieldLink N_Main 109 N_Way (T_Way 0).2.1 (T_Way 0).2.2.1 ∈ TG := TG_m 129 (by decide +kernel) (by decide +kernel)
theorem fl_Main_113 : Cond.fieldLink N_Main 113 N_Way (T_Way 1).2.1 (T_Way 1).2.2.1 ∈ TG := TG_m 133 (by decide +kernel) (by decide +kernel)
theorem fl_Main_116 : Cond.fieldLink N_Main 116 N_Way (T_Way 2).2.1 (T_Way 2).2.2.1 ∈ TG := TG_m 135 (by decide +kernel) (by decide +kernel)
theorem fl_Main_119 : Cond.fieldLink N_Main 119 N_Way (T_Way 3).2.1 (T_Way 3).2.2.1 ∈ TG := TG_m 137 (by decide +kernel) (by decide +kernel)
theorem fl_Main_125 : Cond.fieldLink N_Main 125 N_Way (T_Way 4).2.1 (T_Way 4).2.2.1 ∈ TG := TG_m 141 (by decide +kernel) (by decide +kernel)
theorem fl_Main_142 : Cond.fieldLink N_Main 142 N_Sheet (T_Sheet 0).2.1 (T_Sheet 0).2.2.1 ∈ TG := TG_m 84 (by decide +kernel) (by decide +kernel)
theorem fl_Main_160 : Cond.fieldLink N_Main 160 N_Walk (T_Walk 3).2.1 (T_Walk 3).2.2.1 ∈ TG := TG_m 183 (by decide +kernel) (by decide +kernel)
theorem fl_Main_163 : Cond.fieldLink N_Main 163 N_Walk (T_Walk 2).2.1 (T_Walk 2).2.2.1 ∈ TG := TG_m 180 (by decide +kernel) (by decide +kernel)
theorem fl_Main_172 : Cond.fieldLink N_Main 172 N_Way (T_Way 6).2.1 (T_Way 6).2.2.1 ∈ TG := TG_m 149 (by decide +kernel) (by decide +kernel)
theorem fl_Main_178 : Cond.fieldLink N_Main 178 N_Search (T_Search 4).2.1 (T_Search 4).2.2.1 ∈ TG := TG_m 228 (by decide +kernel) (by decide +kernel)
theorem fl_Main_181 : Cond.fieldLink N_Main 181 N_Search (T_Search 3).2.1 (T_Search 3).2.2.1 ∈ TG := TG_m 226 (by decide +kernel) (by decide +kernel)
theorem fl_Main_190 : Cond.fieldLink N_Main 190 N_Trials (T_Trials 2).2.1 (T_Trials 2).2.2.1 ∈ TG := TG_m 260 (by decide +kernel) (by decide +kernel)
theorem fl_Main_192 : Cond.fieldLink N_Main 192 N_Trials (T_Trials 3).2.1 (T_Trials 3).2.2.1 ∈ TG := TG_m 262 (by decide +kernel) (by decide +kernel)
theorem fl_Main_208 : Cond.fieldLink N_Main 208 N_Readings (T_Readings 5).2.1 (T_Readings 5).2.2.1 ∈ TG := TG_m 285 (by decide +kernel) (by decide +kernel)
theorem fl_Main_211 : Cond.fieldLink N_Main 211 N_Readings (T_Readings 6).2.1 (T_Readings 6).2.2.1 ∈ TG := TG_m 287 (by decide +kernel) (by decide +kernel)
theorem fl_Main_222 : Cond.fieldLink N_Main 222 N_Search (T_Search 6).2.1 (T_Search 6).2.2.1 ∈ TG := TG_m 231 (by decide +kernel) (by decide +kernel)
theorem fl_Main_225 : Cond.fieldLink N_Main 225 N_Search (T_Search 7).2.1 (T_Search 7).2.2.1 ∈ TG := TG_m 233 (by decide +kernel) (by decide +kernel)
theorem fl_Main_235 : Cond.fieldLink N_Main 235 N_Sheet (T_Sheet 1).2.1 (T_Sheet 1).2.2.1 ∈ TG := TG_m 86 (by decide +kernel) (by decide +kernel)
theorem fl_Main_239 : Cond.fieldLink N_Main 239 N_Sheet (T_Sheet 3).2.1 (T_Sheet 3).2.2.1 ∈ TG := TG_m 90 (by decide +kernel) (by decide +kernel)
theorem fl_Main_245 : Cond.fieldLink N_Main 245 N_Sheet (T_Sheet 2).2.1 (T_Sheet 2).2.2.1 ∈ TG := TG_m 88 (by decide +kernel) (by decide +kernel)
theorem fl_Main_275 : Cond.fieldLink N_Main 275 N_Walk (T_Walk 4).2.1 (T_Walk 4).2.2.1 ∈ TG := TG_m 185 (by decide +kernel) (by decide +kernel)
theorem fl_Main_278 : Cond.fieldLink N_Main 278 N_Walk (T_Walk 5).2.1 (T_Walk 5).2.2.1 ∈ TG := TG_m 187 (by decide +kernel) (by decide +kernel)
theorem fl_Main_281 : Cond.fieldLink N_Main 281 N_Walk (T_Walk 1).2.1 (T_Walk 1).2.2.1 ∈ TG := TG_m 177 (by decide +kernel) (by decide +kernel)
theorem fl_Orders_9 : Cond.fieldLink N_Orders 9 N_Orders (T_Orders 0).2.1 (T_Orders 0).2.2.1 ∈ TG := TG_m 213 (by decide +kernel) (by decide +kernel)
theorem fl_Orders_15 : Cond.fieldLink N_Orders 15 N_Orders (T_Orders 1).2.1 (T_Orders 1).2.2.1 ∈ TG := TG_m 215 (by decide +kernel) (by decide +kernel)
theorem fl_Readings_9 : Cond.fieldLink N_Readings 9 N_Readings (T_Readings 0).2.1 (T_Readings 0).2.2.1 ∈ TG := TG_m 278 (by decide +kernel) (by decide +kernel)
theorem fl_Readings_15 : Cond.fieldLink N_Readings 15 N_Readings (T_Readings 1).2.1 (T_Readings 1).2.2.1 ∈ TG := TG_m 279 (by decide +kernel) (by decide +kernel)
theorem fl_Readings_19 : Cond.fieldLink N_Readings 19 N_Readings (T_Readings 2).2.1 (T_Readings 2).2.2.1 ∈ TG := TG_m 280 (by decide +kernel) (by decide +kernel)
theorem fl_Readings_23 : Cond.fieldLink N_Readings 23 N_Readings (T_Readings 3).2.1 (T_Readings 3).2.2.1 ∈ TG := TG_m 281 (by decide +kernel) (by decide +kernel)
theorem fl_Readings_26 : Cond.fieldLink N_Readings 26 N_Readings (T_Readings 4).2.1 (T_Readings 4).2.2.1 ∈ TG := TG_m 282 (by decide +kernel) (by decide +kernel)
theorem fl_Readings_30 : Cond.fieldLink N_Readings 30 N_Readings (T_Readings 5).2.1 (T_Readings 5).2.2.1 ∈ TG := TG_m 284 (by decide +kernel) (by decide +kernel)
theorem fl_Readings_33 : Cond.fieldLink N_Readings 33 N_Readings (T_Readings 6).2.1 (T_Readings 6).2.2.1 ∈ TG := TG_m 286 (by decide +kernel) (by decide +kernel)
theorem fl_Readings_36 : Cond.fieldLink N_Readings 36 N_Way (T_Way 4).2.1 (T_Way 4).2.2.1 ∈ TG := TG_m 140 (by decide +kernel) (by decide +kernel)
theorem fl_Readings_51 : Cond.fieldLink N_Readings 51 N_Way (T_Way 0).2.1 (T_Way 0).2.2.1 ∈ TG := TG_m 130 (by decide +kernel) (by decide +kernel)
theorem fl_Readings_54 : Cond.fieldLink N_Readings 54 N_Walk (T_Walk 2).2.1 (T_Walk 2).2.2.1 ∈ TG := TG_m 179 (by decide +kernel) (by decide +kernel)
theorem fl_Search_9 : Cond.fieldLink N_Search 9 N_Search (T_Search 0).2.1 (T_Search 0).2.2.1 ∈ TG := TG_m 222 (by decide +kernel) (by decide +kernel)
theorem fl_Search_15 : Cond.fieldLink N_Search 15 N_Search (T_Search 1).2.1 (T_Search 1).2.2.1 ∈ TG := TG_m 223 (by decide +kernel) (by decide +kernel)
theorem fl_Search_22 : Cond.fieldLink N_Search 22 N_Search (T_Search 2).2.1 (T_Search 2).2.2.1 ∈ TG := TG_m 224 (by decide +kernel) (by decide +kernel)
theorem fl_Search_26 : Cond.fieldLink N_Search 26 N_Search (T_Search 3).2.1 (T_Search 3).2.2.1 ∈ TG := TG_m 225 (by decide +kernel) (by decide +kernel)
theorem fl_Search_30 : Cond.fieldLink N_Search 30 N_Search (T_Search 4).2.1 (T_Search 4).2.2.1 ∈ TG := TG_m 227 (by decide +kernel) (by decide +kernel)
theorem fl_Search_34 : Cond.fieldLink N_Search 34 N_Search (T_Search 5).2.1 (T_Search 5).2.2.1 ∈ TG := TG_m 229 (by decide +kernel) (by decide +kernel)
theorem fl_Search_37 : Cond.fieldLink N_Search 37 N_Search (T_Search 6).2.1 (T_Search 6).2.2.1 ∈ TG := TG_m 230 (by decide +kernel) (by decide +kernel)
theorem fl_Search_40 : Cond.fieldLink N_Search 40 N_Search (T_Search 7).2.1 (T_Search 7).2.2.1 ∈ TG := TG_m 232 (by decide +kernel) (by decide +kernel)
theorem fl_Search_43 : Cond.fieldLink N_Search 43 N_Way (T_Way 6).2.1 (T_Way 6).2.2.1 ∈ TG := TG_m 146 (by decide +kernel) (by decide +kernel)
theorem fl_Search_79 : Cond.fieldLink N_Search 79 N_Orders (T_Orders 1).2.1 (T_Orders 1).2.2.1 ∈ TG := TG_m 216 (by decide +kernel) (by decide +kernel)
theorem fl_Search_82 : Cond.fieldLink N_Search 82 N_Orders (T_Orders 0).2.1 (T_Orders 0).2.2.1 ∈ TG := TG_m 214 (by decide +kernel) (by decide +kernel)
theorem fl_Search_88 : Cond.fieldLink N_Search 88 N_Walk (T_Walk 3).2.1 (T_Walk 3).2.2.1 ∈ TG := TG_m 182 (by decide +kernel) (by decide +kernel)
theorem fl_Sheet_9 : Cond.fieldLink N_Sheet 9 N_Sheet (T_Sheet 0).2.1 (T_Sheet 0).2.2.1 ∈ TG := TG_m 82 (by decide +kernel) (by decide +kernel)
theorem fl_Sheet_15 : Cond.fieldLink N_Sheet 15 N_Sheet (T_Sheet 1).2.1 (T_Sheet 1).2.2.1 ∈ TG := TG_m 85 (by decide +kernel) (by decide +kernel)
theorem fl_Sheet_19 : Cond.fieldLink N_Sheet 19 N_Sheet (T_Sheet 2).2.1 (T_Sheet 2).2.2.1 ∈ TG := TG_m 87 (by decide +kernel) (by decide +kernel)
theorem fl_Sheet_23 : Cond.fieldLink N_Sheet 23 N_Sheet (T_Sheet 3).2.1 (T_Sheet 3).2.2.1 ∈ TG := TG_m 89 (by decide +kernel) (by decide +kernel)
theorem fl_Text_9 : Cond.fieldLink N_Text 9 N_Text (T_Text 0).2.1 (T_Text 0).2.2.1 ∈ TG := TG_m 107 (by decide +kernel) (by decide +kernel)
theorem fl_Text_15 : Cond.fieldLink N_Text 15 N_Text (T_Text 1).2.1 (T_Text 1).2.2.1 ∈ TG := TG_m 108 (by decide +kernel) (by decide +kernel)
theorem fl_Text_19 : Cond.fieldLink N_Text 19 N_Text (T_Text 2).2.1 (T_Text 2).2.2.1 ∈ TG := TG_m 109 (by decide +kernel) (by decide +kernel)
theorem fl_Text_22 : Cond.fieldLink N_Text 22 N_Text (T_Text 3).2.1 (T_Text 3).2.2.1 ∈ TG := TG_m 111 (by decide +kernel) (by decide +kernel)
theorem fl_Text_25 : Cond.fieldLink N_Text 25 N_Sheet (T_Sheet 0).2.1 (T_Sheet 0).2.2.1 ∈ TG := TG_m 83 (by decide +kernel) (by decide +kernel)
theorem fl_Trials_9 : Cond.fieldLink N_Trials 9 N_Trials (T_Trials 0).2.1 (T_Trials 0).2.2.1 ∈ TG := TG_m 257 (by decide +kernel) (by decide +kernel)
theorem fl_Trials_15 : Cond.fieldLink N_Trials 15 N_Trials (T_Trials 1).2.1 (T_Trials 1).2.2.1 ∈ TG := TG_m 258 (by decide +kernel) (by decide +kernel)
theorem fl_Trials_19 : Cond.fieldLink N_Trials 19 N_Trials (T_Trials 2).2.1 (T_Trials 2).2.2.1 ∈ TG := TG_m 259 (by decide +kernel) (by decide +kernel)
theorem fl_Trials_23 : Cond.fieldLink N_Trials 23 N_Trials (T_Trials 3).2.1 (T_Trials 3).2.2.1 ∈ TG := TG_m 261 (by decide +kernel) (by decide +kernel)
theorem fl_Trials_32 : Cond.fieldLink N_Trials 32 N_Way (T_Way 6).2.1 (T_Way 6).2.2.1 ∈ TG := TG_m 147 (by decide +kernel) (by decide +kernel)
theorem fl_Trials_37 : Cond.fieldLink N_Trials 37 N_Way (T_Way 4).2.1 (T_Way 4).2.2.1 ∈ TG := TG_m 139 (by decide +kernel) (by decide +kernel)
theorem fl_Trials_41 : Cond.fieldLink N_Trials 41 N_Way (T_Way 7).2.1 (T_Way 7).2.2.1 ∈ TG := TG_m 151 (by decide +kernel) (by decide +kernel)
theorem fl_Walk_9 : Cond.fieldLink N_Walk 9 N_Walk (T_Walk 0).2.1 (T_Walk 0).2.2.1 ∈ TG := TG_m 175 (by decide +kernel) (by decide +kernel)
theorem fl_Walk_15 : Cond.fieldLink N_Walk 15 N_Walk (T_Walk 1).2.1 (T_Walk 1).2.2.1 ∈ TG := TG_m 176 (by decide +kernel) (by decide +kernel)
theorem fl_Walk_19 : Cond.fieldLink N_Walk 19 N_Walk (T_Walk 2).2.1 (T_Walk 2).2.2.1 ∈ TG := TG_m 178 (by decide +kernel) (by decide +kernel)
theorem fl_Walk_22 : Cond.fieldLink N_Walk 22 N_Walk (T_Walk 3).2.1 (T_Walk 3).2.2.1 ∈ TG := TG_m 181 (by decide +kernel) (by decide +kernel)
theorem fl_Walk_26 : Cond.fieldLink N_Walk 26 N_Walk (T_Walk 4).2.1 (T_Walk 4).2.2.1 ∈ TG := TG_m 184 (by decide +kernel) (by decide +kernel)
theorem fl_Walk_29 : Cond.fieldLink N_Walk 29 N_Walk (T_Walk 5).2.1 (T_Walk 5).2.2.1 ∈ TG := TG_m 186 (by decide +kernel) (by decide +kernel)
theorem fl_Walk_48 : Cond.fieldLink N_Walk 48 N_Way (T_Way 5).2.1 (T_Way 5).2.2.1 ∈ TG := TG_m 144 (by decide +kernel) (by decide +kernel)
theorem fl_Walk_57 : Cond.fieldLink N_Walk 57 N_Way (T_Way 6).2.1 (T_Way 6).2.2.1 ∈ TG := TG_m 148 (by decide +kernel) (by decide +kernel)
theorem fl_Walk_73 : Cond.fieldLink N_Walk 73 N_Way (T_Way 0).2.1 (T_Way 0).2.2.1 ∈ TG := TG_m 131 (by decide +kernel) (by decide +kernel)
theorem fl_Way_9 : Cond.fieldLink N_Way 9 N_Way (T_Way 0).2.1 (T_Way 0).2.2.1 ∈ TG := TG_m 128 (by decide +kernel) (by decide +kernel)
theorem fl_Way_15 : Cond.fieldLink N_Way 15 N_Way (T_Way 1).2.1 (T_Way 1).2.2.1 ∈ TG := TG_m 132 (by decide +kernel) (by decide +kernel)
theorem fl_Way_18 : Cond.fieldLink N_Way 18 N_Way (T_Way 2).2.1 (T_Way 2).2.2.1 ∈ TG := TG_m 134 (by decide +kernel) (by decide +kernel)
theorem fl_Way_21 : Cond.fieldLink N_Way 21 N_Way (T_Way 3).2.1 (T_Way 3).2.2.1 ∈ TG := TG_m 136 (by decide +kernel) (by decide +kernel)
theorem fl_Way_24 : Cond.fieldLink N_Way 24 N_Way (T_Way 4).2.1 (T_Way 4).2.2.1 ∈ TG := TG_m 138 (by decide +kernel) (by decide +kernel)
theorem fl_Way_27 : Cond.fieldLink N_Way 27 N_Way (T_Way 5).2.1 (T_Way 5).2.2.1 ∈ TG := TG_m 142 (by decide +kernel) (by decide +kernel)
theorem fl_Way_31 : Cond.fieldLink N_Way 31 N_Way (T_Way 6).2.1 (T_Way 6).2.2.1 ∈ TG := TG_m 145 (by decide +kernel) (by decide +kernel)
theorem fl_Way_34 : Cond.fieldLink N_Way 34 N_Way (T_Way 7).2.1 (T_Way 7).2.2.1 ∈ TG := TG_m 150 (by decide +kernel) (by decide +kernel)
theorem fl_Way_37 : Cond.fieldLink N_Way 37 N_Text (T_Text 2).2.1 (T_Text 2).2.2.1 ∈ TG := TG_m 110 (by decide +kernel) (by decide +kernel)
theorem fl_Way_40 : Cond.fieldLink N_Way 40 N_Text (T_Text 3).2.1 (T_Text 3).2.2.1 ∈ TG := TG_m 112 (by decide +kernel) (by decide +kernel)
theorem fl_Model_9 : Cond.fieldLink N_Model 9 N_Model (T_Model 2).2.1 (T_Model 2).2.2.1 ∈ TG := TG_m 735 (by decide +kernel) (by decide +kernel)
theorem fl_Model_13 : Cond.fieldLink N_Model 13 N_Model (T_Model 3).2.1 (T_Model 3).2.2.1 ∈ TG := TG_m 736 (by decide +kernel) (by decide +kernel)
theorem fl_Model_16 : Cond.fieldLink N_Model 16 N_Model (T_Model 4).2.1 (T_Model 4).2.2.1 ∈ TG := TG_m 737 (by decide +kernel) (by decide +kernel)
theorem fl_Model_19 : Cond.fieldLink N_Model 19 N_Model (T_Model 7).2.1 (T_Model 7).2.2.1 ∈ TG := TG_m 740 (by decide +kernel) (by decide +kernel)
theorem fl_Model_22 : Cond.fieldLink N_Model 22 N_Model (T_Model 8).2.1 (T_Model 8).2.2.1 ∈ TG := TG_m 741 (by decide +kernel) (by decide +kernel)
theorem fl_Model_25 : Cond.fieldLink N_Model 25 N_Model (T_Model 9).2.1 (T_Model 9).2.2.1 ∈ TG := TG_m 742 (by decide +kernel) (by decide +kernel)
theorem fl_Model_28 : Cond.fieldLink N_Model 28 N_Model (T_Model 10).2.1 (T_Model 10).2.2.1 ∈ TG := TG_m 743 (by decide +kernel) (by decide +kernel)
theorem fl_Model_31 : Cond.fieldLink N_Model 31 N_Model (T_Model 11).2.1 (T_Model 11).2.2.1 ∈ TG := TG_m 744 (by decide +kernel) (by decide +kernel)
theorem fl_Model_34 : Cond.fieldLink N_Model 34 N_Model (T_Model 12).2.1 (T_Model 12).2.2.1 ∈ TG := TG_m 745 (by decide +kernel) (by decide +kernel)
theorem fl_Model_38 : Cond.fieldLink N_Model 38 N_Model (T_Model 16).2.1 (T_Model 16).2.2.1 ∈ TG := TG_m 749 (by decide +kernel) (by decide +kernel)
theorem fl_Model_41 : Cond.fieldLink N_Model 41 N_Model (T_Model 17).2.1 (T_Model 17).2.2.1 ∈ TG := TG_m 750 (by decide +kernel) (by decide +kernel)
theorem fl_Model_44 : Cond.fieldLink N_Model 44 N_Model (T_Model 19).2.1 (T_Model 19).2.2.1 ∈ TG := TG_m 752 (by decide +kernel) (by decide +kernel)
theorem fl_Model_47 : Cond.fieldLink N_Model 47 N_Model (T_Model 20).2.1 (T_Model 20).2.2.1 ∈ TG := TG_m 753 (by decide +kernel) (by decide +kernel)
theorem fl_Model_50 : Cond.fieldLink N_Model 50 N_Model (T_Model 21).2.1 (T_Model 21).2.2.1 ∈ TG := TG_m 754 (by decide +kernel) (by decide +kernel)
theorem fl_Model_53 : Cond.fieldLink N_Model 53 N_Model (T_Model 22).2.1 (T_Model 22).2.2.1 ∈ TG := TG_m 755 (by decide +kernel) (by decide +kernel)
theorem fl_Model_56 : Cond.fieldLink N_Model 56 N_Model (T_Model 24).2.1 (T_Model 24).2.2.1 ∈ TG := TG_m 757 (by decide +kernel) (by decide +kernel)
theorem fl_Model_59 : Cond.fieldLink N_Model 59 N_Model (T_Model 25).2.1 (T_Model 25).2.2.1 ∈ TG := TG_m 758 (by decide +kernel) (by decide +kernel)
theorem fl_Model_62 : Cond.fieldLink N_Model 62 N_Model (T_Model 0).2.1 (T_Model 0).2.2.1 ∈ TG := TG_m 733 (by decide +kernel) (by decide +kernel)
theorem fl_Model_71 : Cond.fieldLink N_Model 71 N_Model (T_Model 5).2.1 (T_Model 5).2.2.1 ∈ TG := TG_m 738 (by decide +kernel) (by decide +kernel)
theorem fl_Model_74 : Cond.fieldLink N_Model 74 N_Model (T_Model 6).2.1 (T_Model 6).2.2.1 ∈ TG := TG_m 739 (by decide +kernel) (by decide +kernel)
theorem fl_Model_77 : Cond.fieldLink N_Model 77 N_Model (T_Model 13).2.1 (T_Model 13).2.2.1 ∈ TG := TG_m 746 (by decide +kernel) (by decide +kernel)
theorem fl_Model_98 : Cond.fieldLink N_Model 98 N_Model (T_Model 14).2.1 (T_Model 14).2.2.1 ∈ TG := TG_m 747 (by decide +kernel) (by decide +kernel)
theorem fl_Model_101 : Cond.fieldLink N_Model 101 N_Model (T_Model 15).2.1 (T_Model 15).2.2.1 ∈ TG := TG_m 748 (by decide +kernel) (by decide +kernel)
theorem fl_Model_104 : Cond.fieldLink N_Model 104 N_Model (T_Model 23).2.1 (T_Model 23).2.2.1 ∈ TG := TG_m 756 (by decide +kernel) (by decide +kernel)
theorem fl_Model_133 : Cond.fieldLink N_Model 133 N_Model (T_Model 18).2.1 (T_Model 18).2.2.1 ∈ TG := TG_m 751 (by decide +kernel) (by decide +kernel)
theorem fl_Model_199 : Cond.fieldLink N_Model 199 N_Model (T_Model 1).2.1 (T_Model 1).2.2.1 ∈ TG := TG_m 734 (by decide +kernel) (by decide +kernel)
theorem ml_Main_71 : Cond.methodLink N_Main 71 y_Main_sheetOf ∈ TG := TG_m 335 (by decide +kernel) (by decide +kernel)
theorem ml_Main_75 : Cond.methodLink N_Main 75 y_Main_isBelow ∈ TG := TG_m 339 (by decide +kernel) (by decide +kernel)
theorem ml_Main_79 : Cond.methodLink N_Main 79 y_Sheet_faultOfTaking ∈ TG := TG_m 342 (by decide +kernel) (by decide +kernel)
theorem ml_Main_83 : Cond.methodLink N_Main 83 y_Main_failed ∈ TG := TG_m 350 (by decide +kernel) (by decide +kernel)
theorem ml_Main_87 : Cond.methodLink N_Main 87 y_Text_read ∈ TG := TG_m 354 (by decide +kernel) (by decide +kernel)
theorem ml_Main_91 : Cond.methodLink N_Main 91 y_Text_firstFault ∈ TG := TG_m 361 (by decide +kernel) (by decide +kernel)
theorem ml_Main_95 : Cond.methodLink N_Main 95 y_Way_become ∈ TG := TG_m 386 (by decide +kernel) (by decide +kernel)
theorem ml_Main_105 : Cond.methodLink N_Main 105 y_Way_hasHouse ∈ TG := TG_m 410 (by decide +kernel) (by decide +kernel)
theorem ml_Main_122 : Cond.methodLink N_Main 122 y_Way_hasGuest ∈ TG := TG_m 419 (by decide +kernel) (by decide +kernel)
theorem ml_Main_128 : Cond.methodLink N_Main 128 y_Way_usedIn ∈ TG := TG_m 435 (by decide +kernel) (by decide +kernel)
theorem ml_Main_131 : Cond.methodLink N_Main 131 y_Way_isTold ∈ TG := TG_m 443 (by decide +kernel) (by decide +kernel)
theorem ml_Main_135 : Cond.methodLink N_Main 135 y_Main_refusalOfPairs ∈ TG := TG_m 447 (by decide +kernel) (by decide +kernel)
theorem ml_Main_139 : Cond.methodLink N_Main 139 y_Walk_begin ∈ TG := TG_m 455 (by decide +kernel) (by decide +kernel)
theorem ml_Main_145 : Cond.methodLink N_Main 145 y_Walk_visit ∈ TG := TG_m 462 (by decide +kernel) (by decide +kernel)
theorem ml_Main_149 : Cond.methodLink N_Main 149 y_Main_ofVisits ∈ TG := TG_m 475 (by decide +kernel) (by decide +kernel)
theorem ml_Main_152 : Cond.methodLink N_Main 152 y_Main_isOrder ∈ TG := TG_m 483 (by decide +kernel) (by decide +kernel)
theorem ml_Main_156 : Cond.methodLink N_Main 156 y_Walk_goAlone ∈ TG := TG_m 487 (by decide +kernel) (by decide +kernel)
theorem ml_Main_166 : Cond.methodLink N_Main 166 y_Way_leastGear ∈ TG := TG_m 499 (by decide +kernel) (by decide +kernel)
theorem ml_Main_169 : Cond.methodLink N_Main 169 y_Way_firstNotPassedBy ∈ TG := TG_m 518 (by decide +kernel) (by decide +kernel)
theorem ml_Main_175 : Cond.methodLink N_Main 175 y_Search_findBest ∈ TG := TG_m 523 (by decide +kernel) (by decide +kernel)
theorem ml_Main_184 : Cond.methodLink N_Main 184 y_Search_findTwos ∈ TG := TG_m 563 (by decide +kernel) (by decide +kernel)
theorem ml_Main_187 : Cond.methodLink N_Main 187 y_Trials_findGift ∈ TG := TG_m 580 (by decide +kernel) (by decide +kernel)
theorem ml_Main_195 : Cond.methodLink N_Main 195 y_Trials_findWorst ∈ TG := TG_m 595 (by decide +kernel) (by decide +kernel)
theorem ml_Main_198 : Cond.methodLink N_Main 198 y_Readings_isFull ∈ TG := TG_m 603 (by decide +kernel) (by decide +kernel)
theorem ml_Main_201 : Cond.methodLink N_Main 201 y_Readings_add ∈ TG := TG_m 607 (by decide +kernel) (by decide +kernel)
theorem ml_Main_205 : Cond.methodLink N_Main 205 y_Readings_findHad ∈ TG := TG_m 619 (by decide +kernel) (by decide +kernel)
theorem ml_Main_214 : Cond.methodLink N_Main 214 y_Readings_kindsOf ∈ TG := TG_m 632 (by decide +kernel) (by decide +kernel)
theorem ml_Main_219 : Cond.methodLink N_Main 219 y_Search_countThroughOf ∈ TG := TG_m 641 (by decide +kernel) (by decide +kernel)
theorem ml_Main_228 : Cond.methodLink N_Main 228 y_Main_sharedDivisor ∈ TG := TG_m 645 (by decide +kernel) (by decide +kernel)
theorem ml_Main_231 : Cond.methodLink N_Main 231 y_Sheet_renew ∈ TG := TG_m 652 (by decide +kernel) (by decide +kernel)
theorem ml_Main_242 : Cond.methodLink N_Main 242 y_Sheet_cut ∈ TG := TG_m 665 (by decide +kernel) (by decide +kernel)
theorem ml_Main_248 : Cond.methodLink N_Main 248 y_Sheet_holds ∈ TG := TG_m 677 (by decide +kernel) (by decide +kernel)
theorem ml_Main_251 : Cond.methodLink N_Main 251 arraycopyName ∈ TG := TG_m 678 (by decide +kernel) (by decide +kernel)
theorem ml_Main_257 : Cond.methodLink N_Main 257 y_Main_bodyOfLearning ∈ TG := TG_m 683 (by decide +kernel) (by decide +kernel)
theorem ml_Main_260 : Cond.methodLink N_Main 260 y_Main_bodyOfDouble ∈ TG := TG_m 691 (by decide +kernel) (by decide +kernel)
theorem ml_Main_263 : Cond.methodLink N_Main 263 y_Main_bodyOfHouse ∈ TG := TG_m 695 (by decide +kernel) (by decide +kernel)
theorem ml_Main_266 : Cond.methodLink N_Main 266 y_Main_ownKnock ∈ TG := TG_m 703 (by decide +kernel) (by decide +kernel)
theorem ml_Main_269 : Cond.methodLink N_Main 269 y_Main_lentKnock ∈ TG := TG_m 707 (by decide +kernel) (by decide +kernel)
theorem ml_Main_272 : Cond.methodLink N_Main 272 y_Way_everyone ∈ TG := TG_m 451 (by decide +kernel) (by decide +kernel)
theorem ml_Main_284 : Cond.methodLink N_Main 284 y_Main_leave ∈ TG := TG_m 687 (by decide +kernel) (by decide +kernel)
theorem ml_Orders_19 : Cond.methodLink N_Orders 19 y_Orders_lastRise ∈ TG := TG_m 547 (by decide +kernel) (by decide +kernel)
theorem ml_Orders_23 : Cond.methodLink N_Orders 23 y_Orders_lastAbove ∈ TG := TG_m 551 (by decide +kernel) (by decide +kernel)
theorem ml_Orders_27 : Cond.methodLink N_Orders 27 y_Orders_swap ∈ TG := TG_m 555 (by decide +kernel) (by decide +kernel)
theorem ml_Readings_41 : Cond.methodLink N_Readings 41 y_Walk_goByNumbers ∈ TG := TG_m 623 (by decide +kernel) (by decide +kernel)
theorem ml_Readings_47 : Cond.methodLink N_Readings 47 y_Readings_allAreSo ∈ TG := TG_m 624 (by decide +kernel) (by decide +kernel)
theorem ml_Search_48 : Cond.methodLink N_Search 48 y_Orders_begin ∈ TG := TG_m 527 (by decide +kernel) (by decide +kernel)
theorem ml_Search_52 : Cond.methodLink N_Search 52 y_Search_goInOrder ∈ TG := TG_m 531 (by decide +kernel) (by decide +kernel)
theorem ml_Search_56 : Cond.methodLink N_Search 56 y_Int_bitCount ∈ TG := TG_m 537 (by decide +kernel) (by decide +kernel)
theorem ml_Search_61 : Cond.methodLink N_Search 61 y_Search_keep ∈ TG := TG_m 538 (by decide +kernel) (by decide +kernel)
theorem ml_Search_65 : Cond.methodLink N_Search 65 y_Orders_next ∈ TG := TG_m 543 (by decide +kernel) (by decide +kernel)
theorem ml_Search_68 : Cond.methodLink N_Search 68 y_Orders_isOfMates ∈ TG := TG_m 567 (by decide +kernel) (by decide +kernel)
theorem ml_Search_72 : Cond.methodLink N_Search 72 y_Search_judgeMates ∈ TG := TG_m 571 (by decide +kernel) (by decide +kernel)
theorem ml_Search_75 : Cond.methodLink N_Search 75 y_Walk_begin ∈ TG := TG_m 535 (by decide +kernel) (by decide +kernel)
theorem ml_Search_85 : Cond.methodLink N_Search 85 y_Walk_goAlone ∈ TG := TG_m 536 (by decide +kernel) (by decide +kernel)
theorem ml_Search_91 : Cond.methodLink N_Search 91 y_Walk_send ∈ TG := TG_m 575 (by decide +kernel) (by decide +kernel)
theorem ml_Search_94 : Cond.methodLink N_Search 94 arraycopyName ∈ TG := TG_m 542 (by decide +kernel) (by decide +kernel)
theorem ml_Sheet_26 : Cond.methodLink N_Sheet 26 y_Arr_fill ∈ TG := TG_m 656 (by decide +kernel) (by decide +kernel)
theorem ml_Sheet_32 : Cond.methodLink N_Sheet 32 y_Sheet_holds ∈ TG := TG_m 346 (by decide +kernel) (by decide +kernel)
theorem ml_Text_30 : Cond.methodLink N_Text 30 arraycopyName ∈ TG := TG_m 358 (by decide +kernel) (by decide +kernel)
theorem ml_Text_36 : Cond.methodLink N_Text 36 y_Text_codeAt ∈ TG := TG_m 365 (by decide +kernel) (by decide +kernel)
theorem ml_Text_40 : Cond.methodLink N_Text 40 y_Text_goodOfHouse ∈ TG := TG_m 370 (by decide +kernel) (by decide +kernel)
theorem ml_Text_43 : Cond.methodLink N_Text 43 y_Text_goodOfGuest ∈ TG := TG_m 382 (by decide +kernel) (by decide +kernel)
theorem ml_Text_46 : Cond.methodLink N_Text 46 y_Text_placeOfHouse ∈ TG := TG_m 394 (by decide +kernel) (by decide +kernel)
theorem ml_Text_49 : Cond.methodLink N_Text 49 y_Text_kindAt ∈ TG := TG_m 374 (by decide +kernel) (by decide +kernel)
theorem ml_Text_52 : Cond.methodLink N_Text 52 y_Text_digitAt ∈ TG := TG_m 378 (by decide +kernel) (by decide +kernel)
theorem ml_Trials_26 : Cond.methodLink N_Trials 26 y_Walk_goByNumbers ∈ TG := TG_m 584 (by decide +kernel) (by decide +kernel)
theorem ml_Walk_32 : Cond.methodLink N_Walk 32 y_Arr_fill ∈ TG := TG_m 459 (by decide +kernel) (by decide +kernel)
theorem ml_Walk_38 : Cond.methodLink N_Walk 38 y_Way_gearOf ∈ TG := TG_m 466 (by decide +kernel) (by decide +kernel)
theorem ml_Walk_44 : Cond.methodLink N_Walk 44 y_Walk_enter ∈ TG := TG_m 470 (by decide +kernel) (by decide +kernel)
theorem ml_Walk_51 : Cond.methodLink N_Walk 51 y_Walk_send ∈ TG := TG_m 491 (by decide +kernel) (by decide +kernel)
theorem ml_Walk_54 : Cond.methodLink N_Walk 54 y_Walk_begin ∈ TG := TG_m 588 (by decide +kernel) (by decide +kernel)
theorem ml_Walk_60 : Cond.methodLink N_Walk 60 y_Walk_goAlone ∈ TG := TG_m 589 (by decide +kernel) (by decide +kernel)
theorem ml_Walk_64 : Cond.methodLink N_Walk 64 y_Int_bitCount ∈ TG := TG_m 590 (by decide +kernel) (by decide +kernel)
theorem ml_Walk_69 : Cond.methodLink N_Walk 69 y_Way_usedIn ∈ TG := TG_m 474 (by decide +kernel) (by decide +kernel)
theorem ml_Way_41 : Cond.methodLink N_Way 41 y_Text_kindOfHouse ∈ TG := TG_m 390 (by decide +kernel) (by decide +kernel)
theorem ml_Way_45 : Cond.methodLink N_Way 45 y_Text_digitOfHouse ∈ TG := TG_m 398 (by decide +kernel) (by decide +kernel)
theorem ml_Way_49 : Cond.methodLink N_Way 49 y_Text_gearOfGuest ∈ TG := TG_m 402 (by decide +kernel) (by decide +kernel)
theorem ml_Way_56 : Cond.methodLink N_Way 56 y_Way_usedIn ∈ TG := TG_m 513 (by decide +kernel) (by decide +kernel)
theorem ml_Way_60 : Cond.methodLink N_Way 60 y_Int_bitCount ∈ TG := TG_m 503 (by decide +kernel) (by decide +kernel)
theorem ml_Way_65 : Cond.methodLink N_Way 65 y_Way_firstNotPassedBy ∈ TG := TG_m 509 (by decide +kernel) (by decide +kernel)
theorem ml_Law_13 : Cond.methodLink N_Law 13 y_Main_way ∈ TG := TG_m 331 (by decide +kernel) (by decide +kernel)
theorem ml_Law_17 : Cond.methodLink N_Law 17 y_Model_way ∈ TG := TG_m 812 (by decide +kernel) (by decide +kernel)
theorem ml_Law_18 : Cond.methodLink N_Law 18 y_Main_ofHouse ∈ TG := TG_m 406 (by decide +kernel) (by decide +kernel)
theorem ml_Law_22 : Cond.methodLink N_Law 22 y_Model_ofHouse ∈ TG := TG_m 853 (by decide +kernel) (by decide +kernel)
theorem ml_Law_23 : Cond.methodLink N_Law 23 y_Main_gear ∈ TG := TG_m 415 (by decide +kernel) (by decide +kernel)
theorem ml_Law_27 : Cond.methodLink N_Law 27 y_Model_gear ∈ TG := TG_m 861 (by decide +kernel) (by decide +kernel)
theorem ml_Law_28 : Cond.methodLink N_Law 28 y_Main_give ∈ TG := TG_m 423 (by decide +kernel) (by decide +kernel)
theorem ml_Law_31 : Cond.methodLink N_Law 31 y_Model_give ∈ TG := TG_m 869 (by decide +kernel) (by decide +kernel)
theorem ml_Law_32 : Cond.methodLink N_Law 32 y_Main_bar ∈ TG := TG_m 427 (by decide +kernel) (by decide +kernel)
theorem ml_Law_35 : Cond.methodLink N_Law 35 y_Model_bar ∈ TG := TG_m 876 (by decide +kernel) (by decide +kernel)
theorem ml_Law_36 : Cond.methodLink N_Law 36 y_Main_passes ∈ TG := TG_m 431 (by decide +kernel) (by decide +kernel)
theorem ml_Law_40 : Cond.methodLink N_Law 40 y_Model_passes ∈ TG := TG_m 880 (by decide +kernel) (by decide +kernel)
theorem ml_Law_41 : Cond.methodLink N_Law 41 y_Main_visits ∈ TG := TG_m 439 (by decide +kernel) (by decide +kernel)
theorem ml_Law_45 : Cond.methodLink N_Law 45 y_Model_visits ∈ TG := TG_m 888 (by decide +kernel) (by decide +kernel)
theorem ml_Law_46 : Cond.methodLink N_Law 46 y_Main_going ∈ TG := TG_m 479 (by decide +kernel) (by decide +kernel)
theorem ml_Law_49 : Cond.methodLink N_Law 49 y_Model_going ∈ TG := TG_m 912 (by decide +kernel) (by decide +kernel)
theorem ml_Law_50 : Cond.methodLink N_Law 50 y_Main_least ∈ TG := TG_m 495 (by decide +kernel) (by decide +kernel)
theorem ml_Law_54 : Cond.methodLink N_Law 54 y_Model_least ∈ TG := TG_m 920 (by decide +kernel) (by decide +kernel)
theorem ml_Law_55 : Cond.methodLink N_Law 55 y_Main_hard ∈ TG := TG_m 514 (by decide +kernel) (by decide +kernel)
theorem ml_Law_58 : Cond.methodLink N_Law 58 y_Model_hard ∈ TG := TG_m 931 (by decide +kernel) (by decide +kernel)
theorem ml_Law_59 : Cond.methodLink N_Law 59 y_Main_best ∈ TG := TG_m 519 (by decide +kernel) (by decide +kernel)
theorem ml_Law_62 : Cond.methodLink N_Law 62 y_Model_best ∈ TG := TG_m 935 (by decide +kernel) (by decide +kernel)
theorem ml_Law_63 : Cond.methodLink N_Law 63 y_Main_twos ∈ TG := TG_m 559 (by decide +kernel) (by decide +kernel)
theorem ml_Law_66 : Cond.methodLink N_Law 66 y_Model_twos ∈ TG := TG_m 959 (by decide +kernel) (by decide +kernel)
theorem ml_Law_67 : Cond.methodLink N_Law 67 y_Main_gift ∈ TG := TG_m 576 (by decide +kernel) (by decide +kernel)
theorem ml_Law_70 : Cond.methodLink N_Law 70 y_Model_gift ∈ TG := TG_m 971 (by decide +kernel) (by decide +kernel)
theorem ml_Law_71 : Cond.methodLink N_Law 71 y_Main_worst ∈ TG := TG_m 591 (by decide +kernel) (by decide +kernel)
theorem ml_Law_74 : Cond.methodLink N_Law 74 y_Model_worst ∈ TG := TG_m 979 (by decide +kernel) (by decide +kernel)
theorem ml_Law_75 : Cond.methodLink N_Law 75 y_Main_reading ∈ TG := TG_m 599 (by decide +kernel) (by decide +kernel)
theorem ml_Law_78 : Cond.methodLink N_Law 78 y_Model_reading ∈ TG := TG_m 983 (by decide +kernel) (by decide +kernel)
theorem ml_Law_79 : Cond.methodLink N_Law 79 y_Main_back ∈ TG := TG_m 611 (by decide +kernel) (by decide +kernel)
theorem ml_Law_82 : Cond.methodLink N_Law 82 y_Model_back ∈ TG := TG_m 987 (by decide +kernel) (by decide +kernel)
theorem ml_Law_83 : Cond.methodLink N_Law 83 y_Main_had ∈ TG := TG_m 615 (by decide +kernel) (by decide +kernel)
theorem ml_Law_86 : Cond.methodLink N_Law 86 y_Model_had ∈ TG := TG_m 991 (by decide +kernel) (by decide +kernel)
theorem ml_Law_87 : Cond.methodLink N_Law 87 y_Main_kinds ∈ TG := TG_m 628 (by decide +kernel) (by decide +kernel)
theorem ml_Law_90 : Cond.methodLink N_Law 90 y_Model_kinds ∈ TG := TG_m 999 (by decide +kernel) (by decide +kernel)
theorem ml_Law_91 : Cond.methodLink N_Law 91 y_Main_odds ∈ TG := TG_m 636 (by decide +kernel) (by decide +kernel)
theorem ml_Law_95 : Cond.methodLink N_Law 95 y_Model_odds ∈ TG := TG_m 1003 (by decide +kernel) (by decide +kernel)
theorem ml_Law_96 : Cond.methodLink N_Law 96 y_Main_sheet ∈ TG := TG_m 648 (by decide +kernel) (by decide +kernel)
theorem ml_Law_99 : Cond.methodLink N_Law 99 y_Model_sheet ∈ TG := TG_m 1011 (by decide +kernel) (by decide +kernel)
theorem ml_Law_100 : Cond.methodLink N_Law 100 y_Main_lose ∈ TG := TG_m 657 (by decide +kernel) (by decide +kernel)
theorem ml_Law_103 : Cond.methodLink N_Law 103 y_Model_lose ∈ TG := TG_m 1015 (by decide +kernel) (by decide +kernel)
theorem ml_Law_104 : Cond.methodLink N_Law 104 y_Main_put ∈ TG := TG_m 661 (by decide +kernel) (by decide +kernel)
theorem ml_Law_107 : Cond.methodLink N_Law 107 y_Model_put ∈ TG := TG_m 1019 (by decide +kernel) (by decide +kernel)
theorem ml_Law_108 : Cond.methodLink N_Law 108 y_Main_cell ∈ TG := TG_m 669 (by decide +kernel) (by decide +kernel)
theorem ml_Law_112 : Cond.methodLink N_Law 112 y_Model_cell ∈ TG := TG_m 1023 (by decide +kernel) (by decide +kernel)
theorem ml_Law_113 : Cond.methodLink N_Law 113 y_Main_copy ∈ TG := TG_m 673 (by decide +kernel) (by decide +kernel)
theorem ml_Law_116 : Cond.methodLink N_Law 116 y_Model_copy ∈ TG := TG_m 1031 (by decide +kernel) (by decide +kernel)
theorem ml_Law_117 : Cond.methodLink N_Law 117 y_Main_tell ∈ TG := TG_m 679 (by decide +kernel) (by decide +kernel)
theorem ml_Law_120 : Cond.methodLink N_Law 120 y_Model_tell ∈ TG := TG_m 1035 (by decide +kernel) (by decide +kernel)
theorem ml_Law_121 : Cond.methodLink N_Law 121 y_Main_knock ∈ TG := TG_m 699 (by decide +kernel) (by decide +kernel)
theorem ml_Law_124 : Cond.methodLink N_Law 124 y_Model_knock ∈ TG := TG_m 1043 (by decide +kernel) (by decide +kernel)
theorem ml_Law_125 : Cond.methodLink N_Law 125 y_Main_as ∈ TG := TG_m 711 (by decide +kernel) (by decide +kernel)
theorem ml_Law_128 : Cond.methodLink N_Law 128 y_Model_as ∈ TG := TG_m 1047 (by decide +kernel) (by decide +kernel)
theorem ml_Law_129 : Cond.methodLink N_Law 129 y_Main_trace ∈ TG := TG_m 715 (by decide +kernel) (by decide +kernel)
theorem ml_Law_132 : Cond.methodLink N_Law 132 y_Model_trace ∈ TG := TG_m 1051 (by decide +kernel) (by decide +kernel)
theorem ml_Law_133 : Cond.methodLink N_Law 133 y_Main_fault ∈ TG := TG_m 719 (by decide +kernel) (by decide +kernel)
theorem ml_Law_136 : Cond.methodLink N_Law 136 y_Model_fault ∈ TG := TG_m 1055 (by decide +kernel) (by decide +kernel)
theorem ml_Law_137 : Cond.methodLink N_Law 137 y_Main_many ∈ TG := TG_m 723 (by decide +kernel) (by decide +kernel)
theorem ml_Law_140 : Cond.methodLink N_Law 140 y_Model_many ∈ TG := TG_m 1059 (by decide +kernel) (by decide +kernel)
theorem ml_Model_67 : Cond.methodLink N_Model 67 y_Model_within ∈ TG := TG_m 819 (by decide +kernel) (by decide +kernel)
theorem ml_Model_80 : Cond.methodLink N_Model 80 y_Model_isSheet ∈ TG := TG_m 816 (by decide +kernel) (by decide +kernel)
theorem ml_Model_84 : Cond.methodLink N_Model 84 y_Model_isSort ∈ TG := TG_m 822 (by decide +kernel) (by decide +kernel)
theorem ml_Model_87 : Cond.methodLink N_Model 87 y_Model_against ∈ TG := TG_m 825 (by decide +kernel) (by decide +kernel)
theorem ml_Model_91 : Cond.methodLink N_Model 91 y_Model_fails ∈ TG := TG_m 829 (by decide +kernel) (by decide +kernel)
theorem ml_Model_95 : Cond.methodLink N_Model 95 y_Model_readWay ∈ TG := TG_m 833 (by decide +kernel) (by decide +kernel)
theorem ml_Model_107 : Cond.methodLink N_Model 107 y_Model_isSign ∈ TG := TG_m 837 (by decide +kernel) (by decide +kernel)
theorem ml_Model_111 : Cond.methodLink N_Model 111 y_Model_readOneHouse ∈ TG := TG_m 841 (by decide +kernel) (by decide +kernel)
theorem ml_Model_114 : Cond.methodLink N_Model 114 y_Model_readGuest ∈ TG := TG_m 849 (by decide +kernel) (by decide +kernel)
theorem ml_Model_117 : Cond.methodLink N_Model 117 y_Model_digit ∈ TG := TG_m 845 (by decide +kernel) (by decide +kernel)
theorem ml_Model_121 : Cond.methodLink N_Model 121 y_Model_isHouse ∈ TG := TG_m 857 (by decide +kernel) (by decide +kernel)
theorem ml_Model_124 : Cond.methodLink N_Model 124 y_Model_isGuest ∈ TG := TG_m 865 (by decide +kernel) (by decide +kernel)
theorem ml_Model_127 : Cond.methodLink N_Model 127 y_Model_isSet ∈ TG := TG_m 873 (by decide +kernel) (by decide +kernel)
theorem ml_Model_130 : Cond.methodLink N_Model 130 y_Model_used ∈ TG := TG_m 884 (by decide +kernel) (by decide +kernel)
theorem ml_Model_136 : Cond.methodLink N_Model 136 y_Model_gearOfAll ∈ TG := TG_m 908 (by decide +kernel) (by decide +kernel)
theorem ml_Model_139 : Cond.methodLink N_Model 139 y_Model_visit ∈ TG := TG_m 904 (by decide +kernel) (by decide +kernel)
theorem ml_Model_142 : Cond.methodLink N_Model 142 y_Model_begin ∈ TG := TG_m 900 (by decide +kernel) (by decide +kernel)
theorem ml_Model_145 : Cond.methodLink N_Model 145 y_Model_goThrough ∈ TG := TG_m 916 (by decide +kernel) (by decide +kernel)
theorem ml_Model_149 : Cond.methodLink N_Model 149 y_Model_size ∈ TG := TG_m 924 (by decide +kernel) (by decide +kernel)
theorem ml_Model_152 : Cond.methodLink N_Model 152 y_Model_allGuests ∈ TG := TG_m 892 (by decide +kernel) (by decide +kernel)
theorem ml_Model_156 : Cond.methodLink N_Model 156 y_Model_visitAll ∈ TG := TG_m 896 (by decide +kernel) (by decide +kernel)
theorem ml_Model_159 : Cond.methodLink N_Model 159 y_Model_passesEach ∈ TG := TG_m 927 (by decide +kernel) (by decide +kernel)
theorem ml_Model_162 : Cond.methodLink N_Model 162 y_Model_swap ∈ TG := TG_m 955 (by decide +kernel) (by decide +kernel)
theorem ml_Model_166 : Cond.methodLink N_Model 166 y_Model_beginRows ∈ TG := TG_m 939 (by decide +kernel) (by decide +kernel)
theorem ml_Model_169 : Cond.methodLink N_Model 169 y_Model_goRow ∈ TG := TG_m 943 (by decide +kernel) (by decide +kernel)
theorem ml_Model_172 : Cond.methodLink N_Model 172 y_Model_throughNow ∈ TG := TG_m 947 (by decide +kernel) (by decide +kernel)
theorem ml_Model_175 : Cond.methodLink N_Model 175 y_Model_nextRow ∈ TG := TG_m 951 (by decide +kernel) (by decide +kernel)
theorem ml_Model_179 : Cond.methodLink N_Model 179 y_Model_layMates ∈ TG := TG_m 963 (by decide +kernel) (by decide +kernel)
theorem ml_Model_182 : Cond.methodLink N_Model 182 y_Model_goMates ∈ TG := TG_m 967 (by decide +kernel) (by decide +kernel)
theorem ml_Model_185 : Cond.methodLink N_Model 185 y_Model_goAll ∈ TG := TG_m 975 (by decide +kernel) (by decide +kernel)
theorem ml_Model_188 : Cond.methodLink N_Model 188 y_Model_areSo ∈ TG := TG_m 995 (by decide +kernel) (by decide +kernel)
theorem ml_Model_191 : Cond.methodLink N_Model 191 y_Model_inLeastTerms ∈ TG := TG_m 1008 (by decide +kernel) (by decide +kernel)
theorem ml_Model_195 : Cond.methodLink N_Model 195 y_Model_lost ∈ TG := TG_m 1027 (by decide +kernel) (by decide +kernel)
theorem ml_Model_202 : Cond.methodLink N_Model 202 y_Model_begins ∈ TG := TG_m 1039 (by decide +kernel) (by decide +kernel)
theorem kc_Int_265 : Cond.constant N_Int 265 (1431655765) ∈ TG := TG_m 506 (by decide +kernel) (by decide +kernel)
theorem kc_Int_266 : Cond.constant N_Int 266 (858993459) ∈ TG := TG_m 507 (by decide +kernel) (by decide +kernel)
theorem kc_Int_267 : Cond.constant N_Int 267 (252645135) ∈ TG := TG_m 508 (by decide +kernel) (by decide +kernel)
theorem kc_Main_217 : Cond.constantLong N_Main 217 (-9223372036854775808) ∈ TG := TG_m 640 (by decide +kernel) (by decide +kernel)
theorem kc_Model_65 : Cond.constantLong N_Model 65 (-9223372036854775808) ∈ TG := TG_m 1007 (by decide +kernel) (by decide +kernel)
end
section
/-! one row for each field and each array of the world -/
section FR
variable {p : Program} {l : Launch} {e : Env} {R : Room} {s : State} {m : MethodId} {args : Array Value} {below : List Frame} {meth : Method} {c : Code} {H H0 : Heap} {locs : List Loc} {cells slots : Nat} {Q : State → Prop}
variable {cc : ByteArray} {pc nL : Nat} {ls : Array Slot} {rest : List Value} {own : String} {g : GG} {M : Mem}
theorem sh_of {P : Nat → Prop} (h0 : P 0) (h1 : P 1) (h2 : P 2) (h3 : P 3) {q : Nat} (hq : q < 4) : P q := by
  rcases (show q = 0 ∨ q = 1 ∨ q = 2 ∨ q = 3 by omega) with rfl | rfl | rfl | rfl
  · exact h0
  · exact h1
  · exact h2
  · exact h3
theorem sw_ne {x : Int32} {n : Nat} {k : Int} (h : ¬ x = (OfNat.ofNat n : Int32)) (hk : (OfNat.ofNat n : Int32).toInt = k := by decide) : ¬ k = x.toInt := fun e => h (Int32.toInt_inj.mp (by rw [hk, e]))
theorem ar_sh_lt {q : Nat} (hq : q < 4) : 6 + q < 46 := by omega
theorem ar_sh {q : Nat} (hq : q < 4) (f : Nat → Int32) : ent g (6 + q) f = .inl (g.2.1, 60, .inl f) := sh_of (P := fun q => ent g (6 + q) f = .inl (g.2.1, 60, .inl f)) rfl rfl rfl rfl hq
theorem ob_sh {q : Nat} (hq : q < 4) (f : Nat → Int32) : ent g (2 + q) f = .inr (3, [.ref (g.2.2.2 (6 + q)), .int (f 1), .int (f 2), .int (f 3)]) := sh_of (P := fun q => ent g (2 + q) f = .inr (3, [.ref (g.2.2.2 (6 + q)), .int (f 1), .int (f 2), .int (f 3)])) rfl rfl rfl rfl hq
theorem io_sh {g : GG} (q : Nat) (hq : q < 4) (M : Mem) : IsOb g M (2 + q) 3 N_Sheet := ⟨by omega, ⟨_, ob_sh hq (M (2 + q))⟩, _, rfl⟩
theorem io_0 (g : GG) (M : Mem) : IsOb g M 0 8 N_Main := ⟨by decide, ⟨_, rfl⟩, _, rfl⟩
theorem gf_0_0 (C : CallFix p m c cc nL s args TG own) (hW : WK g s) (hP : WP g M H) {index : Nat} (hl : Cond.fieldLink own index N_Main (T_Main 0).2.1 (T_Main 0).2.2.1 ∈ TG) (hdg : decode cc pc = .ok (.getfield index, 3)) (kk : W p l e R s m args below meth c H locs cells slots Q (F0 m (pc + 3) ls (.ref (g.2.2.2 1) :: rest))) : W p l e R s m args below meth c H locs cells slots Q (F0 m pc ls (.ref (g.2.2.2 0) :: rest)) := r_get t_Main_in (ci := 8) rfl 0 (by decide) rfl 0 (by decide) rfl rfl C hW hP hl hdg kk
theorem gf_0_1 (C : CallFix p m c cc nL s args TG own) (hW : WK g s) (hP : WP g M H) {index : Nat} (hl : Cond.fieldLink own index N_Main (T_Main 1).2.1 (T_Main 1).2.2.1 ∈ TG) (hdg : decode cc pc = .ok (.getfield index, 3)) (kk : W p l e R s m args below meth c H locs cells slots Q (F0 m (pc + 3) ls (.ref (g.2.2.2 10) :: rest))) : W p l e R s m args below meth c H locs cells slots Q (F0 m pc ls (.ref (g.2.2.2 0) :: rest)) := r_get t_Main_in (ci := 8) rfl 0 (by decide) rfl 1 (by decide) rfl rfl C hW hP hl hdg kk
theorem gf_0_2 (C : CallFix p m c cc nL s args TG own) (hW : WK g s) (hP : WP g M H) {index : Nat} (hl : Cond.fieldLink own index N_Main (T_Main 2).2.1 (T_Main 2).2.2.1 ∈ TG) (hdg : decode cc pc = .ok (.getfield index, 3)) (kk : W p l e R s m args below meth c H locs cells slots Q (F0 m (pc + 3) ls (.ref (g.2.2.2 12) :: rest))) : W p l e R s m args below meth c H locs cells slots Q (F0 m pc ls (.ref (g.2.2.2 0) :: rest)) := r_get t_Main_in (ci := 8) rfl 0 (by decide) rfl 2 (by decide) rfl rfl C hW hP hl hdg kk
theorem gf_0_3 (C : CallFix p m c cc nL s args TG own) (hW : WK g s) (hP : WP g M H) {index : Nat} (hl : Cond.fieldLink own index N_Main (T_Main 3).2.1 (T_Main 3).2.2.1 ∈ TG) (hdg : decode cc pc = .ok (.getfield index, 3)) (kk : W p l e R s m args below meth c H locs cells slots Q (F0 m (pc + 3) ls (.ref (g.2.2.2 18) :: rest))) : W p l e R s m args below meth c H locs cells slots Q (F0 m pc ls (.ref (g.2.2.2 0) :: rest)) := r_get t_Main_in (ci := 8) rfl 0 (by decide) rfl 3 (by decide) rfl rfl C hW hP hl hdg kk
theorem gf_0_4 (C : CallFix p m c cc nL s args TG own) (hW : WK g s) (hP : WP g M H) {index : Nat} (hl : Cond.fieldLink own index N_Main (T_Main 4).2.1 (T_Main 4).2.2.1 ∈ TG) (hdg : decode cc pc = .ok (.getfield index, 3)) (kk : W p l e R s m args below meth c H locs cells slots Q (F0 m (pc + 3) ls (.ref (g.2.2.2 21) :: rest))) : W p l e R s m args below meth c H locs cells slots Q (F0 m pc ls (.ref (g.2.2.2 0) :: rest)) := r_get t_Main_in (ci := 8) rfl 0 (by decide) rfl 4 (by decide) rfl rfl C hW hP hl hdg kk
theorem gf_0_5 (C : CallFix p m c cc nL s args TG own) (hW : WK g s) (hP : WP g M H) {index : Nat} (hl : Cond.fieldLink own index N_Main (T_Main 5).2.1 (T_Main 5).2.2.1 ∈ TG) (hdg : decode cc pc = .ok (.getfield index, 3)) (kk : W p l e R s m args below meth c H locs cells slots Q (F0 m (pc + 3) ls (.ref (g.2.2.2 25) :: rest))) : W p l e R s m args below meth c H locs cells slots Q (F0 m pc ls (.ref (g.2.2.2 0) :: rest)) := r_get t_Main_in (ci := 8) rfl 0 (by decide) rfl 5 (by decide) rfl rfl C hW hP hl hdg kk
theorem gf_0_6 (C : CallFix p m c cc nL s args TG own) (hW : WK g s) (hP : WP g M H) {index : Nat} (hl : Cond.fieldLink own index N_Main (T_Main 6).2.1 (T_Main 6).2.2.1 ∈ TG) (hdg : decode cc pc = .ok (.getfield index, 3)) (kk : W p l e R s m args below meth c H locs cells slots Q (F0 m (pc + 3) ls (.ref (g.2.2.2 26) :: rest))) : W p l e R s m args below meth c H locs cells slots Q (F0 m pc ls (.ref (g.2.2.2 0) :: rest)) := r_get t_Main_in (ci := 8) rfl 0 (by decide) rfl 6 (by decide) rfl rfl C hW hP hl hdg kk
theorem gf_0_7 (C : CallFix p m c cc nL s args TG own) (hW : WK g s) (hP : WP g M H) {index : Nat} (hl : Cond.fieldLink own index N_Main (T_Main 7).2.1 (T_Main 7).2.2.1 ∈ TG) (hdg : decode cc pc = .ok (.getfield index, 3)) (kk : W p l e R s m args below meth c H locs cells slots Q (F0 m (pc + 3) ls (.int (M 0 7) :: rest))) : W p l e R s m args below meth c H locs cells slots Q (F0 m pc ls (.ref (g.2.2.2 0) :: rest)) := r_get t_Main_in (ci := 8) rfl 0 (by decide) rfl 7 (by decide) rfl rfl C hW hP hl hdg kk
theorem pf_0_7 {v : Int32} (hI : WI g) (C : CallFix p m c cc nL s args TG own) (hW : WK g s) (hP : WP g M H) (hS : va_S (AW g) H0 H locs) {index : Nat} (hl : Cond.fieldLink own index N_Main (T_Main 7).2.1 (T_Main 7).2.2.1 ∈ TG) (hdg : decode cc pc = .ok (.putfield index, 3)) (kk : ∀ (M1 : Mem), M1 = mset M 0 7 v → ∀ (H1 : Heap) (locs1 : List Loc), WP g M1 H1 → va_S (AW g) H0 H1 locs1 → W p l e R s m args below meth c H1 locs1 cells slots Q (F0 m (pc + 3) ls rest)) : W p l e R s m args below meth c H locs cells slots Q (F0 m pc ls (.int v :: .ref (g.2.2.2 0) :: rest)) := r_put t_Main_in y_Main_t t_Main_ok t_Main_nm (ci := 8) rfl 0 (by decide) rfl 7 (by decide) rfl rfl (ty := .int) (by decide +kernel) rfl rfl (by simp) rfl hI C hW hP hS hl hdg (fun H1 locs1 hP1 hS1 => kk _ rfl H1 locs1 hP1 hS1)
theorem gf_0_8 (C : CallFix p m c cc nL s args TG own) (hW : WK g s) (hP : WP g M H) {index : Nat} (hl : Cond.fieldLink own index N_Main (T_Main 8).2.1 (T_Main 8).2.2.1 ∈ TG) (hdg : decode cc pc = .ok (.getfield index, 3)) (kk : W p l e R s m args below meth c H locs cells slots Q (F0 m (pc + 3) ls (.int (M 0 8) :: rest))) : W p l e R s m args below meth c H locs cells slots Q (F0 m pc ls (.ref (g.2.2.2 0) :: rest)) := r_get t_Main_in (ci := 8) rfl 0 (by decide) rfl 8 (by decide) rfl rfl C hW hP hl hdg kk
theorem pf_0_8 {v : Int32} (hI : WI g) (C : CallFix p m c cc nL s args TG own) (hW : WK g s) (hP : WP g M H) (hS : va_S (AW g) H0 H locs) {index : Nat} (hl : Cond.fieldLink own index N_Main (T_Main 8).2.1 (T_Main 8).2.2.1 ∈ TG) (hdg : decode cc pc = .ok (.putfield index, 3)) (kk : ∀ (M1 : Mem), M1 = mset M 0 8 v → ∀ (H1 : Heap) (locs1 : List Loc), WP g M1 H1 → va_S (AW g) H0 H1 locs1 → W p l e R s m args below meth c H1 locs1 cells slots Q (F0 m (pc + 3) ls rest)) : W p l e R s m args below meth c H locs cells slots Q (F0 m pc ls (.int v :: .ref (g.2.2.2 0) :: rest)) := r_put t_Main_in y_Main_t t_Main_ok t_Main_nm (ci := 8) rfl 0 (by decide) rfl 8 (by decide) rfl rfl (ty := .int) (by decide +kernel) rfl rfl (by simp) rfl hI C hW hP hS hl hdg (fun H1 locs1 hP1 hS1 => kk _ rfl H1 locs1 hP1 hS1)
theorem io_10 (g : GG) (M : Mem) : IsOb g M 10 4 N_Text := ⟨by decide, ⟨_, rfl⟩, _, rfl⟩
theorem gf_10_0 (C : CallFix p m c cc nL s args TG own) (hW : WK g s) (hP : WP g M H) {index : Nat} (hl : Cond.fieldLink own index N_Text (T_Text 0).2.1 (T_Text 0).2.2.1 ∈ TG) (hdg : decode cc pc = .ok (.getfield index, 3)) (kk : W p l e R s m args below meth c H locs cells slots Q (F0 m (pc + 3) ls (.ref (g.2.2.2 11) :: rest))) : W p l e R s m args below meth c H locs cells slots Q (F0 m pc ls (.ref (g.2.2.2 10) :: rest)) := r_get t_Text_in (ci := 4) rfl 10 (by decide) rfl 0 (by decide) rfl rfl C hW hP hl hdg kk
theorem gf_10_1 (C : CallFix p m c cc nL s args TG own) (hW : WK g s) (hP : WP g M H) {index : Nat} (hl : Cond.fieldLink own index N_Text (T_Text 1).2.1 (T_Text 1).2.2.1 ∈ TG) (hdg : decode cc pc = .ok (.getfield index, 3)) (kk : W p l e R s m args below meth c H locs cells slots Q (F0 m (pc + 3) ls (.int (M 10 1) :: rest))) : W p l e R s m args below meth c H locs cells slots Q (F0 m pc ls (.ref (g.2.2.2 10) :: rest)) := r_get t_Text_in (ci := 4) rfl 10 (by decide) rfl 1 (by decide) rfl rfl C hW hP hl hdg kk
theorem pf_10_1 {v : Int32} (hI : WI g) (C : CallFix p m c cc nL s args TG own) (hW : WK g s) (hP : WP g M H) (hS : va_S (AW g) H0 H locs) {index : Nat} (hl : Cond.fieldLink own index N_Text (T_Text 1).2.1 (T_Text 1).2.2.1 ∈ TG) (hdg : decode cc pc = .ok (.putfield index, 3)) (kk : ∀ (M1 : Mem), M1 = mset M 10 1 v → ∀ (H1 : Heap) (locs1 : List Loc), WP g M1 H1 → va_S (AW g) H0 H1 locs1 → W p l e R s m args below meth c H1 locs1 cells slots Q (F0 m (pc + 3) ls rest)) : W p l e R s m args below meth c H locs cells slots Q (F0 m pc ls (.int v :: .ref (g.2.2.2 10) :: rest)) := r_put t_Text_in y_Text_t t_Text_ok t_Text_nm (ci := 4) rfl 10 (by decide) rfl 1 (by decide) rfl rfl (ty := .int) (by decide +kernel) rfl rfl (by simp) rfl hI C hW hP hS hl hdg (fun H1 locs1 hP1 hS1 => kk _ rfl H1 locs1 hP1 hS1)
theorem gf_10_2 (C : CallFix p m c cc nL s args TG own) (hW : WK g s) (hP : WP g M H) {index : Nat} (hl : Cond.fieldLink own index N_Text (T_Text 2).2.1 (T_Text 2).2.2.1 ∈ TG) (hdg : decode cc pc = .ok (.getfield index, 3)) (kk : W p l e R s m args below meth c H locs cells slots Q (F0 m (pc + 3) ls (.int (M 10 2) :: rest))) : W p l e R s m args below meth c H locs cells slots Q (F0 m pc ls (.ref (g.2.2.2 10) :: rest)) := r_get t_Text_in (ci := 4) rfl 10 (by decide) rfl 2 (by decide) rfl rfl C hW hP hl hdg kk
theorem pf_10_2 {v : Int32} (hI : WI g) (C : CallFix p m c cc nL s args TG own) (hW : WK g s) (hP : WP g M H) (hS : va_S (AW g) H0 H locs) {index : Nat} (hl : Cond.fieldLink own index N_Text (T_Text 2).2.1 (T_Text 2).2.2.1 ∈ TG) (hdg : decode cc pc = .ok (.putfield index, 3)) (kk : ∀ (M1 : Mem), M1 = mset M 10 2 v → ∀ (H1 : Heap) (locs1 : List Loc), WP g M1 H1 → va_S (AW g) H0 H1 locs1 → W p l e R s m args below meth c H1 locs1 cells slots Q (F0 m (pc + 3) ls rest)) : W p l e R s m args below meth c H locs cells slots Q (F0 m pc ls (.int v :: .ref (g.2.2.2 10) :: rest)) := r_put t_Text_in y_Text_t t_Text_ok t_Text_nm (ci := 4) rfl 10 (by decide) rfl 2 (by decide) rfl rfl (ty := .int) (by decide +kernel) rfl rfl (by simp) rfl hI C hW hP hS hl hdg (fun H1 locs1 hP1 hS1 => kk _ rfl H1 locs1 hP1 hS1)
theorem gf_10_3 (C : CallFix p m c cc nL s args TG own) (hW : WK g s) (hP : WP g M H) {index : Nat} (hl : Cond.fieldLink own index N_Text (T_Text 3).2.1 (T_Text 3).2.2.1 ∈ TG) (hdg : decode cc pc = .ok (.getfield index, 3)) (kk : W p l e R s m args below meth c H locs cells slots Q (F0 m (pc + 3) ls (.int (M 10 3) :: rest))) : W p l e R s m args below meth c H locs cells slots Q (F0 m pc ls (.ref (g.2.2.2 10) :: rest)) := r_get t_Text_in (ci := 4) rfl 10 (by decide) rfl 3 (by decide) rfl rfl C hW hP hl hdg kk
theorem pf_10_3 {v : Int32} (hI : WI g) (C : CallFix p m c cc nL s args TG own) (hW : WK g s) (hP : WP g M H) (hS : va_S (AW g) H0 H locs) {index : Nat} (hl : Cond.fieldLink own index N_Text (T_Text 3).2.1 (T_Text 3).2.2.1 ∈ TG) (hdg : decode cc pc = .ok (.putfield index, 3)) (kk : ∀ (M1 : Mem), M1 = mset M 10 3 v → ∀ (H1 : Heap) (locs1 : List Loc), WP g M1 H1 → va_S (AW g) H0 H1 locs1 → W p l e R s m args below meth c H1 locs1 cells slots Q (F0 m (pc + 3) ls rest)) : W p l e R s m args below meth c H locs cells slots Q (F0 m pc ls (.int v :: .ref (g.2.2.2 10) :: rest)) := r_put t_Text_in y_Text_t t_Text_ok t_Text_nm (ci := 4) rfl 10 (by decide) rfl 3 (by decide) rfl rfl (ty := .int) (by decide +kernel) rfl rfl (by simp) rfl hI C hW hP hS hl hdg (fun H1 locs1 hP1 hS1 => kk _ rfl H1 locs1 hP1 hS1)
theorem io_12 (g : GG) (M : Mem) : IsOb g M 12 7 N_Way := ⟨by decide, ⟨_, rfl⟩, _, rfl⟩
theorem gf_12_0 (C : CallFix p m c cc nL s args TG own) (hW : WK g s) (hP : WP g M H) {index : Nat} (hl : Cond.fieldLink own index N_Way (T_Way 0).2.1 (T_Way 0).2.2.1 ∈ TG) (hdg : decode cc pc = .ok (.getfield index, 3)) (kk : W p l e R s m args below meth c H locs cells slots Q (F0 m (pc + 3) ls (.ref (g.2.2.2 13) :: rest))) : W p l e R s m args below meth c H locs cells slots Q (F0 m pc ls (.ref (g.2.2.2 12) :: rest)) := r_get t_Way_in (ci := 7) rfl 12 (by decide) rfl 0 (by decide) rfl rfl C hW hP hl hdg kk
theorem gf_12_1 (C : CallFix p m c cc nL s args TG own) (hW : WK g s) (hP : WP g M H) {index : Nat} (hl : Cond.fieldLink own index N_Way (T_Way 1).2.1 (T_Way 1).2.2.1 ∈ TG) (hdg : decode cc pc = .ok (.getfield index, 3)) (kk : W p l e R s m args below meth c H locs cells slots Q (F0 m (pc + 3) ls (.ref (g.2.2.2 14) :: rest))) : W p l e R s m args below meth c H locs cells slots Q (F0 m pc ls (.ref (g.2.2.2 12) :: rest)) := r_get t_Way_in (ci := 7) rfl 12 (by decide) rfl 1 (by decide) rfl rfl C hW hP hl hdg kk
theorem gf_12_2 (C : CallFix p m c cc nL s args TG own) (hW : WK g s) (hP : WP g M H) {index : Nat} (hl : Cond.fieldLink own index N_Way (T_Way 2).2.1 (T_Way 2).2.2.1 ∈ TG) (hdg : decode cc pc = .ok (.getfield index, 3)) (kk : W p l e R s m args below meth c H locs cells slots Q (F0 m (pc + 3) ls (.ref (g.2.2.2 15) :: rest))) : W p l e R s m args below meth c H locs cells slots Q (F0 m pc ls (.ref (g.2.2.2 12) :: rest)) := r_get t_Way_in (ci := 7) rfl 12 (by decide) rfl 2 (by decide) rfl rfl C hW hP hl hdg kk
theorem gf_12_3 (C : CallFix p m c cc nL s args TG own) (hW : WK g s) (hP : WP g M H) {index : Nat} (hl : Cond.fieldLink own index N_Way (T_Way 3).2.1 (T_Way 3).2.2.1 ∈ TG) (hdg : decode cc pc = .ok (.getfield index, 3)) (kk : W p l e R s m args below meth c H locs cells slots Q (F0 m (pc + 3) ls (.ref (g.2.2.2 16) :: rest))) : W p l e R s m args below meth c H locs cells slots Q (F0 m pc ls (.ref (g.2.2.2 12) :: rest)) := r_get t_Way_in (ci := 7) rfl 12 (by decide) rfl 3 (by decide) rfl rfl C hW hP hl hdg kk
theorem gf_12_4 (C : CallFix p m c cc nL s args TG own) (hW : WK g s) (hP : WP g M H) {index : Nat} (hl : Cond.fieldLink own index N_Way (T_Way 4).2.1 (T_Way 4).2.2.1 ∈ TG) (hdg : decode cc pc = .ok (.getfield index, 3)) (kk : W p l e R s m args below meth c H locs cells slots Q (F0 m (pc + 3) ls (.ref (g.2.2.2 17) :: rest))) : W p l e R s m args below meth c H locs cells slots Q (F0 m pc ls (.ref (g.2.2.2 12) :: rest)) := r_get t_Way_in (ci := 7) rfl 12 (by decide) rfl 4 (by decide) rfl rfl C hW hP hl hdg kk
theorem gf_12_5 (C : CallFix p m c cc nL s args TG own) (hW : WK g s) (hP : WP g M H) {index : Nat} (hl : Cond.fieldLink own index N_Way (T_Way 5).2.1 (T_Way 5).2.2.1 ∈ TG) (hdg : decode cc pc = .ok (.getfield index, 3)) (kk : W p l e R s m args below meth c H locs cells slots Q (F0 m (pc + 3) ls (.int (M 12 5) :: rest))) : W p l e R s m args below meth c H locs cells slots Q (F0 m pc ls (.ref (g.2.2.2 12) :: rest)) := r_get t_Way_in (ci := 7) rfl 12 (by decide) rfl 5 (by decide) rfl rfl C hW hP hl hdg kk
theorem pf_12_5 {v : Int32} (hI : WI g) (C : CallFix p m c cc nL s args TG own) (hW : WK g s) (hP : WP g M H) (hS : va_S (AW g) H0 H locs) {index : Nat} (hl : Cond.fieldLink own index N_Way (T_Way 5).2.1 (T_Way 5).2.2.1 ∈ TG) (hdg : decode cc pc = .ok (.putfield index, 3)) (kk : ∀ (M1 : Mem), M1 = mset M 12 5 v → ∀ (H1 : Heap) (locs1 : List Loc), WP g M1 H1 → va_S (AW g) H0 H1 locs1 → W p l e R s m args below meth c H1 locs1 cells slots Q (F0 m (pc + 3) ls rest)) : W p l e R s m args below meth c H locs cells slots Q (F0 m pc ls (.int v :: .ref (g.2.2.2 12) :: rest)) := r_put t_Way_in y_Way_t t_Way_ok t_Way_nm (ci := 7) rfl 12 (by decide) rfl 5 (by decide) rfl rfl (ty := .int) (by decide +kernel) rfl rfl (by simp) rfl hI C hW hP hS hl hdg (fun H1 locs1 hP1 hS1 => kk _ rfl H1 locs1 hP1 hS1)
theorem gf_12_6 (C : CallFix p m c cc nL s args TG own) (hW : WK g s) (hP : WP g M H) {index : Nat} (hl : Cond.fieldLink own index N_Way (T_Way 6).2.1 (T_Way 6).2.2.1 ∈ TG) (hdg : decode cc pc = .ok (.getfield index, 3)) (kk : W p l e R s m args below meth c H locs cells slots Q (F0 m (pc + 3) ls (.int (M 12 6) :: rest))) : W p l e R s m args below meth c H locs cells slots Q (F0 m pc ls (.ref (g.2.2.2 12) :: rest)) := r_get t_Way_in (ci := 7) rfl 12 (by decide) rfl 6 (by decide) rfl rfl C hW hP hl hdg kk
theorem pf_12_6 {v : Int32} (hI : WI g) (C : CallFix p m c cc nL s args TG own) (hW : WK g s) (hP : WP g M H) (hS : va_S (AW g) H0 H locs) {index : Nat} (hl : Cond.fieldLink own index N_Way (T_Way 6).2.1 (T_Way 6).2.2.1 ∈ TG) (hdg : decode cc pc = .ok (.putfield index, 3)) (kk : ∀ (M1 : Mem), M1 = mset M 12 6 v → ∀ (H1 : Heap) (locs1 : List Loc), WP g M1 H1 → va_S (AW g) H0 H1 locs1 → W p l e R s m args below meth c H1 locs1 cells slots Q (F0 m (pc + 3) ls rest)) : W p l e R s m args below meth c H locs cells slots Q (F0 m pc ls (.int v :: .ref (g.2.2.2 12) :: rest)) := r_put t_Way_in y_Way_t t_Way_ok t_Way_nm (ci := 7) rfl 12 (by decide) rfl 6 (by decide) rfl rfl (ty := .int) (by decide +kernel) rfl rfl (by simp) rfl hI C hW hP hS hl hdg (fun H1 locs1 hP1 hS1 => kk _ rfl H1 locs1 hP1 hS1)
theorem gf_12_7 (C : CallFix p m c cc nL s args TG own) (hW : WK g s) (hP : WP g M H) {index : Nat} (hl : Cond.fieldLink own index N_Way (T_Way 7).2.1 (T_Way 7).2.2.1 ∈ TG) (hdg : decode cc pc = .ok (.getfield index, 3)) (kk : W p l e R s m args below meth c H locs cells slots Q (F0 m (pc + 3) ls (.int (M 12 7) :: rest))) : W p l e R s m args below meth c H locs cells slots Q (F0 m pc ls (.ref (g.2.2.2 12) :: rest)) := r_get t_Way_in (ci := 7) rfl 12 (by decide) rfl 7 (by decide) rfl rfl C hW hP hl hdg kk
theorem pf_12_7 {v : Int32} (hI : WI g) (C : CallFix p m c cc nL s args TG own) (hW : WK g s) (hP : WP g M H) (hS : va_S (AW g) H0 H locs) {index : Nat} (hl : Cond.fieldLink own index N_Way (T_Way 7).2.1 (T_Way 7).2.2.1 ∈ TG) (hdg : decode cc pc = .ok (.putfield index, 3)) (kk : ∀ (M1 : Mem), M1 = mset M 12 7 v → ∀ (H1 : Heap) (locs1 : List Loc), WP g M1 H1 → va_S (AW g) H0 H1 locs1 → W p l e R s m args below meth c H1 locs1 cells slots Q (F0 m (pc + 3) ls rest)) : W p l e R s m args below meth c H locs cells slots Q (F0 m pc ls (.int v :: .ref (g.2.2.2 12) :: rest)) := r_put t_Way_in y_Way_t t_Way_ok t_Way_nm (ci := 7) rfl 12 (by decide) rfl 7 (by decide) rfl rfl (ty := .int) (by decide +kernel) rfl rfl (by simp) rfl hI C hW hP hS hl hdg (fun H1 locs1 hP1 hS1 => kk _ rfl H1 locs1 hP1 hS1)
theorem io_18 (g : GG) (M : Mem) : IsOb g M 18 6 N_Walk := ⟨by decide, ⟨_, rfl⟩, _, rfl⟩
theorem gf_18_0 (C : CallFix p m c cc nL s args TG own) (hW : WK g s) (hP : WP g M H) {index : Nat} (hl : Cond.fieldLink own index N_Walk (T_Walk 0).2.1 (T_Walk 0).2.2.1 ∈ TG) (hdg : decode cc pc = .ok (.getfield index, 3)) (kk : W p l e R s m args below meth c H locs cells slots Q (F0 m (pc + 3) ls (.ref (g.2.2.2 12) :: rest))) : W p l e R s m args below meth c H locs cells slots Q (F0 m pc ls (.ref (g.2.2.2 18) :: rest)) := r_get t_Walk_in (ci := 6) rfl 18 (by decide) rfl 0 (by decide) rfl rfl C hW hP hl hdg kk
theorem gf_18_1 (C : CallFix p m c cc nL s args TG own) (hW : WK g s) (hP : WP g M H) {index : Nat} (hl : Cond.fieldLink own index N_Walk (T_Walk 1).2.1 (T_Walk 1).2.2.1 ∈ TG) (hdg : decode cc pc = .ok (.getfield index, 3)) (kk : W p l e R s m args below meth c H locs cells slots Q (F0 m (pc + 3) ls (.ref (g.2.2.2 19) :: rest))) : W p l e R s m args below meth c H locs cells slots Q (F0 m pc ls (.ref (g.2.2.2 18) :: rest)) := r_get t_Walk_in (ci := 6) rfl 18 (by decide) rfl 1 (by decide) rfl rfl C hW hP hl hdg kk
theorem gf_18_2 (C : CallFix p m c cc nL s args TG own) (hW : WK g s) (hP : WP g M H) {index : Nat} (hl : Cond.fieldLink own index N_Walk (T_Walk 2).2.1 (T_Walk 2).2.2.1 ∈ TG) (hdg : decode cc pc = .ok (.getfield index, 3)) (kk : W p l e R s m args below meth c H locs cells slots Q (F0 m (pc + 3) ls (.ref (g.2.2.2 20) :: rest))) : W p l e R s m args below meth c H locs cells slots Q (F0 m pc ls (.ref (g.2.2.2 18) :: rest)) := r_get t_Walk_in (ci := 6) rfl 18 (by decide) rfl 2 (by decide) rfl rfl C hW hP hl hdg kk
theorem gf_18_3 (C : CallFix p m c cc nL s args TG own) (hW : WK g s) (hP : WP g M H) {index : Nat} (hl : Cond.fieldLink own index N_Walk (T_Walk 3).2.1 (T_Walk 3).2.2.1 ∈ TG) (hdg : decode cc pc = .ok (.getfield index, 3)) (kk : W p l e R s m args below meth c H locs cells slots Q (F0 m (pc + 3) ls (.int (M 18 3) :: rest))) : W p l e R s m args below meth c H locs cells slots Q (F0 m pc ls (.ref (g.2.2.2 18) :: rest)) := r_get t_Walk_in (ci := 6) rfl 18 (by decide) rfl 3 (by decide) rfl rfl C hW hP hl hdg kk
theorem pf_18_3 {v : Int32} (hI : WI g) (C : CallFix p m c cc nL s args TG own) (hW : WK g s) (hP : WP g M H) (hS : va_S (AW g) H0 H locs) {index : Nat} (hl : Cond.fieldLink own index N_Walk (T_Walk 3).2.1 (T_Walk 3).2.2.1 ∈ TG) (hdg : decode cc pc = .ok (.putfield index, 3)) (kk : ∀ (M1 : Mem), M1 = mset M 18 3 v → ∀ (H1 : Heap) (locs1 : List Loc), WP g M1 H1 → va_S (AW g) H0 H1 locs1 → W p l e R s m args below meth c H1 locs1 cells slots Q (F0 m (pc + 3) ls rest)) : W p l e R s m args below meth c H locs cells slots Q (F0 m pc ls (.int v :: .ref (g.2.2.2 18) :: rest)) := r_put t_Walk_in y_Walk_t t_Walk_ok t_Walk_nm (ci := 6) rfl 18 (by decide) rfl 3 (by decide) rfl rfl (ty := .int) (by decide +kernel) rfl rfl (by simp) rfl hI C hW hP hS hl hdg (fun H1 locs1 hP1 hS1 => kk _ rfl H1 locs1 hP1 hS1)
theorem gf_18_4 (C : CallFix p m c cc nL s args TG own) (hW : WK g s) (hP : WP g M H) {index : Nat} (hl : Cond.fieldLink own index N_Walk (T_Walk 4).2.1 (T_Walk 4).2.2.1 ∈ TG) (hdg : decode cc pc = .ok (.getfield index, 3)) (kk : W p l e R s m args below meth c H locs cells slots Q (F0 m (pc + 3) ls (.int (M 18 4) :: rest))) : W p l e R s m args below meth c H locs cells slots Q (F0 m pc ls (.ref (g.2.2.2 18) :: rest)) := r_get t_Walk_in (ci := 6) rfl 18 (by decide) rfl 4 (by decide) rfl rfl C hW hP hl hdg kk
theorem pf_18_4 {v : Int32} (hI : WI g) (C : CallFix p m c cc nL s args TG own) (hW : WK g s) (hP : WP g M H) (hS : va_S (AW g) H0 H locs) {index : Nat} (hl : Cond.fieldLink own index N_Walk (T_Walk 4).2.1 (T_Walk 4).2.2.1 ∈ TG) (hdg : decode cc pc = .ok (.putfield index, 3)) (kk : ∀ (M1 : Mem), M1 = mset M 18 4 v → ∀ (H1 : Heap) (locs1 : List Loc), WP g M1 H1 → va_S (AW g) H0 H1 locs1 → W p l e R s m args below meth c H1 locs1 cells slots Q (F0 m (pc + 3) ls rest)) : W p l e R s m args below meth c H locs cells slots Q (F0 m pc ls (.int v :: .ref (g.2.2.2 18) :: rest)) := r_put t_Walk_in y_Walk_t t_Walk_ok t_Walk_nm (ci := 6) rfl 18 (by decide) rfl 4 (by decide) rfl rfl (ty := .int) (by decide +kernel) rfl rfl (by simp) rfl hI C hW hP hS hl hdg (fun H1 locs1 hP1 hS1 => kk _ rfl H1 locs1 hP1 hS1)
theorem gf_18_5 (C : CallFix p m c cc nL s args TG own) (hW : WK g s) (hP : WP g M H) {index : Nat} (hl : Cond.fieldLink own index N_Walk (T_Walk 5).2.1 (T_Walk 5).2.2.1 ∈ TG) (hdg : decode cc pc = .ok (.getfield index, 3)) (kk : W p l e R s m args below meth c H locs cells slots Q (F0 m (pc + 3) ls (.int (M 18 5) :: rest))) : W p l e R s m args below meth c H locs cells slots Q (F0 m pc ls (.ref (g.2.2.2 18) :: rest)) := r_get t_Walk_in (ci := 6) rfl 18 (by decide) rfl 5 (by decide) rfl rfl C hW hP hl hdg kk
theorem pf_18_5 {v : Int32} (hI : WI g) (C : CallFix p m c cc nL s args TG own) (hW : WK g s) (hP : WP g M H) (hS : va_S (AW g) H0 H locs) {index : Nat} (hl : Cond.fieldLink own index N_Walk (T_Walk 5).2.1 (T_Walk 5).2.2.1 ∈ TG) (hdg : decode cc pc = .ok (.putfield index, 3)) (kk : ∀ (M1 : Mem), M1 = mset M 18 5 v → ∀ (H1 : Heap) (locs1 : List Loc), WP g M1 H1 → va_S (AW g) H0 H1 locs1 → W p l e R s m args below meth c H1 locs1 cells slots Q (F0 m (pc + 3) ls rest)) : W p l e R s m args below meth c H locs cells slots Q (F0 m pc ls (.int v :: .ref (g.2.2.2 18) :: rest)) := r_put t_Walk_in y_Walk_t t_Walk_ok t_Walk_nm (ci := 6) rfl 18 (by decide) rfl 5 (by decide) rfl rfl (ty := .int) (by decide +kernel) rfl rfl (by simp) rfl hI C hW hP hS hl hdg (fun H1 locs1 hP1 hS1 => kk _ rfl H1 locs1 hP1 hS1)
theorem io_21 (g : GG) (M : Mem) : IsOb g M 21 2 N_Search := ⟨by decide, ⟨_, rfl⟩, _, rfl⟩
theorem gf_21_0 (C : CallFix p m c cc nL s args TG own) (hW : WK g s) (hP : WP g M H) {index : Nat} (hl : Cond.fieldLink own index N_Search (T_Search 0).2.1 (T_Search 0).2.2.1 ∈ TG) (hdg : decode cc pc = .ok (.getfield index, 3)) (kk : W p l e R s m args below meth c H locs cells slots Q (F0 m (pc + 3) ls (.ref (g.2.2.2 12) :: rest))) : W p l e R s m args below meth c H locs cells slots Q (F0 m pc ls (.ref (g.2.2.2 21) :: rest)) := r_get t_Search_in (ci := 2) rfl 21 (by decide) rfl 0 (by decide) rfl rfl C hW hP hl hdg kk
theorem gf_21_1 (C : CallFix p m c cc nL s args TG own) (hW : WK g s) (hP : WP g M H) {index : Nat} (hl : Cond.fieldLink own index N_Search (T_Search 1).2.1 (T_Search 1).2.2.1 ∈ TG) (hdg : decode cc pc = .ok (.getfield index, 3)) (kk : W p l e R s m args below meth c H locs cells slots Q (F0 m (pc + 3) ls (.ref (g.2.2.2 18) :: rest))) : W p l e R s m args below meth c H locs cells slots Q (F0 m pc ls (.ref (g.2.2.2 21) :: rest)) := r_get t_Search_in (ci := 2) rfl 21 (by decide) rfl 1 (by decide) rfl rfl C hW hP hl hdg kk
theorem gf_21_2 (C : CallFix p m c cc nL s args TG own) (hW : WK g s) (hP : WP g M H) {index : Nat} (hl : Cond.fieldLink own index N_Search (T_Search 2).2.1 (T_Search 2).2.2.1 ∈ TG) (hdg : decode cc pc = .ok (.getfield index, 3)) (kk : W p l e R s m args below meth c H locs cells slots Q (F0 m (pc + 3) ls (.ref (g.2.2.2 22) :: rest))) : W p l e R s m args below meth c H locs cells slots Q (F0 m pc ls (.ref (g.2.2.2 21) :: rest)) := r_get t_Search_in (ci := 2) rfl 21 (by decide) rfl 2 (by decide) rfl rfl C hW hP hl hdg kk
theorem gf_21_3 (C : CallFix p m c cc nL s args TG own) (hW : WK g s) (hP : WP g M H) {index : Nat} (hl : Cond.fieldLink own index N_Search (T_Search 3).2.1 (T_Search 3).2.2.1 ∈ TG) (hdg : decode cc pc = .ok (.getfield index, 3)) (kk : W p l e R s m args below meth c H locs cells slots Q (F0 m (pc + 3) ls (.ref (g.2.2.2 24) :: rest))) : W p l e R s m args below meth c H locs cells slots Q (F0 m pc ls (.ref (g.2.2.2 21) :: rest)) := r_get t_Search_in (ci := 2) rfl 21 (by decide) rfl 3 (by decide) rfl rfl C hW hP hl hdg kk
theorem gf_21_4 (C : CallFix p m c cc nL s args TG own) (hW : WK g s) (hP : WP g M H) {index : Nat} (hl : Cond.fieldLink own index N_Search (T_Search 4).2.1 (T_Search 4).2.2.1 ∈ TG) (hdg : decode cc pc = .ok (.getfield index, 3)) (kk : W p l e R s m args below meth c H locs cells slots Q (F0 m (pc + 3) ls (.int (M 21 4) :: rest))) : W p l e R s m args below meth c H locs cells slots Q (F0 m pc ls (.ref (g.2.2.2 21) :: rest)) := r_get t_Search_in (ci := 2) rfl 21 (by decide) rfl 4 (by decide) rfl rfl C hW hP hl hdg kk
theorem pf_21_4 {v : Int32} (hI : WI g) (C : CallFix p m c cc nL s args TG own) (hW : WK g s) (hP : WP g M H) (hS : va_S (AW g) H0 H locs) {index : Nat} (hl : Cond.fieldLink own index N_Search (T_Search 4).2.1 (T_Search 4).2.2.1 ∈ TG) (hdg : decode cc pc = .ok (.putfield index, 3)) (kk : ∀ (M1 : Mem), M1 = mset M 21 4 v → ∀ (H1 : Heap) (locs1 : List Loc), WP g M1 H1 → va_S (AW g) H0 H1 locs1 → W p l e R s m args below meth c H1 locs1 cells slots Q (F0 m (pc + 3) ls rest)) : W p l e R s m args below meth c H locs cells slots Q (F0 m pc ls (.int v :: .ref (g.2.2.2 21) :: rest)) := r_put t_Search_in y_Search_t t_Search_ok t_Search_nm (ci := 2) rfl 21 (by decide) rfl 4 (by decide) rfl rfl (ty := .int) (by decide +kernel) rfl rfl (by simp) rfl hI C hW hP hS hl hdg (fun H1 locs1 hP1 hS1 => kk _ rfl H1 locs1 hP1 hS1)
theorem gf_21_5 (C : CallFix p m c cc nL s args TG own) (hW : WK g s) (hP : WP g M H) {index : Nat} (hl : Cond.fieldLink own index N_Search (T_Search 5).2.1 (T_Search 5).2.2.1 ∈ TG) (hdg : decode cc pc = .ok (.getfield index, 3)) (kk : W p l e R s m args below meth c H locs cells slots Q (F0 m (pc + 3) ls (.int (M 21 5) :: rest))) : W p l e R s m args below meth c H locs cells slots Q (F0 m pc ls (.ref (g.2.2.2 21) :: rest)) := r_get t_Search_in (ci := 2) rfl 21 (by decide) rfl 5 (by decide) rfl rfl C hW hP hl hdg kk
theorem pf_21_5 {v : Int32} (hI : WI g) (C : CallFix p m c cc nL s args TG own) (hW : WK g s) (hP : WP g M H) (hS : va_S (AW g) H0 H locs) {index : Nat} (hl : Cond.fieldLink own index N_Search (T_Search 5).2.1 (T_Search 5).2.2.1 ∈ TG) (hdg : decode cc pc = .ok (.putfield index, 3)) (kk : ∀ (M1 : Mem), M1 = mset M 21 5 v → ∀ (H1 : Heap) (locs1 : List Loc), WP g M1 H1 → va_S (AW g) H0 H1 locs1 → W p l e R s m args below meth c H1 locs1 cells slots Q (F0 m (pc + 3) ls rest)) : W p l e R s m args below meth c H locs cells slots Q (F0 m pc ls (.int v :: .ref (g.2.2.2 21) :: rest)) := r_put t_Search_in y_Search_t t_Search_ok t_Search_nm (ci := 2) rfl 21 (by decide) rfl 5 (by decide) rfl rfl (ty := .int) (by decide +kernel) rfl rfl (by simp) rfl hI C hW hP hS hl hdg (fun H1 locs1 hP1 hS1 => kk _ rfl H1 locs1 hP1 hS1)
theorem gf_21_6 (C : CallFix p m c cc nL s args TG own) (hW : WK g s) (hP : WP g M H) {index : Nat} (hl : Cond.fieldLink own index N_Search (T_Search 6).2.1 (T_Search 6).2.2.1 ∈ TG) (hdg : decode cc pc = .ok (.getfield index, 3)) (kk : W p l e R s m args below meth c H locs cells slots Q (F0 m (pc + 3) ls (.int (M 21 6) :: rest))) : W p l e R s m args below meth c H locs cells slots Q (F0 m pc ls (.ref (g.2.2.2 21) :: rest)) := r_get t_Search_in (ci := 2) rfl 21 (by decide) rfl 6 (by decide) rfl rfl C hW hP hl hdg kk
theorem pf_21_6 {v : Int32} (hI : WI g) (C : CallFix p m c cc nL s args TG own) (hW : WK g s) (hP : WP g M H) (hS : va_S (AW g) H0 H locs) {index : Nat} (hl : Cond.fieldLink own index N_Search (T_Search 6).2.1 (T_Search 6).2.2.1 ∈ TG) (hdg : decode cc pc = .ok (.putfield index, 3)) (kk : ∀ (M1 : Mem), M1 = mset M 21 6 v → ∀ (H1 : Heap) (locs1 : List Loc), WP g M1 H1 → va_S (AW g) H0 H1 locs1 → W p l e R s m args below meth c H1 locs1 cells slots Q (F0 m (pc + 3) ls rest)) : W p l e R s m args below meth c H locs cells slots Q (F0 m pc ls (.int v :: .ref (g.2.2.2 21) :: rest)) := r_put t_Search_in y_Search_t t_Search_ok t_Search_nm (ci := 2) rfl 21 (by decide) rfl 6 (by decide) rfl rfl (ty := .int) (by decide +kernel) rfl rfl (by simp) rfl hI C hW hP hS hl hdg (fun H1 locs1 hP1 hS1 => kk _ rfl H1 locs1 hP1 hS1)
theorem gf_21_7 (C : CallFix p m c cc nL s args TG own) (hW : WK g s) (hP : WP g M H) {index : Nat} (hl : Cond.fieldLink own index N_Search (T_Search 7).2.1 (T_Search 7).2.2.1 ∈ TG) (hdg : decode cc pc = .ok (.getfield index, 3)) (kk : W p l e R s m args below meth c H locs cells slots Q (F0 m (pc + 3) ls (.int (M 21 7) :: rest))) : W p l e R s m args below meth c H locs cells slots Q (F0 m pc ls (.ref (g.2.2.2 21) :: rest)) := r_get t_Search_in (ci := 2) rfl 21 (by decide) rfl 7 (by decide) rfl rfl C hW hP hl hdg kk
theorem pf_21_7 {v : Int32} (hI : WI g) (C : CallFix p m c cc nL s args TG own) (hW : WK g s) (hP : WP g M H) (hS : va_S (AW g) H0 H locs) {index : Nat} (hl : Cond.fieldLink own index N_Search (T_Search 7).2.1 (T_Search 7).2.2.1 ∈ TG) (hdg : decode cc pc = .ok (.putfield index, 3)) (kk : ∀ (M1 : Mem), M1 = mset M 21 7 v → ∀ (H1 : Heap) (locs1 : List Loc), WP g M1 H1 → va_S (AW g) H0 H1 locs1 → W p l e R s m args below meth c H1 locs1 cells slots Q (F0 m (pc + 3) ls rest)) : W p l e R s m args below meth c H locs cells slots Q (F0 m pc ls (.int v :: .ref (g.2.2.2 21) :: rest)) := r_put t_Search_in y_Search_t t_Search_ok t_Search_nm (ci := 2) rfl 21 (by decide) rfl 7 (by decide) rfl rfl (ty := .int) (by decide +kernel) rfl rfl (by simp) rfl hI C hW hP hS hl hdg (fun H1 locs1 hP1 hS1 => kk _ rfl H1 locs1 hP1 hS1)
theorem io_22 (g : GG) (M : Mem) : IsOb g M 22 0 N_Orders := ⟨by decide, ⟨_, rfl⟩, _, rfl⟩
theorem gf_22_0 (C : CallFix p m c cc nL s args TG own) (hW : WK g s) (hP : WP g M H) {index : Nat} (hl : Cond.fieldLink own index N_Orders (T_Orders 0).2.1 (T_Orders 0).2.2.1 ∈ TG) (hdg : decode cc pc = .ok (.getfield index, 3)) (kk : W p l e R s m args below meth c H locs cells slots Q (F0 m (pc + 3) ls (.ref (g.2.2.2 23) :: rest))) : W p l e R s m args below meth c H locs cells slots Q (F0 m pc ls (.ref (g.2.2.2 22) :: rest)) := r_get t_Orders_in (ci := 0) rfl 22 (by decide) rfl 0 (by decide) rfl rfl C hW hP hl hdg kk
theorem gf_22_1 (C : CallFix p m c cc nL s args TG own) (hW : WK g s) (hP : WP g M H) {index : Nat} (hl : Cond.fieldLink own index N_Orders (T_Orders 1).2.1 (T_Orders 1).2.2.1 ∈ TG) (hdg : decode cc pc = .ok (.getfield index, 3)) (kk : W p l e R s m args below meth c H locs cells slots Q (F0 m (pc + 3) ls (.int (M 22 1) :: rest))) : W p l e R s m args below meth c H locs cells slots Q (F0 m pc ls (.ref (g.2.2.2 22) :: rest)) := r_get t_Orders_in (ci := 0) rfl 22 (by decide) rfl 1 (by decide) rfl rfl C hW hP hl hdg kk
theorem pf_22_1 {v : Int32} (hI : WI g) (C : CallFix p m c cc nL s args TG own) (hW : WK g s) (hP : WP g M H) (hS : va_S (AW g) H0 H locs) {index : Nat} (hl : Cond.fieldLink own index N_Orders (T_Orders 1).2.1 (T_Orders 1).2.2.1 ∈ TG) (hdg : decode cc pc = .ok (.putfield index, 3)) (kk : ∀ (M1 : Mem), M1 = mset M 22 1 v → ∀ (H1 : Heap) (locs1 : List Loc), WP g M1 H1 → va_S (AW g) H0 H1 locs1 → W p l e R s m args below meth c H1 locs1 cells slots Q (F0 m (pc + 3) ls rest)) : W p l e R s m args below meth c H locs cells slots Q (F0 m pc ls (.int v :: .ref (g.2.2.2 22) :: rest)) := r_put t_Orders_in y_Orders_t t_Orders_ok t_Orders_nm (ci := 0) rfl 22 (by decide) rfl 1 (by decide) rfl rfl (ty := .int) (by decide +kernel) rfl rfl (by simp) rfl hI C hW hP hS hl hdg (fun H1 locs1 hP1 hS1 => kk _ rfl H1 locs1 hP1 hS1)
theorem io_25 (g : GG) (M : Mem) : IsOb g M 25 5 N_Trials := ⟨by decide, ⟨_, rfl⟩, _, rfl⟩
theorem gf_25_0 (C : CallFix p m c cc nL s args TG own) (hW : WK g s) (hP : WP g M H) {index : Nat} (hl : Cond.fieldLink own index N_Trials (T_Trials 0).2.1 (T_Trials 0).2.2.1 ∈ TG) (hdg : decode cc pc = .ok (.getfield index, 3)) (kk : W p l e R s m args below meth c H locs cells slots Q (F0 m (pc + 3) ls (.ref (g.2.2.2 12) :: rest))) : W p l e R s m args below meth c H locs cells slots Q (F0 m pc ls (.ref (g.2.2.2 25) :: rest)) := r_get t_Trials_in (ci := 5) rfl 25 (by decide) rfl 0 (by decide) rfl rfl C hW hP hl hdg kk
theorem gf_25_1 (C : CallFix p m c cc nL s args TG own) (hW : WK g s) (hP : WP g M H) {index : Nat} (hl : Cond.fieldLink own index N_Trials (T_Trials 1).2.1 (T_Trials 1).2.2.1 ∈ TG) (hdg : decode cc pc = .ok (.getfield index, 3)) (kk : W p l e R s m args below meth c H locs cells slots Q (F0 m (pc + 3) ls (.ref (g.2.2.2 18) :: rest))) : W p l e R s m args below meth c H locs cells slots Q (F0 m pc ls (.ref (g.2.2.2 25) :: rest)) := r_get t_Trials_in (ci := 5) rfl 25 (by decide) rfl 1 (by decide) rfl rfl C hW hP hl hdg kk
theorem gf_25_2 (C : CallFix p m c cc nL s args TG own) (hW : WK g s) (hP : WP g M H) {index : Nat} (hl : Cond.fieldLink own index N_Trials (T_Trials 2).2.1 (T_Trials 2).2.2.1 ∈ TG) (hdg : decode cc pc = .ok (.getfield index, 3)) (kk : W p l e R s m args below meth c H locs cells slots Q (F0 m (pc + 3) ls (.int (M 25 2) :: rest))) : W p l e R s m args below meth c H locs cells slots Q (F0 m pc ls (.ref (g.2.2.2 25) :: rest)) := r_get t_Trials_in (ci := 5) rfl 25 (by decide) rfl 2 (by decide) rfl rfl C hW hP hl hdg kk
theorem pf_25_2 {v : Int32} (hI : WI g) (C : CallFix p m c cc nL s args TG own) (hW : WK g s) (hP : WP g M H) (hS : va_S (AW g) H0 H locs) {index : Nat} (hl : Cond.fieldLink own index N_Trials (T_Trials 2).2.1 (T_Trials 2).2.2.1 ∈ TG) (hdg : decode cc pc = .ok (.putfield index, 3)) (kk : ∀ (M1 : Mem), M1 = mset M 25 2 v → ∀ (H1 : Heap) (locs1 : List Loc), WP g M1 H1 → va_S (AW g) H0 H1 locs1 → W p l e R s m args below meth c H1 locs1 cells slots Q (F0 m (pc + 3) ls rest)) : W p l e R s m args below meth c H locs cells slots Q (F0 m pc ls (.int v :: .ref (g.2.2.2 25) :: rest)) := r_put t_Trials_in y_Trials_t t_Trials_ok t_Trials_nm (ci := 5) rfl 25 (by decide) rfl 2 (by decide) rfl rfl (ty := .int) (by decide +kernel) rfl rfl (by simp) rfl hI C hW hP hS hl hdg (fun H1 locs1 hP1 hS1 => kk _ rfl H1 locs1 hP1 hS1)
theorem gf_25_3 (C : CallFix p m c cc nL s args TG own) (hW : WK g s) (hP : WP g M H) {index : Nat} (hl : Cond.fieldLink own index N_Trials (T_Trials 3).2.1 (T_Trials 3).2.2.1 ∈ TG) (hdg : decode cc pc = .ok (.getfield index, 3)) (kk : W p l e R s m args below meth c H locs cells slots Q (F0 m (pc + 3) ls (.int (M 25 3) :: rest))) : W p l e R s m args below meth c H locs cells slots Q (F0 m pc ls (.ref (g.2.2.2 25) :: rest)) := r_get t_Trials_in (ci := 5) rfl 25 (by decide) rfl 3 (by decide) rfl rfl C hW hP hl hdg kk
theorem pf_25_3 {v : Int32} (hI : WI g) (C : CallFix p m c cc nL s args TG own) (hW : WK g s) (hP : WP g M H) (hS : va_S (AW g) H0 H locs) {index : Nat} (hl : Cond.fieldLink own index N_Trials (T_Trials 3).2.1 (T_Trials 3).2.2.1 ∈ TG) (hdg : decode cc pc = .ok (.putfield index, 3)) (kk : ∀ (M1 : Mem), M1 = mset M 25 3 v → ∀ (H1 : Heap) (locs1 : List Loc), WP g M1 H1 → va_S (AW g) H0 H1 locs1 → W p l e R s m args below meth c H1 locs1 cells slots Q (F0 m (pc + 3) ls rest)) : W p l e R s m args below meth c H locs cells slots Q (F0 m pc ls (.int v :: .ref (g.2.2.2 25) :: rest)) := r_put t_Trials_in y_Trials_t t_Trials_ok t_Trials_nm (ci := 5) rfl 25 (by decide) rfl 3 (by decide) rfl rfl (ty := .int) (by decide +kernel) rfl rfl (by simp) rfl hI C hW hP hS hl hdg (fun H1 locs1 hP1 hS1 => kk _ rfl H1 locs1 hP1 hS1)
theorem io_26 (g : GG) (M : Mem) : IsOb g M 26 1 N_Readings := ⟨by decide, ⟨_, rfl⟩, _, rfl⟩
theorem gf_26_0 (C : CallFix p m c cc nL s args TG own) (hW : WK g s) (hP : WP g M H) {index : Nat} (hl : Cond.fieldLink own index N_Readings (T_Readings 0).2.1 (T_Readings 0).2.2.1 ∈ TG) (hdg : decode cc pc = .ok (.getfield index, 3)) (kk : W p l e R s m args below meth c H locs cells slots Q (F0 m (pc + 3) ls (.ref (g.2.2.2 12) :: rest))) : W p l e R s m args below meth c H locs cells slots Q (F0 m pc ls (.ref (g.2.2.2 26) :: rest)) := r_get t_Readings_in (ci := 1) rfl 26 (by decide) rfl 0 (by decide) rfl rfl C hW hP hl hdg kk
theorem gf_26_1 (C : CallFix p m c cc nL s args TG own) (hW : WK g s) (hP : WP g M H) {index : Nat} (hl : Cond.fieldLink own index N_Readings (T_Readings 1).2.1 (T_Readings 1).2.2.1 ∈ TG) (hdg : decode cc pc = .ok (.getfield index, 3)) (kk : W p l e R s m args below meth c H locs cells slots Q (F0 m (pc + 3) ls (.ref (g.2.2.2 18) :: rest))) : W p l e R s m args below meth c H locs cells slots Q (F0 m pc ls (.ref (g.2.2.2 26) :: rest)) := r_get t_Readings_in (ci := 1) rfl 26 (by decide) rfl 1 (by decide) rfl rfl C hW hP hl hdg kk
theorem gf_26_2 (C : CallFix p m c cc nL s args TG own) (hW : WK g s) (hP : WP g M H) {index : Nat} (hl : Cond.fieldLink own index N_Readings (T_Readings 2).2.1 (T_Readings 2).2.2.1 ∈ TG) (hdg : decode cc pc = .ok (.getfield index, 3)) (kk : W p l e R s m args below meth c H locs cells slots Q (F0 m (pc + 3) ls (.ref (g.2.2.2 27) :: rest))) : W p l e R s m args below meth c H locs cells slots Q (F0 m pc ls (.ref (g.2.2.2 26) :: rest)) := r_get t_Readings_in (ci := 1) rfl 26 (by decide) rfl 2 (by decide) rfl rfl C hW hP hl hdg kk
theorem gf_26_3 (C : CallFix p m c cc nL s args TG own) (hW : WK g s) (hP : WP g M H) {index : Nat} (hl : Cond.fieldLink own index N_Readings (T_Readings 3).2.1 (T_Readings 3).2.2.1 ∈ TG) (hdg : decode cc pc = .ok (.getfield index, 3)) (kk : W p l e R s m args below meth c H locs cells slots Q (F0 m (pc + 3) ls (.ref (g.2.2.2 28) :: rest))) : W p l e R s m args below meth c H locs cells slots Q (F0 m pc ls (.ref (g.2.2.2 26) :: rest)) := r_get t_Readings_in (ci := 1) rfl 26 (by decide) rfl 3 (by decide) rfl rfl C hW hP hl hdg kk
theorem gf_26_4 (C : CallFix p m c cc nL s args TG own) (hW : WK g s) (hP : WP g M H) {index : Nat} (hl : Cond.fieldLink own index N_Readings (T_Readings 4).2.1 (T_Readings 4).2.2.1 ∈ TG) (hdg : decode cc pc = .ok (.getfield index, 3)) (kk : W p l e R s m args below meth c H locs cells slots Q (F0 m (pc + 3) ls (.int (M 26 4) :: rest))) : W p l e R s m args below meth c H locs cells slots Q (F0 m pc ls (.ref (g.2.2.2 26) :: rest)) := r_get t_Readings_in (ci := 1) rfl 26 (by decide) rfl 4 (by decide) rfl rfl C hW hP hl hdg kk
theorem pf_26_4 {v : Int32} (hI : WI g) (C : CallFix p m c cc nL s args TG own) (hW : WK g s) (hP : WP g M H) (hS : va_S (AW g) H0 H locs) {index : Nat} (hl : Cond.fieldLink own index N_Readings (T_Readings 4).2.1 (T_Readings 4).2.2.1 ∈ TG) (hdg : decode cc pc = .ok (.putfield index, 3)) (kk : ∀ (M1 : Mem), M1 = mset M 26 4 v → ∀ (H1 : Heap) (locs1 : List Loc), WP g M1 H1 → va_S (AW g) H0 H1 locs1 → W p l e R s m args below meth c H1 locs1 cells slots Q (F0 m (pc + 3) ls rest)) : W p l e R s m args below meth c H locs cells slots Q (F0 m pc ls (.int v :: .ref (g.2.2.2 26) :: rest)) := r_put t_Readings_in y_Readings_t t_Readings_ok t_Readings_nm (ci := 1) rfl 26 (by decide) rfl 4 (by decide) rfl rfl (ty := .int) (by decide +kernel) rfl rfl (by simp) rfl hI C hW hP hS hl hdg (fun H1 locs1 hP1 hS1 => kk _ rfl H1 locs1 hP1 hS1)
theorem gf_26_5 (C : CallFix p m c cc nL s args TG own) (hW : WK g s) (hP : WP g M H) {index : Nat} (hl : Cond.fieldLink own index N_Readings (T_Readings 5).2.1 (T_Readings 5).2.2.1 ∈ TG) (hdg : decode cc pc = .ok (.getfield index, 3)) (kk : W p l e R s m args below meth c H locs cells slots Q (F0 m (pc + 3) ls (.int (M 26 5) :: rest))) : W p l e R s m args below meth c H locs cells slots Q (F0 m pc ls (.ref (g.2.2.2 26) :: rest)) := r_get t_Readings_in (ci := 1) rfl 26 (by decide) rfl 5 (by decide) rfl rfl C hW hP hl hdg kk
theorem pf_26_5 {v : Int32} (hI : WI g) (C : CallFix p m c cc nL s args TG own) (hW : WK g s) (hP : WP g M H) (hS : va_S (AW g) H0 H locs) {index : Nat} (hl : Cond.fieldLink own index N_Readings (T_Readings 5).2.1 (T_Readings 5).2.2.1 ∈ TG) (hdg : decode cc pc = .ok (.putfield index, 3)) (kk : ∀ (M1 : Mem), M1 = mset M 26 5 v → ∀ (H1 : Heap) (locs1 : List Loc), WP g M1 H1 → va_S (AW g) H0 H1 locs1 → W p l e R s m args below meth c H1 locs1 cells slots Q (F0 m (pc + 3) ls rest)) : W p l e R s m args below meth c H locs cells slots Q (F0 m pc ls (.int v :: .ref (g.2.2.2 26) :: rest)) := r_put t_Readings_in y_Readings_t t_Readings_ok t_Readings_nm (ci := 1) rfl 26 (by decide) rfl 5 (by decide) rfl rfl (ty := .int) (by decide +kernel) rfl rfl (by simp) rfl hI C hW hP hS hl hdg (fun H1 locs1 hP1 hS1 => kk _ rfl H1 locs1 hP1 hS1)
theorem gf_26_6 (C : CallFix p m c cc nL s args TG own) (hW : WK g s) (hP : WP g M H) {index : Nat} (hl : Cond.fieldLink own index N_Readings (T_Readings 6).2.1 (T_Readings 6).2.2.1 ∈ TG) (hdg : decode cc pc = .ok (.getfield index, 3)) (kk : W p l e R s m args below meth c H locs cells slots Q (F0 m (pc + 3) ls (.int (M 26 6) :: rest))) : W p l e R s m args below meth c H locs cells slots Q (F0 m pc ls (.ref (g.2.2.2 26) :: rest)) := r_get t_Readings_in (ci := 1) rfl 26 (by decide) rfl 6 (by decide) rfl rfl C hW hP hl hdg kk
theorem pf_26_6 {v : Int32} (hI : WI g) (C : CallFix p m c cc nL s args TG own) (hW : WK g s) (hP : WP g M H) (hS : va_S (AW g) H0 H locs) {index : Nat} (hl : Cond.fieldLink own index N_Readings (T_Readings 6).2.1 (T_Readings 6).2.2.1 ∈ TG) (hdg : decode cc pc = .ok (.putfield index, 3)) (kk : ∀ (M1 : Mem), M1 = mset M 26 6 v → ∀ (H1 : Heap) (locs1 : List Loc), WP g M1 H1 → va_S (AW g) H0 H1 locs1 → W p l e R s m args below meth c H1 locs1 cells slots Q (F0 m (pc + 3) ls rest)) : W p l e R s m args below meth c H locs cells slots Q (F0 m pc ls (.int v :: .ref (g.2.2.2 26) :: rest)) := r_put t_Readings_in y_Readings_t t_Readings_ok t_Readings_nm (ci := 1) rfl 26 (by decide) rfl 6 (by decide) rfl rfl (ty := .int) (by decide +kernel) rfl rfl (by simp) rfl hI C hW hP hS hl hdg (fun H1 locs1 hP1 hS1 => kk _ rfl H1 locs1 hP1 hS1)
theorem io_29 (g : GG) (M : Mem) : IsOb g M 29 9 N_Model := ⟨by decide, ⟨_, rfl⟩, _, rfl⟩
theorem gf_29_0 (C : CallFix p m c cc nL s args TG own) (hW : WK g s) (hP : WP g M H) {index : Nat} (hl : Cond.fieldLink own index N_Model (T_Model 0).2.1 (T_Model 0).2.2.1 ∈ TG) (hdg : decode cc pc = .ok (.getfield index, 3)) (kk : W p l e R s m args below meth c H locs cells slots Q (F0 m (pc + 3) ls (.int (M 29 0) :: rest))) : W p l e R s m args below meth c H locs cells slots Q (F0 m pc ls (.ref (g.2.2.2 29) :: rest)) := r_get t_Model_in (ci := 9) rfl 29 (by decide) rfl 0 (by decide) rfl rfl C hW hP hl hdg kk
theorem pf_29_0 {v : Int32} (hI : WI g) (C : CallFix p m c cc nL s args TG own) (hW : WK g s) (hP : WP g M H) (hS : va_S (AW g) H0 H locs) {index : Nat} (hl : Cond.fieldLink own index N_Model (T_Model 0).2.1 (T_Model 0).2.2.1 ∈ TG) (hdg : decode cc pc = .ok (.putfield index, 3)) (kk : ∀ (M1 : Mem), M1 = mset M 29 0 v → ∀ (H1 : Heap) (locs1 : List Loc), WP g M1 H1 → va_S (AW g) H0 H1 locs1 → W p l e R s m args below meth c H1 locs1 cells slots Q (F0 m (pc + 3) ls rest)) : W p l e R s m args below meth c H locs cells slots Q (F0 m pc ls (.int v :: .ref (g.2.2.2 29) :: rest)) := r_put t_Model_in y_Model_t t_Model_ok t_Model_nm (ci := 9) rfl 29 (by decide) rfl 0 (by decide) rfl rfl (ty := .int) (by decide +kernel) rfl rfl (by simp) rfl hI C hW hP hS hl hdg (fun H1 locs1 hP1 hS1 => kk _ rfl H1 locs1 hP1 hS1)
theorem gf_29_1 (C : CallFix p m c cc nL s args TG own) (hW : WK g s) (hP : WP g M H) {index : Nat} (hl : Cond.fieldLink own index N_Model (T_Model 1).2.1 (T_Model 1).2.2.1 ∈ TG) (hdg : decode cc pc = .ok (.getfield index, 3)) (kk : W p l e R s m args below meth c H locs cells slots Q (F0 m (pc + 3) ls (.int (M 29 1) :: rest))) : W p l e R s m args below meth c H locs cells slots Q (F0 m pc ls (.ref (g.2.2.2 29) :: rest)) := r_get t_Model_in (ci := 9) rfl 29 (by decide) rfl 1 (by decide) rfl rfl C hW hP hl hdg kk
theorem pf_29_1 {v : Int32} (hI : WI g) (C : CallFix p m c cc nL s args TG own) (hW : WK g s) (hP : WP g M H) (hS : va_S (AW g) H0 H locs) {index : Nat} (hl : Cond.fieldLink own index N_Model (T_Model 1).2.1 (T_Model 1).2.2.1 ∈ TG) (hdg : decode cc pc = .ok (.putfield index, 3)) (kk : ∀ (M1 : Mem), M1 = mset M 29 1 v → ∀ (H1 : Heap) (locs1 : List Loc), WP g M1 H1 → va_S (AW g) H0 H1 locs1 → W p l e R s m args below meth c H1 locs1 cells slots Q (F0 m (pc + 3) ls rest)) : W p l e R s m args below meth c H locs cells slots Q (F0 m pc ls (.int v :: .ref (g.2.2.2 29) :: rest)) := r_put t_Model_in y_Model_t t_Model_ok t_Model_nm (ci := 9) rfl 29 (by decide) rfl 1 (by decide) rfl rfl (ty := .int) (by decide +kernel) rfl rfl (by simp) rfl hI C hW hP hS hl hdg (fun H1 locs1 hP1 hS1 => kk _ rfl H1 locs1 hP1 hS1)
theorem gf_29_2 (C : CallFix p m c cc nL s args TG own) (hW : WK g s) (hP : WP g M H) {index : Nat} (hl : Cond.fieldLink own index N_Model (T_Model 2).2.1 (T_Model 2).2.2.1 ∈ TG) (hdg : decode cc pc = .ok (.getfield index, 3)) (kk : W p l e R s m args below meth c H locs cells slots Q (F0 m (pc + 3) ls (.ref (g.2.2.2 30) :: rest))) : W p l e R s m args below meth c H locs cells slots Q (F0 m pc ls (.ref (g.2.2.2 29) :: rest)) := r_get t_Model_in (ci := 9) rfl 29 (by decide) rfl 2 (by decide) rfl rfl C hW hP hl hdg kk
theorem gf_29_3 (C : CallFix p m c cc nL s args TG own) (hW : WK g s) (hP : WP g M H) {index : Nat} (hl : Cond.fieldLink own index N_Model (T_Model 3).2.1 (T_Model 3).2.2.1 ∈ TG) (hdg : decode cc pc = .ok (.getfield index, 3)) (kk : W p l e R s m args below meth c H locs cells slots Q (F0 m (pc + 3) ls (.ref (g.2.2.2 31) :: rest))) : W p l e R s m args below meth c H locs cells slots Q (F0 m pc ls (.ref (g.2.2.2 29) :: rest)) := r_get t_Model_in (ci := 9) rfl 29 (by decide) rfl 3 (by decide) rfl rfl C hW hP hl hdg kk
theorem gf_29_4 (C : CallFix p m c cc nL s args TG own) (hW : WK g s) (hP : WP g M H) {index : Nat} (hl : Cond.fieldLink own index N_Model (T_Model 4).2.1 (T_Model 4).2.2.1 ∈ TG) (hdg : decode cc pc = .ok (.getfield index, 3)) (kk : W p l e R s m args below meth c H locs cells slots Q (F0 m (pc + 3) ls (.ref (g.2.2.2 32) :: rest))) : W p l e R s m args below meth c H locs cells slots Q (F0 m pc ls (.ref (g.2.2.2 29) :: rest)) := r_get t_Model_in (ci := 9) rfl 29 (by decide) rfl 4 (by decide) rfl rfl C hW hP hl hdg kk
theorem gf_29_5 (C : CallFix p m c cc nL s args TG own) (hW : WK g s) (hP : WP g M H) {index : Nat} (hl : Cond.fieldLink own index N_Model (T_Model 5).2.1 (T_Model 5).2.2.1 ∈ TG) (hdg : decode cc pc = .ok (.getfield index, 3)) (kk : W p l e R s m args below meth c H locs cells slots Q (F0 m (pc + 3) ls (.int (M 29 5) :: rest))) : W p l e R s m args below meth c H locs cells slots Q (F0 m pc ls (.ref (g.2.2.2 29) :: rest)) := r_get t_Model_in (ci := 9) rfl 29 (by decide) rfl 5 (by decide) rfl rfl C hW hP hl hdg kk
theorem pf_29_5 {v : Int32} (hI : WI g) (C : CallFix p m c cc nL s args TG own) (hW : WK g s) (hP : WP g M H) (hS : va_S (AW g) H0 H locs) {index : Nat} (hl : Cond.fieldLink own index N_Model (T_Model 5).2.1 (T_Model 5).2.2.1 ∈ TG) (hdg : decode cc pc = .ok (.putfield index, 3)) (kk : ∀ (M1 : Mem), M1 = mset M 29 5 v → ∀ (H1 : Heap) (locs1 : List Loc), WP g M1 H1 → va_S (AW g) H0 H1 locs1 → W p l e R s m args below meth c H1 locs1 cells slots Q (F0 m (pc + 3) ls rest)) : W p l e R s m args below meth c H locs cells slots Q (F0 m pc ls (.int v :: .ref (g.2.2.2 29) :: rest)) := r_put t_Model_in y_Model_t t_Model_ok t_Model_nm (ci := 9) rfl 29 (by decide) rfl 5 (by decide) rfl rfl (ty := .int) (by decide +kernel) rfl rfl (by simp) rfl hI C hW hP hS hl hdg (fun H1 locs1 hP1 hS1 => kk _ rfl H1 locs1 hP1 hS1)
theorem gf_29_6 (C : CallFix p m c cc nL s args TG own) (hW : WK g s) (hP : WP g M H) {index : Nat} (hl : Cond.fieldLink own index N_Model (T_Model 6).2.1 (T_Model 6).2.2.1 ∈ TG) (hdg : decode cc pc = .ok (.getfield index, 3)) (kk : W p l e R s m args below meth c H locs cells slots Q (F0 m (pc + 3) ls (.int (M 29 6) :: rest))) : W p l e R s m args below meth c H locs cells slots Q (F0 m pc ls (.ref (g.2.2.2 29) :: rest)) := r_get t_Model_in (ci := 9) rfl 29 (by decide) rfl 6 (by decide) rfl rfl C hW hP hl hdg kk
theorem pf_29_6 {v : Int32} (hI : WI g) (C : CallFix p m c cc nL s args TG own) (hW : WK g s) (hP : WP g M H) (hS : va_S (AW g) H0 H locs) {index : Nat} (hl : Cond.fieldLink own index N_Model (T_Model 6).2.1 (T_Model 6).2.2.1 ∈ TG) (hdg : decode cc pc = .ok (.putfield index, 3)) (kk : ∀ (M1 : Mem), M1 = mset M 29 6 v → ∀ (H1 : Heap) (locs1 : List Loc), WP g M1 H1 → va_S (AW g) H0 H1 locs1 → W p l e R s m args below meth c H1 locs1 cells slots Q (F0 m (pc + 3) ls rest)) : W p l e R s m args below meth c H locs cells slots Q (F0 m pc ls (.int v :: .ref (g.2.2.2 29) :: rest)) := r_put t_Model_in y_Model_t t_Model_ok t_Model_nm (ci := 9) rfl 29 (by decide) rfl 6 (by decide) rfl rfl (ty := .int) (by decide +kernel) rfl rfl (by simp) rfl hI C hW hP hS hl hdg (fun H1 locs1 hP1 hS1 => kk _ rfl H1 locs1 hP1 hS1)
theorem gf_29_7 (C : CallFix p m c cc nL s args TG own) (hW : WK g s) (hP : WP g M H) {index : Nat} (hl : Cond.fieldLink own index N_Model (T_Model 7).2.1 (T_Model 7).2.2.1 ∈ TG) (hdg : decode cc pc = .ok (.getfield index, 3)) (kk : W p l e R s m args below meth c H locs cells slots Q (F0 m (pc + 3) ls (.ref (g.2.2.2 33) :: rest))) : W p l e R s m args below meth c H locs cells slots Q (F0 m pc ls (.ref (g.2.2.2 29) :: rest)) := r_get t_Model_in (ci := 9) rfl 29 (by decide) rfl 7 (by decide) rfl rfl C hW hP hl hdg kk
theorem gf_29_8 (C : CallFix p m c cc nL s args TG own) (hW : WK g s) (hP : WP g M H) {index : Nat} (hl : Cond.fieldLink own index N_Model (T_Model 8).2.1 (T_Model 8).2.2.1 ∈ TG) (hdg : decode cc pc = .ok (.getfield index, 3)) (kk : W p l e R s m args below meth c H locs cells slots Q (F0 m (pc + 3) ls (.ref (g.2.2.2 34) :: rest))) : W p l e R s m args below meth c H locs cells slots Q (F0 m pc ls (.ref (g.2.2.2 29) :: rest)) := r_get t_Model_in (ci := 9) rfl 29 (by decide) rfl 8 (by decide) rfl rfl C hW hP hl hdg kk
theorem gf_29_9 (C : CallFix p m c cc nL s args TG own) (hW : WK g s) (hP : WP g M H) {index : Nat} (hl : Cond.fieldLink own index N_Model (T_Model 9).2.1 (T_Model 9).2.2.1 ∈ TG) (hdg : decode cc pc = .ok (.getfield index, 3)) (kk : W p l e R s m args below meth c H locs cells slots Q (F0 m (pc + 3) ls (.ref (g.2.2.2 35) :: rest))) : W p l e R s m args below meth c H locs cells slots Q (F0 m pc ls (.ref (g.2.2.2 29) :: rest)) := r_get t_Model_in (ci := 9) rfl 29 (by decide) rfl 9 (by decide) rfl rfl C hW hP hl hdg kk
theorem gf_29_10 (C : CallFix p m c cc nL s args TG own) (hW : WK g s) (hP : WP g M H) {index : Nat} (hl : Cond.fieldLink own index N_Model (T_Model 10).2.1 (T_Model 10).2.2.1 ∈ TG) (hdg : decode cc pc = .ok (.getfield index, 3)) (kk : W p l e R s m args below meth c H locs cells slots Q (F0 m (pc + 3) ls (.ref (g.2.2.2 36) :: rest))) : W p l e R s m args below meth c H locs cells slots Q (F0 m pc ls (.ref (g.2.2.2 29) :: rest)) := r_get t_Model_in (ci := 9) rfl 29 (by decide) rfl 10 (by decide) rfl rfl C hW hP hl hdg kk
theorem gf_29_11 (C : CallFix p m c cc nL s args TG own) (hW : WK g s) (hP : WP g M H) {index : Nat} (hl : Cond.fieldLink own index N_Model (T_Model 11).2.1 (T_Model 11).2.2.1 ∈ TG) (hdg : decode cc pc = .ok (.getfield index, 3)) (kk : W p l e R s m args below meth c H locs cells slots Q (F0 m (pc + 3) ls (.ref (g.2.2.2 37) :: rest))) : W p l e R s m args below meth c H locs cells slots Q (F0 m pc ls (.ref (g.2.2.2 29) :: rest)) := r_get t_Model_in (ci := 9) rfl 29 (by decide) rfl 11 (by decide) rfl rfl C hW hP hl hdg kk
theorem gf_29_12 (C : CallFix p m c cc nL s args TG own) (hW : WK g s) (hP : WP g M H) {index : Nat} (hl : Cond.fieldLink own index N_Model (T_Model 12).2.1 (T_Model 12).2.2.1 ∈ TG) (hdg : decode cc pc = .ok (.getfield index, 3)) (kk : W p l e R s m args below meth c H locs cells slots Q (F0 m (pc + 3) ls (.int (M 29 12) :: rest))) : W p l e R s m args below meth c H locs cells slots Q (F0 m pc ls (.ref (g.2.2.2 29) :: rest)) := r_get t_Model_in (ci := 9) rfl 29 (by decide) rfl 12 (by decide) rfl rfl C hW hP hl hdg kk
theorem pf_29_12 {v : Int32} (hI : WI g) (C : CallFix p m c cc nL s args TG own) (hW : WK g s) (hP : WP g M H) (hS : va_S (AW g) H0 H locs) {index : Nat} (hl : Cond.fieldLink own index N_Model (T_Model 12).2.1 (T_Model 12).2.2.1 ∈ TG) (hdg : decode cc pc = .ok (.putfield index, 3)) (kk : ∀ (M1 : Mem), M1 = mset M 29 12 v → ∀ (H1 : Heap) (locs1 : List Loc), WP g M1 H1 → va_S (AW g) H0 H1 locs1 → W p l e R s m args below meth c H1 locs1 cells slots Q (F0 m (pc + 3) ls rest)) : W p l e R s m args below meth c H locs cells slots Q (F0 m pc ls (.int v :: .ref (g.2.2.2 29) :: rest)) := r_put t_Model_in y_Model_t t_Model_ok t_Model_nm (ci := 9) rfl 29 (by decide) rfl 12 (by decide) rfl rfl (ty := .int) (by decide +kernel) rfl rfl (by simp) rfl hI C hW hP hS hl hdg (fun H1 locs1 hP1 hS1 => kk _ rfl H1 locs1 hP1 hS1)
theorem gf_29_13 (C : CallFix p m c cc nL s args TG own) (hW : WK g s) (hP : WP g M H) {index : Nat} (hl : Cond.fieldLink own index N_Model (T_Model 13).2.1 (T_Model 13).2.2.1 ∈ TG) (hdg : decode cc pc = .ok (.getfield index, 3)) (kk : W p l e R s m args below meth c H locs cells slots Q (F0 m (pc + 3) ls (.int (M 29 13) :: rest))) : W p l e R s m args below meth c H locs cells slots Q (F0 m pc ls (.ref (g.2.2.2 29) :: rest)) := r_get t_Model_in (ci := 9) rfl 29 (by decide) rfl 13 (by decide) rfl rfl C hW hP hl hdg kk
theorem pf_29_13 {v : Int32} (hI : WI g) (C : CallFix p m c cc nL s args TG own) (hW : WK g s) (hP : WP g M H) (hS : va_S (AW g) H0 H locs) {index : Nat} (hl : Cond.fieldLink own index N_Model (T_Model 13).2.1 (T_Model 13).2.2.1 ∈ TG) (hdg : decode cc pc = .ok (.putfield index, 3)) (kk : ∀ (M1 : Mem), M1 = mset M 29 13 v → ∀ (H1 : Heap) (locs1 : List Loc), WP g M1 H1 → va_S (AW g) H0 H1 locs1 → W p l e R s m args below meth c H1 locs1 cells slots Q (F0 m (pc + 3) ls rest)) : W p l e R s m args below meth c H locs cells slots Q (F0 m pc ls (.int v :: .ref (g.2.2.2 29) :: rest)) := r_put t_Model_in y_Model_t t_Model_ok t_Model_nm (ci := 9) rfl 29 (by decide) rfl 13 (by decide) rfl rfl (ty := .int) (by decide +kernel) rfl rfl (by simp) rfl hI C hW hP hS hl hdg (fun H1 locs1 hP1 hS1 => kk _ rfl H1 locs1 hP1 hS1)
theorem gf_29_14 (C : CallFix p m c cc nL s args TG own) (hW : WK g s) (hP : WP g M H) {index : Nat} (hl : Cond.fieldLink own index N_Model (T_Model 14).2.1 (T_Model 14).2.2.1 ∈ TG) (hdg : decode cc pc = .ok (.getfield index, 3)) (kk : W p l e R s m args below meth c H locs cells slots Q (F0 m (pc + 3) ls (.int (M 29 14) :: rest))) : W p l e R s m args below meth c H locs cells slots Q (F0 m pc ls (.ref (g.2.2.2 29) :: rest)) := r_get t_Model_in (ci := 9) rfl 29 (by decide) rfl 14 (by decide) rfl rfl C hW hP hl hdg kk
theorem pf_29_14 {v : Int32} (hI : WI g) (C : CallFix p m c cc nL s args TG own) (hW : WK g s) (hP : WP g M H) (hS : va_S (AW g) H0 H locs) {index : Nat} (hl : Cond.fieldLink own index N_Model (T_Model 14).2.1 (T_Model 14).2.2.1 ∈ TG) (hdg : decode cc pc = .ok (.putfield index, 3)) (kk : ∀ (M1 : Mem), M1 = mset M 29 14 v → ∀ (H1 : Heap) (locs1 : List Loc), WP g M1 H1 → va_S (AW g) H0 H1 locs1 → W p l e R s m args below meth c H1 locs1 cells slots Q (F0 m (pc + 3) ls rest)) : W p l e R s m args below meth c H locs cells slots Q (F0 m pc ls (.int v :: .ref (g.2.2.2 29) :: rest)) := r_put t_Model_in y_Model_t t_Model_ok t_Model_nm (ci := 9) rfl 29 (by decide) rfl 14 (by decide) rfl rfl (ty := .int) (by decide +kernel) rfl rfl (by simp) rfl hI C hW hP hS hl hdg (fun H1 locs1 hP1 hS1 => kk _ rfl H1 locs1 hP1 hS1)
theorem gf_29_15 (C : CallFix p m c cc nL s args TG own) (hW : WK g s) (hP : WP g M H) {index : Nat} (hl : Cond.fieldLink own index N_Model (T_Model 15).2.1 (T_Model 15).2.2.1 ∈ TG) (hdg : decode cc pc = .ok (.getfield index, 3)) (kk : W p l e R s m args below meth c H locs cells slots Q (F0 m (pc + 3) ls (.int (M 29 15) :: rest))) : W p l e R s m args below meth c H locs cells slots Q (F0 m pc ls (.ref (g.2.2.2 29) :: rest)) := r_get t_Model_in (ci := 9) rfl 29 (by decide) rfl 15 (by decide) rfl rfl C hW hP hl hdg kk
theorem pf_29_15 {v : Int32} (hI : WI g) (C : CallFix p m c cc nL s args TG own) (hW : WK g s) (hP : WP g M H) (hS : va_S (AW g) H0 H locs) {index : Nat} (hl : Cond.fieldLink own index N_Model (T_Model 15).2.1 (T_Model 15).2.2.1 ∈ TG) (hdg : decode cc pc = .ok (.putfield index, 3)) (kk : ∀ (M1 : Mem), M1 = mset M 29 15 v → ∀ (H1 : Heap) (locs1 : List Loc), WP g M1 H1 → va_S (AW g) H0 H1 locs1 → W p l e R s m args below meth c H1 locs1 cells slots Q (F0 m (pc + 3) ls rest)) : W p l e R s m args below meth c H locs cells slots Q (F0 m pc ls (.int v :: .ref (g.2.2.2 29) :: rest)) := r_put t_Model_in y_Model_t t_Model_ok t_Model_nm (ci := 9) rfl 29 (by decide) rfl 15 (by decide) rfl rfl (ty := .int) (by decide +kernel) rfl rfl (by simp) rfl hI C hW hP hS hl hdg (fun H1 locs1 hP1 hS1 => kk _ rfl H1 locs1 hP1 hS1)
theorem gf_29_16 (C : CallFix p m c cc nL s args TG own) (hW : WK g s) (hP : WP g M H) {index : Nat} (hl : Cond.fieldLink own index N_Model (T_Model 16).2.1 (T_Model 16).2.2.1 ∈ TG) (hdg : decode cc pc = .ok (.getfield index, 3)) (kk : W p l e R s m args below meth c H locs cells slots Q (F0 m (pc + 3) ls (.ref (g.2.2.2 38) :: rest))) : W p l e R s m args below meth c H locs cells slots Q (F0 m pc ls (.ref (g.2.2.2 29) :: rest)) := r_get t_Model_in (ci := 9) rfl 29 (by decide) rfl 16 (by decide) rfl rfl C hW hP hl hdg kk
theorem gf_29_17 (C : CallFix p m c cc nL s args TG own) (hW : WK g s) (hP : WP g M H) {index : Nat} (hl : Cond.fieldLink own index N_Model (T_Model 17).2.1 (T_Model 17).2.2.1 ∈ TG) (hdg : decode cc pc = .ok (.getfield index, 3)) (kk : W p l e R s m args below meth c H locs cells slots Q (F0 m (pc + 3) ls (.ref (g.2.2.2 39) :: rest))) : W p l e R s m args below meth c H locs cells slots Q (F0 m pc ls (.ref (g.2.2.2 29) :: rest)) := r_get t_Model_in (ci := 9) rfl 29 (by decide) rfl 17 (by decide) rfl rfl C hW hP hl hdg kk
theorem gf_29_18 (C : CallFix p m c cc nL s args TG own) (hW : WK g s) (hP : WP g M H) {index : Nat} (hl : Cond.fieldLink own index N_Model (T_Model 18).2.1 (T_Model 18).2.2.1 ∈ TG) (hdg : decode cc pc = .ok (.getfield index, 3)) (kk : W p l e R s m args below meth c H locs cells slots Q (F0 m (pc + 3) ls (.int (M 29 18) :: rest))) : W p l e R s m args below meth c H locs cells slots Q (F0 m pc ls (.ref (g.2.2.2 29) :: rest)) := r_get t_Model_in (ci := 9) rfl 29 (by decide) rfl 18 (by decide) rfl rfl C hW hP hl hdg kk
theorem pf_29_18 {v : Int32} (hI : WI g) (C : CallFix p m c cc nL s args TG own) (hW : WK g s) (hP : WP g M H) (hS : va_S (AW g) H0 H locs) {index : Nat} (hl : Cond.fieldLink own index N_Model (T_Model 18).2.1 (T_Model 18).2.2.1 ∈ TG) (hdg : decode cc pc = .ok (.putfield index, 3)) (kk : ∀ (M1 : Mem), M1 = mset M 29 18 v → ∀ (H1 : Heap) (locs1 : List Loc), WP g M1 H1 → va_S (AW g) H0 H1 locs1 → W p l e R s m args below meth c H1 locs1 cells slots Q (F0 m (pc + 3) ls rest)) : W p l e R s m args below meth c H locs cells slots Q (F0 m pc ls (.int v :: .ref (g.2.2.2 29) :: rest)) := r_put t_Model_in y_Model_t t_Model_ok t_Model_nm (ci := 9) rfl 29 (by decide) rfl 18 (by decide) rfl rfl (ty := .int) (by decide +kernel) rfl rfl (by simp) rfl hI C hW hP hS hl hdg (fun H1 locs1 hP1 hS1 => kk _ rfl H1 locs1 hP1 hS1)
theorem gf_29_19 (C : CallFix p m c cc nL s args TG own) (hW : WK g s) (hP : WP g M H) {index : Nat} (hl : Cond.fieldLink own index N_Model (T_Model 19).2.1 (T_Model 19).2.2.1 ∈ TG) (hdg : decode cc pc = .ok (.getfield index, 3)) (kk : W p l e R s m args below meth c H locs cells slots Q (F0 m (pc + 3) ls (.ref (g.2.2.2 40) :: rest))) : W p l e R s m args below meth c H locs cells slots Q (F0 m pc ls (.ref (g.2.2.2 29) :: rest)) := r_get t_Model_in (ci := 9) rfl 29 (by decide) rfl 19 (by decide) rfl rfl C hW hP hl hdg kk
theorem gf_29_20 (C : CallFix p m c cc nL s args TG own) (hW : WK g s) (hP : WP g M H) {index : Nat} (hl : Cond.fieldLink own index N_Model (T_Model 20).2.1 (T_Model 20).2.2.1 ∈ TG) (hdg : decode cc pc = .ok (.getfield index, 3)) (kk : W p l e R s m args below meth c H locs cells slots Q (F0 m (pc + 3) ls (.ref (g.2.2.2 41) :: rest))) : W p l e R s m args below meth c H locs cells slots Q (F0 m pc ls (.ref (g.2.2.2 29) :: rest)) := r_get t_Model_in (ci := 9) rfl 29 (by decide) rfl 20 (by decide) rfl rfl C hW hP hl hdg kk
theorem gf_29_21 (C : CallFix p m c cc nL s args TG own) (hW : WK g s) (hP : WP g M H) {index : Nat} (hl : Cond.fieldLink own index N_Model (T_Model 21).2.1 (T_Model 21).2.2.1 ∈ TG) (hdg : decode cc pc = .ok (.getfield index, 3)) (kk : W p l e R s m args below meth c H locs cells slots Q (F0 m (pc + 3) ls (.ref (g.2.2.2 42) :: rest))) : W p l e R s m args below meth c H locs cells slots Q (F0 m pc ls (.ref (g.2.2.2 29) :: rest)) := r_get t_Model_in (ci := 9) rfl 29 (by decide) rfl 21 (by decide) rfl rfl C hW hP hl hdg kk
theorem gf_29_22 (C : CallFix p m c cc nL s args TG own) (hW : WK g s) (hP : WP g M H) {index : Nat} (hl : Cond.fieldLink own index N_Model (T_Model 22).2.1 (T_Model 22).2.2.1 ∈ TG) (hdg : decode cc pc = .ok (.getfield index, 3)) (kk : W p l e R s m args below meth c H locs cells slots Q (F0 m (pc + 3) ls (.ref (g.2.2.2 43) :: rest))) : W p l e R s m args below meth c H locs cells slots Q (F0 m pc ls (.ref (g.2.2.2 29) :: rest)) := r_get t_Model_in (ci := 9) rfl 29 (by decide) rfl 22 (by decide) rfl rfl C hW hP hl hdg kk
theorem gf_29_23 (C : CallFix p m c cc nL s args TG own) (hW : WK g s) (hP : WP g M H) {index : Nat} (hl : Cond.fieldLink own index N_Model (T_Model 23).2.1 (T_Model 23).2.2.1 ∈ TG) (hdg : decode cc pc = .ok (.getfield index, 3)) (kk : W p l e R s m args below meth c H locs cells slots Q (F0 m (pc + 3) ls (.int (M 29 23) :: rest))) : W p l e R s m args below meth c H locs cells slots Q (F0 m pc ls (.ref (g.2.2.2 29) :: rest)) := r_get t_Model_in (ci := 9) rfl 29 (by decide) rfl 23 (by decide) rfl rfl C hW hP hl hdg kk
theorem pf_29_23 {v : Int32} (hI : WI g) (C : CallFix p m c cc nL s args TG own) (hW : WK g s) (hP : WP g M H) (hS : va_S (AW g) H0 H locs) {index : Nat} (hl : Cond.fieldLink own index N_Model (T_Model 23).2.1 (T_Model 23).2.2.1 ∈ TG) (hdg : decode cc pc = .ok (.putfield index, 3)) (kk : ∀ (M1 : Mem), M1 = mset M 29 23 v → ∀ (H1 : Heap) (locs1 : List Loc), WP g M1 H1 → va_S (AW g) H0 H1 locs1 → W p l e R s m args below meth c H1 locs1 cells slots Q (F0 m (pc + 3) ls rest)) : W p l e R s m args below meth c H locs cells slots Q (F0 m pc ls (.int v :: .ref (g.2.2.2 29) :: rest)) := r_put t_Model_in y_Model_t t_Model_ok t_Model_nm (ci := 9) rfl 29 (by decide) rfl 23 (by decide) rfl rfl (ty := .int) (by decide +kernel) rfl rfl (by simp) rfl hI C hW hP hS hl hdg (fun H1 locs1 hP1 hS1 => kk _ rfl H1 locs1 hP1 hS1)
theorem gf_29_24 (C : CallFix p m c cc nL s args TG own) (hW : WK g s) (hP : WP g M H) {index : Nat} (hl : Cond.fieldLink own index N_Model (T_Model 24).2.1 (T_Model 24).2.2.1 ∈ TG) (hdg : decode cc pc = .ok (.getfield index, 3)) (kk : W p l e R s m args below meth c H locs cells slots Q (F0 m (pc + 3) ls (.ref (g.2.2.2 44) :: rest))) : W p l e R s m args below meth c H locs cells slots Q (F0 m pc ls (.ref (g.2.2.2 29) :: rest)) := r_get t_Model_in (ci := 9) rfl 29 (by decide) rfl 24 (by decide) rfl rfl C hW hP hl hdg kk
theorem gf_29_25 (C : CallFix p m c cc nL s args TG own) (hW : WK g s) (hP : WP g M H) {index : Nat} (hl : Cond.fieldLink own index N_Model (T_Model 25).2.1 (T_Model 25).2.2.1 ∈ TG) (hdg : decode cc pc = .ok (.getfield index, 3)) (kk : W p l e R s m args below meth c H locs cells slots Q (F0 m (pc + 3) ls (.ref (g.2.2.2 45) :: rest))) : W p l e R s m args below meth c H locs cells slots Q (F0 m pc ls (.ref (g.2.2.2 29) :: rest)) := r_get t_Model_in (ci := 9) rfl 29 (by decide) rfl 25 (by decide) rfl rfl C hW hP hl hdg kk
theorem gf_sh_0 {q : Nat} (hq : q < 4) (C : CallFix p m c cc nL s args TG own) (hW : WK g s) (hP : WP g M H) {index : Nat} (hl : Cond.fieldLink own index N_Sheet (T_Sheet 0).2.1 (T_Sheet 0).2.2.1 ∈ TG) (hdg : decode cc pc = .ok (.getfield index, 3)) (kk : W p l e R s m args below meth c H locs cells slots Q (F0 m (pc + 3) ls (.ref (g.2.2.2 (6 + q)) :: rest))) : W p l e R s m args below meth c H locs cells slots Q (F0 m pc ls (.ref (g.2.2.2 (2 + q)) :: rest)) := r_get t_Sheet_in (ci := 3) rfl (2 + q) (by omega) (ob_sh hq _) 0 (by decide) rfl rfl C hW hP hl hdg kk
theorem gf_sh_1 {q : Nat} (hq : q < 4) (C : CallFix p m c cc nL s args TG own) (hW : WK g s) (hP : WP g M H) {index : Nat} (hl : Cond.fieldLink own index N_Sheet (T_Sheet 1).2.1 (T_Sheet 1).2.2.1 ∈ TG) (hdg : decode cc pc = .ok (.getfield index, 3)) (kk : W p l e R s m args below meth c H locs cells slots Q (F0 m (pc + 3) ls (.int (M (2 + q) 1) :: rest))) : W p l e R s m args below meth c H locs cells slots Q (F0 m pc ls (.ref (g.2.2.2 (2 + q)) :: rest)) := r_get t_Sheet_in (ci := 3) rfl (2 + q) (by omega) (ob_sh hq _) 1 (by decide) rfl rfl C hW hP hl hdg kk
theorem pf_sh_1 {q : Nat} {v : Int32} (hz : narrow .boolean (.int v) = .int v ∧ fits .boolean (.int v) = true) (hq : q < 4) (hI : WI g) (C : CallFix p m c cc nL s args TG own) (hW : WK g s) (hP : WP g M H) (hS : va_S (AW g) H0 H locs) {index : Nat} (hl : Cond.fieldLink own index N_Sheet (T_Sheet 1).2.1 (T_Sheet 1).2.2.1 ∈ TG) (hdg : decode cc pc = .ok (.putfield index, 3)) (kk : ∀ (M1 : Mem), M1 = mset M (2 + q) 1 v → ∀ (H1 : Heap) (locs1 : List Loc), WP g M1 H1 → va_S (AW g) H0 H1 locs1 → W p l e R s m args below meth c H1 locs1 cells slots Q (F0 m (pc + 3) ls rest)) : W p l e R s m args below meth c H locs cells slots Q (F0 m pc ls (.int v :: .ref (g.2.2.2 (2 + q)) :: rest)) := r_put t_Sheet_in y_Sheet_t t_Sheet_ok t_Sheet_nm (ci := 3) rfl (2 + q) (by omega) (ob_sh hq _) 1 (by decide) rfl rfl (ty := .boolean) (by decide +kernel) hz.1 hz.2 (by simp) (by rw [ob_sh hq]; rfl) hI C hW hP hS hl hdg (fun H1 locs1 hP1 hS1 => kk _ rfl H1 locs1 hP1 hS1)
theorem gf_sh_2 {q : Nat} (hq : q < 4) (C : CallFix p m c cc nL s args TG own) (hW : WK g s) (hP : WP g M H) {index : Nat} (hl : Cond.fieldLink own index N_Sheet (T_Sheet 2).2.1 (T_Sheet 2).2.2.1 ∈ TG) (hdg : decode cc pc = .ok (.getfield index, 3)) (kk : W p l e R s m args below meth c H locs cells slots Q (F0 m (pc + 3) ls (.int (M (2 + q) 2) :: rest))) : W p l e R s m args below meth c H locs cells slots Q (F0 m pc ls (.ref (g.2.2.2 (2 + q)) :: rest)) := r_get t_Sheet_in (ci := 3) rfl (2 + q) (by omega) (ob_sh hq _) 2 (by decide) rfl rfl C hW hP hl hdg kk
theorem pf_sh_2 {q : Nat} {v : Int32} (hq : q < 4) (hI : WI g) (C : CallFix p m c cc nL s args TG own) (hW : WK g s) (hP : WP g M H) (hS : va_S (AW g) H0 H locs) {index : Nat} (hl : Cond.fieldLink own index N_Sheet (T_Sheet 2).2.1 (T_Sheet 2).2.2.1 ∈ TG) (hdg : decode cc pc = .ok (.putfield index, 3)) (kk : ∀ (M1 : Mem), M1 = mset M (2 + q) 2 v → ∀ (H1 : Heap) (locs1 : List Loc), WP g M1 H1 → va_S (AW g) H0 H1 locs1 → W p l e R s m args below meth c H1 locs1 cells slots Q (F0 m (pc + 3) ls rest)) : W p l e R s m args below meth c H locs cells slots Q (F0 m pc ls (.int v :: .ref (g.2.2.2 (2 + q)) :: rest)) := r_put t_Sheet_in y_Sheet_t t_Sheet_ok t_Sheet_nm (ci := 3) rfl (2 + q) (by omega) (ob_sh hq _) 2 (by decide) rfl rfl (ty := .int) (by decide +kernel) rfl rfl (by simp) (by rw [ob_sh hq]; rfl) hI C hW hP hS hl hdg (fun H1 locs1 hP1 hS1 => kk _ rfl H1 locs1 hP1 hS1)
theorem gf_sh_3 {q : Nat} (hq : q < 4) (C : CallFix p m c cc nL s args TG own) (hW : WK g s) (hP : WP g M H) {index : Nat} (hl : Cond.fieldLink own index N_Sheet (T_Sheet 3).2.1 (T_Sheet 3).2.2.1 ∈ TG) (hdg : decode cc pc = .ok (.getfield index, 3)) (kk : W p l e R s m args below meth c H locs cells slots Q (F0 m (pc + 3) ls (.int (M (2 + q) 3) :: rest))) : W p l e R s m args below meth c H locs cells slots Q (F0 m pc ls (.ref (g.2.2.2 (2 + q)) :: rest)) := r_get t_Sheet_in (ci := 3) rfl (2 + q) (by omega) (ob_sh hq _) 3 (by decide) rfl rfl C hW hP hl hdg kk
theorem pf_sh_3 {q : Nat} {v : Int32} (hq : q < 4) (hI : WI g) (C : CallFix p m c cc nL s args TG own) (hW : WK g s) (hP : WP g M H) (hS : va_S (AW g) H0 H locs) {index : Nat} (hl : Cond.fieldLink own index N_Sheet (T_Sheet 3).2.1 (T_Sheet 3).2.2.1 ∈ TG) (hdg : decode cc pc = .ok (.putfield index, 3)) (kk : ∀ (M1 : Mem), M1 = mset M (2 + q) 3 v → ∀ (H1 : Heap) (locs1 : List Loc), WP g M1 H1 → va_S (AW g) H0 H1 locs1 → W p l e R s m args below meth c H1 locs1 cells slots Q (F0 m (pc + 3) ls rest)) : W p l e R s m args below meth c H locs cells slots Q (F0 m pc ls (.int v :: .ref (g.2.2.2 (2 + q)) :: rest)) := r_put t_Sheet_in y_Sheet_t t_Sheet_ok t_Sheet_nm (ci := 3) rfl (2 + q) (by omega) (ob_sh hq _) 3 (by decide) rfl rfl (ty := .int) (by decide +kernel) rfl rfl (by simp) (by rw [ob_sh hq]; rfl) hI C hW hP hS hl hdg (fun H1 locs1 hP1 hS1 => kk _ rfl H1 locs1 hP1 hS1)
theorem al_11 (C : CallFix p m c cc nL s args TG own) (hW : WK g s) (hP : WP g M H) {i : Int32} (hin : vp_in i 60) (hdg : decode cc pc = .ok (.iaload, 1)) (kk : W p l e R s m args below meth c H locs cells slots Q (F0 m (pc + 1) ls (.int (M 11 i.toNatClampNeg) :: rest))) : W p l e R s m args below meth c H locs cells slots Q (F0 m pc ls (.int i :: .ref (g.2.2.2 11) :: rest)) := r_ald 11 (by decide) rfl C hW hP hin hdg kk
theorem as_11 (hI : WI g) (C : CallFix p m c cc nL s args TG own) (hW : WK g s) (hP : WP g M H) (hS : va_S (AW g) H0 H locs) {i x : Int32} (hin : vp_in i 60) (hdg : decode cc pc = .ok (.iastore, 1)) (kk : ∀ (M1 : Mem), M1 = mset M 11 i.toNatClampNeg x → ∀ (H1 : Heap) (locs1 : List Loc), WP g M1 H1 → va_S (AW g) H0 H1 locs1 → W p l e R s m args below meth c H1 locs1 cells slots Q (F0 m (pc + 1) ls rest)) : W p l e R s m args below meth c H locs cells slots Q (F0 m pc ls (.int x :: .int i :: .ref (g.2.2.2 11) :: rest)) := r_ast 11 (by decide) (fun _ => rfl) hI C hW hP hS hin hdg (fun H1 locs1 hP1 hS1 => kk _ rfl H1 locs1 hP1 hS1)
theorem al_13 (C : CallFix p m c cc nL s args TG own) (hW : WK g s) (hP : WP g M H) {i : Int32} (hin : vp_in i 6) (hdg : decode cc pc = .ok (.iaload, 1)) (kk : W p l e R s m args below meth c H locs cells slots Q (F0 m (pc + 1) ls (.int (M 13 i.toNatClampNeg) :: rest))) : W p l e R s m args below meth c H locs cells slots Q (F0 m pc ls (.int i :: .ref (g.2.2.2 13) :: rest)) := r_ald 13 (by decide) rfl C hW hP hin hdg kk
theorem as_13 (hI : WI g) (C : CallFix p m c cc nL s args TG own) (hW : WK g s) (hP : WP g M H) (hS : va_S (AW g) H0 H locs) {i x : Int32} (hin : vp_in i 6) (hdg : decode cc pc = .ok (.iastore, 1)) (kk : ∀ (M1 : Mem), M1 = mset M 13 i.toNatClampNeg x → ∀ (H1 : Heap) (locs1 : List Loc), WP g M1 H1 → va_S (AW g) H0 H1 locs1 → W p l e R s m args below meth c H1 locs1 cells slots Q (F0 m (pc + 1) ls rest)) : W p l e R s m args below meth c H locs cells slots Q (F0 m pc ls (.int x :: .int i :: .ref (g.2.2.2 13) :: rest)) := r_ast 13 (by decide) (fun _ => rfl) hI C hW hP hS hin hdg (fun H1 locs1 hP1 hS1 => kk _ rfl H1 locs1 hP1 hS1)
theorem al_14 (C : CallFix p m c cc nL s args TG own) (hW : WK g s) (hP : WP g M H) {i : Int32} (hin : vp_in i 6) (hdg : decode cc pc = .ok (.iaload, 1)) (kk : W p l e R s m args below meth c H locs cells slots Q (F0 m (pc + 1) ls (.int (M 14 i.toNatClampNeg) :: rest))) : W p l e R s m args below meth c H locs cells slots Q (F0 m pc ls (.int i :: .ref (g.2.2.2 14) :: rest)) := r_ald 14 (by decide) rfl C hW hP hin hdg kk
theorem as_14 (hI : WI g) (C : CallFix p m c cc nL s args TG own) (hW : WK g s) (hP : WP g M H) (hS : va_S (AW g) H0 H locs) {i x : Int32} (hin : vp_in i 6) (hdg : decode cc pc = .ok (.iastore, 1)) (kk : ∀ (M1 : Mem), M1 = mset M 14 i.toNatClampNeg x → ∀ (H1 : Heap) (locs1 : List Loc), WP g M1 H1 → va_S (AW g) H0 H1 locs1 → W p l e R s m args below meth c H1 locs1 cells slots Q (F0 m (pc + 1) ls rest)) : W p l e R s m args below meth c H locs cells slots Q (F0 m pc ls (.int x :: .int i :: .ref (g.2.2.2 14) :: rest)) := r_ast 14 (by decide) (fun _ => rfl) hI C hW hP hS hin hdg (fun H1 locs1 hP1 hS1 => kk _ rfl H1 locs1 hP1 hS1)
theorem al_15 (C : CallFix p m c cc nL s args TG own) (hW : WK g s) (hP : WP g M H) {i : Int32} (hin : vp_in i 6) (hdg : decode cc pc = .ok (.iaload, 1)) (kk : W p l e R s m args below meth c H locs cells slots Q (F0 m (pc + 1) ls (.int (M 15 i.toNatClampNeg) :: rest))) : W p l e R s m args below meth c H locs cells slots Q (F0 m pc ls (.int i :: .ref (g.2.2.2 15) :: rest)) := r_ald 15 (by decide) rfl C hW hP hin hdg kk
theorem as_15 (hI : WI g) (C : CallFix p m c cc nL s args TG own) (hW : WK g s) (hP : WP g M H) (hS : va_S (AW g) H0 H locs) {i x : Int32} (hin : vp_in i 6) (hdg : decode cc pc = .ok (.iastore, 1)) (kk : ∀ (M1 : Mem), M1 = mset M 15 i.toNatClampNeg x → ∀ (H1 : Heap) (locs1 : List Loc), WP g M1 H1 → va_S (AW g) H0 H1 locs1 → W p l e R s m args below meth c H1 locs1 cells slots Q (F0 m (pc + 1) ls rest)) : W p l e R s m args below meth c H locs cells slots Q (F0 m pc ls (.int x :: .int i :: .ref (g.2.2.2 15) :: rest)) := r_ast 15 (by decide) (fun _ => rfl) hI C hW hP hS hin hdg (fun H1 locs1 hP1 hS1 => kk _ rfl H1 locs1 hP1 hS1)
theorem al_16 (C : CallFix p m c cc nL s args TG own) (hW : WK g s) (hP : WP g M H) {i : Int32} (hin : vp_in i 6) (hdg : decode cc pc = .ok (.iaload, 1)) (kk : W p l e R s m args below meth c H locs cells slots Q (F0 m (pc + 1) ls (.int (M 16 i.toNatClampNeg) :: rest))) : W p l e R s m args below meth c H locs cells slots Q (F0 m pc ls (.int i :: .ref (g.2.2.2 16) :: rest)) := r_ald 16 (by decide) rfl C hW hP hin hdg kk
theorem as_16 (hI : WI g) (C : CallFix p m c cc nL s args TG own) (hW : WK g s) (hP : WP g M H) (hS : va_S (AW g) H0 H locs) {i x : Int32} (hin : vp_in i 6) (hdg : decode cc pc = .ok (.iastore, 1)) (kk : ∀ (M1 : Mem), M1 = mset M 16 i.toNatClampNeg x → ∀ (H1 : Heap) (locs1 : List Loc), WP g M1 H1 → va_S (AW g) H0 H1 locs1 → W p l e R s m args below meth c H1 locs1 cells slots Q (F0 m (pc + 1) ls rest)) : W p l e R s m args below meth c H locs cells slots Q (F0 m pc ls (.int x :: .int i :: .ref (g.2.2.2 16) :: rest)) := r_ast 16 (by decide) (fun _ => rfl) hI C hW hP hS hin hdg (fun H1 locs1 hP1 hS1 => kk _ rfl H1 locs1 hP1 hS1)
theorem al_17 (C : CallFix p m c cc nL s args TG own) (hW : WK g s) (hP : WP g M H) {i : Int32} (hin : vp_in i 5) (hdg : decode cc pc = .ok (.iaload, 1)) (kk : W p l e R s m args below meth c H locs cells slots Q (F0 m (pc + 1) ls (.int (M 17 i.toNatClampNeg) :: rest))) : W p l e R s m args below meth c H locs cells slots Q (F0 m pc ls (.int i :: .ref (g.2.2.2 17) :: rest)) := r_ald 17 (by decide) rfl C hW hP hin hdg kk
theorem as_17 (hI : WI g) (C : CallFix p m c cc nL s args TG own) (hW : WK g s) (hP : WP g M H) (hS : va_S (AW g) H0 H locs) {i x : Int32} (hin : vp_in i 5) (hdg : decode cc pc = .ok (.iastore, 1)) (kk : ∀ (M1 : Mem), M1 = mset M 17 i.toNatClampNeg x → ∀ (H1 : Heap) (locs1 : List Loc), WP g M1 H1 → va_S (AW g) H0 H1 locs1 → W p l e R s m args below meth c H1 locs1 cells slots Q (F0 m (pc + 1) ls rest)) : W p l e R s m args below meth c H locs cells slots Q (F0 m pc ls (.int x :: .int i :: .ref (g.2.2.2 17) :: rest)) := r_ast 17 (by decide) (fun _ => rfl) hI C hW hP hS hin hdg (fun H1 locs1 hP1 hS1 => kk _ rfl H1 locs1 hP1 hS1)
theorem al_19 (C : CallFix p m c cc nL s args TG own) (hW : WK g s) (hP : WP g M H) {i : Int32} (hin : vp_in i 6) (hdg : decode cc pc = .ok (.iaload, 1)) (kk : W p l e R s m args below meth c H locs cells slots Q (F0 m (pc + 1) ls (.int (M 19 i.toNatClampNeg) :: rest))) : W p l e R s m args below meth c H locs cells slots Q (F0 m pc ls (.int i :: .ref (g.2.2.2 19) :: rest)) := r_ald 19 (by decide) rfl C hW hP hin hdg kk
theorem as_19 (hI : WI g) (C : CallFix p m c cc nL s args TG own) (hW : WK g s) (hP : WP g M H) (hS : va_S (AW g) H0 H locs) {i x : Int32} (hin : vp_in i 6) (hdg : decode cc pc = .ok (.iastore, 1)) (kk : ∀ (M1 : Mem), M1 = mset M 19 i.toNatClampNeg x → ∀ (H1 : Heap) (locs1 : List Loc), WP g M1 H1 → va_S (AW g) H0 H1 locs1 → W p l e R s m args below meth c H1 locs1 cells slots Q (F0 m (pc + 1) ls rest)) : W p l e R s m args below meth c H locs cells slots Q (F0 m pc ls (.int x :: .int i :: .ref (g.2.2.2 19) :: rest)) := r_ast 19 (by decide) (fun _ => rfl) hI C hW hP hS hin hdg (fun H1 locs1 hP1 hS1 => kk _ rfl H1 locs1 hP1 hS1)
theorem al_20 (C : CallFix p m c cc nL s args TG own) (hW : WK g s) (hP : WP g M H) {i : Int32} (hin : vp_in i 5) (hdg : decode cc pc = .ok (.iaload, 1)) (kk : W p l e R s m args below meth c H locs cells slots Q (F0 m (pc + 1) ls (.int (M 20 i.toNatClampNeg) :: rest))) : W p l e R s m args below meth c H locs cells slots Q (F0 m pc ls (.int i :: .ref (g.2.2.2 20) :: rest)) := r_ald 20 (by decide) rfl C hW hP hin hdg kk
theorem as_20 (hI : WI g) (C : CallFix p m c cc nL s args TG own) (hW : WK g s) (hP : WP g M H) (hS : va_S (AW g) H0 H locs) {i x : Int32} (hin : vp_in i 5) (hdg : decode cc pc = .ok (.iastore, 1)) (kk : ∀ (M1 : Mem), M1 = mset M 20 i.toNatClampNeg x → ∀ (H1 : Heap) (locs1 : List Loc), WP g M1 H1 → va_S (AW g) H0 H1 locs1 → W p l e R s m args below meth c H1 locs1 cells slots Q (F0 m (pc + 1) ls rest)) : W p l e R s m args below meth c H locs cells slots Q (F0 m pc ls (.int x :: .int i :: .ref (g.2.2.2 20) :: rest)) := r_ast 20 (by decide) (fun _ => rfl) hI C hW hP hS hin hdg (fun H1 locs1 hP1 hS1 => kk _ rfl H1 locs1 hP1 hS1)
theorem al_23 (C : CallFix p m c cc nL s args TG own) (hW : WK g s) (hP : WP g M H) {i : Int32} (hin : vp_in i 5) (hdg : decode cc pc = .ok (.iaload, 1)) (kk : W p l e R s m args below meth c H locs cells slots Q (F0 m (pc + 1) ls (.int (M 23 i.toNatClampNeg) :: rest))) : W p l e R s m args below meth c H locs cells slots Q (F0 m pc ls (.int i :: .ref (g.2.2.2 23) :: rest)) := r_ald 23 (by decide) rfl C hW hP hin hdg kk
theorem as_23 (hI : WI g) (C : CallFix p m c cc nL s args TG own) (hW : WK g s) (hP : WP g M H) (hS : va_S (AW g) H0 H locs) {i x : Int32} (hin : vp_in i 5) (hdg : decode cc pc = .ok (.iastore, 1)) (kk : ∀ (M1 : Mem), M1 = mset M 23 i.toNatClampNeg x → ∀ (H1 : Heap) (locs1 : List Loc), WP g M1 H1 → va_S (AW g) H0 H1 locs1 → W p l e R s m args below meth c H1 locs1 cells slots Q (F0 m (pc + 1) ls rest)) : W p l e R s m args below meth c H locs cells slots Q (F0 m pc ls (.int x :: .int i :: .ref (g.2.2.2 23) :: rest)) := r_ast 23 (by decide) (fun _ => rfl) hI C hW hP hS hin hdg (fun H1 locs1 hP1 hS1 => kk _ rfl H1 locs1 hP1 hS1)
theorem al_24 (C : CallFix p m c cc nL s args TG own) (hW : WK g s) (hP : WP g M H) {i : Int32} (hin : vp_in i 5) (hdg : decode cc pc = .ok (.iaload, 1)) (kk : W p l e R s m args below meth c H locs cells slots Q (F0 m (pc + 1) ls (.int (M 24 i.toNatClampNeg) :: rest))) : W p l e R s m args below meth c H locs cells slots Q (F0 m pc ls (.int i :: .ref (g.2.2.2 24) :: rest)) := r_ald 24 (by decide) rfl C hW hP hin hdg kk
theorem as_24 (hI : WI g) (C : CallFix p m c cc nL s args TG own) (hW : WK g s) (hP : WP g M H) (hS : va_S (AW g) H0 H locs) {i x : Int32} (hin : vp_in i 5) (hdg : decode cc pc = .ok (.iastore, 1)) (kk : ∀ (M1 : Mem), M1 = mset M 24 i.toNatClampNeg x → ∀ (H1 : Heap) (locs1 : List Loc), WP g M1 H1 → va_S (AW g) H0 H1 locs1 → W p l e R s m args below meth c H1 locs1 cells slots Q (F0 m (pc + 1) ls rest)) : W p l e R s m args below meth c H locs cells slots Q (F0 m pc ls (.int x :: .int i :: .ref (g.2.2.2 24) :: rest)) := r_ast 24 (by decide) (fun _ => rfl) hI C hW hP hS hin hdg (fun H1 locs1 hP1 hS1 => kk _ rfl H1 locs1 hP1 hS1)
theorem al_27 (C : CallFix p m c cc nL s args TG own) (hW : WK g s) (hP : WP g M H) {i : Int32} (hin : vp_in i 8) (hdg : decode cc pc = .ok (.iaload, 1)) (kk : W p l e R s m args below meth c H locs cells slots Q (F0 m (pc + 1) ls (.int (M 27 i.toNatClampNeg) :: rest))) : W p l e R s m args below meth c H locs cells slots Q (F0 m pc ls (.int i :: .ref (g.2.2.2 27) :: rest)) := r_ald 27 (by decide) rfl C hW hP hin hdg kk
theorem as_27 (hI : WI g) (C : CallFix p m c cc nL s args TG own) (hW : WK g s) (hP : WP g M H) (hS : va_S (AW g) H0 H locs) {i x : Int32} (hin : vp_in i 8) (hdg : decode cc pc = .ok (.iastore, 1)) (kk : ∀ (M1 : Mem), M1 = mset M 27 i.toNatClampNeg x → ∀ (H1 : Heap) (locs1 : List Loc), WP g M1 H1 → va_S (AW g) H0 H1 locs1 → W p l e R s m args below meth c H1 locs1 cells slots Q (F0 m (pc + 1) ls rest)) : W p l e R s m args below meth c H locs cells slots Q (F0 m pc ls (.int x :: .int i :: .ref (g.2.2.2 27) :: rest)) := r_ast 27 (by decide) (fun _ => rfl) hI C hW hP hS hin hdg (fun H1 locs1 hP1 hS1 => kk _ rfl H1 locs1 hP1 hS1)
theorem al_28 (C : CallFix p m c cc nL s args TG own) (hW : WK g s) (hP : WP g M H) {i : Int32} (hin : vp_in i 8) (hdg : decode cc pc = .ok (.iaload, 1)) (kk : W p l e R s m args below meth c H locs cells slots Q (F0 m (pc + 1) ls (.int (M 28 i.toNatClampNeg) :: rest))) : W p l e R s m args below meth c H locs cells slots Q (F0 m pc ls (.int i :: .ref (g.2.2.2 28) :: rest)) := r_ald 28 (by decide) rfl C hW hP hin hdg kk
theorem as_28 (hI : WI g) (C : CallFix p m c cc nL s args TG own) (hW : WK g s) (hP : WP g M H) (hS : va_S (AW g) H0 H locs) {i x : Int32} (hin : vp_in i 8) (hdg : decode cc pc = .ok (.iastore, 1)) (kk : ∀ (M1 : Mem), M1 = mset M 28 i.toNatClampNeg x → ∀ (H1 : Heap) (locs1 : List Loc), WP g M1 H1 → va_S (AW g) H0 H1 locs1 → W p l e R s m args below meth c H1 locs1 cells slots Q (F0 m (pc + 1) ls rest)) : W p l e R s m args below meth c H locs cells slots Q (F0 m pc ls (.int x :: .int i :: .ref (g.2.2.2 28) :: rest)) := r_ast 28 (by decide) (fun _ => rfl) hI C hW hP hS hin hdg (fun H1 locs1 hP1 hS1 => kk _ rfl H1 locs1 hP1 hS1)
theorem al_30 (C : CallFix p m c cc nL s args TG own) (hW : WK g s) (hP : WP g M H) {i : Int32} (hin : vp_in i 4) (hdg : decode cc pc = .ok (.iaload, 1)) (kk : W p l e R s m args below meth c H locs cells slots Q (F0 m (pc + 1) ls (.int (M 30 i.toNatClampNeg) :: rest))) : W p l e R s m args below meth c H locs cells slots Q (F0 m pc ls (.int i :: .ref (g.2.2.2 30) :: rest)) := r_ald 30 (by decide) rfl C hW hP hin hdg kk
theorem as_30 (hI : WI g) (C : CallFix p m c cc nL s args TG own) (hW : WK g s) (hP : WP g M H) (hS : va_S (AW g) H0 H locs) {i x : Int32} (hin : vp_in i 4) (hdg : decode cc pc = .ok (.iastore, 1)) (kk : ∀ (M1 : Mem), M1 = mset M 30 i.toNatClampNeg x → ∀ (H1 : Heap) (locs1 : List Loc), WP g M1 H1 → va_S (AW g) H0 H1 locs1 → W p l e R s m args below meth c H1 locs1 cells slots Q (F0 m (pc + 1) ls rest)) : W p l e R s m args below meth c H locs cells slots Q (F0 m pc ls (.int x :: .int i :: .ref (g.2.2.2 30) :: rest)) := r_ast 30 (by decide) (fun _ => rfl) hI C hW hP hS hin hdg (fun H1 locs1 hP1 hS1 => kk _ rfl H1 locs1 hP1 hS1)
theorem al_31 (C : CallFix p m c cc nL s args TG own) (hW : WK g s) (hP : WP g M H) {i : Int32} (hin : vp_in i 4) (hdg : decode cc pc = .ok (.iaload, 1)) (kk : W p l e R s m args below meth c H locs cells slots Q (F0 m (pc + 1) ls (.int (M 31 i.toNatClampNeg) :: rest))) : W p l e R s m args below meth c H locs cells slots Q (F0 m pc ls (.int i :: .ref (g.2.2.2 31) :: rest)) := r_ald 31 (by decide) rfl C hW hP hin hdg kk
theorem as_31 (hI : WI g) (C : CallFix p m c cc nL s args TG own) (hW : WK g s) (hP : WP g M H) (hS : va_S (AW g) H0 H locs) {i x : Int32} (hin : vp_in i 4) (hdg : decode cc pc = .ok (.iastore, 1)) (kk : ∀ (M1 : Mem), M1 = mset M 31 i.toNatClampNeg x → ∀ (H1 : Heap) (locs1 : List Loc), WP g M1 H1 → va_S (AW g) H0 H1 locs1 → W p l e R s m args below meth c H1 locs1 cells slots Q (F0 m (pc + 1) ls rest)) : W p l e R s m args below meth c H locs cells slots Q (F0 m pc ls (.int x :: .int i :: .ref (g.2.2.2 31) :: rest)) := r_ast 31 (by decide) (fun _ => rfl) hI C hW hP hS hin hdg (fun H1 locs1 hP1 hS1 => kk _ rfl H1 locs1 hP1 hS1)
theorem al_32 (C : CallFix p m c cc nL s args TG own) (hW : WK g s) (hP : WP g M H) {i : Int32} (hin : vp_in i 240) (hdg : decode cc pc = .ok (.iaload, 1)) (kk : W p l e R s m args below meth c H locs cells slots Q (F0 m (pc + 1) ls (.int (M 32 i.toNatClampNeg) :: rest))) : W p l e R s m args below meth c H locs cells slots Q (F0 m pc ls (.int i :: .ref (g.2.2.2 32) :: rest)) := r_ald 32 (by decide) rfl C hW hP hin hdg kk
theorem as_32 (hI : WI g) (C : CallFix p m c cc nL s args TG own) (hW : WK g s) (hP : WP g M H) (hS : va_S (AW g) H0 H locs) {i x : Int32} (hin : vp_in i 240) (hdg : decode cc pc = .ok (.iastore, 1)) (kk : ∀ (M1 : Mem), M1 = mset M 32 i.toNatClampNeg x → ∀ (H1 : Heap) (locs1 : List Loc), WP g M1 H1 → va_S (AW g) H0 H1 locs1 → W p l e R s m args below meth c H1 locs1 cells slots Q (F0 m (pc + 1) ls rest)) : W p l e R s m args below meth c H locs cells slots Q (F0 m pc ls (.int x :: .int i :: .ref (g.2.2.2 32) :: rest)) := r_ast 32 (by decide) (fun _ => rfl) hI C hW hP hS hin hdg (fun H1 locs1 hP1 hS1 => kk _ rfl H1 locs1 hP1 hS1)
theorem al_33 (C : CallFix p m c cc nL s args TG own) (hW : WK g s) (hP : WP g M H) {i : Int32} (hin : vp_in i 6) (hdg : decode cc pc = .ok (.iaload, 1)) (kk : W p l e R s m args below meth c H locs cells slots Q (F0 m (pc + 1) ls (.int (M 33 i.toNatClampNeg) :: rest))) : W p l e R s m args below meth c H locs cells slots Q (F0 m pc ls (.int i :: .ref (g.2.2.2 33) :: rest)) := r_ald 33 (by decide) rfl C hW hP hin hdg kk
theorem as_33 (hI : WI g) (C : CallFix p m c cc nL s args TG own) (hW : WK g s) (hP : WP g M H) (hS : va_S (AW g) H0 H locs) {i x : Int32} (hin : vp_in i 6) (hdg : decode cc pc = .ok (.iastore, 1)) (kk : ∀ (M1 : Mem), M1 = mset M 33 i.toNatClampNeg x → ∀ (H1 : Heap) (locs1 : List Loc), WP g M1 H1 → va_S (AW g) H0 H1 locs1 → W p l e R s m args below meth c H1 locs1 cells slots Q (F0 m (pc + 1) ls rest)) : W p l e R s m args below meth c H locs cells slots Q (F0 m pc ls (.int x :: .int i :: .ref (g.2.2.2 33) :: rest)) := r_ast 33 (by decide) (fun _ => rfl) hI C hW hP hS hin hdg (fun H1 locs1 hP1 hS1 => kk _ rfl H1 locs1 hP1 hS1)
theorem al_34 (C : CallFix p m c cc nL s args TG own) (hW : WK g s) (hP : WP g M H) {i : Int32} (hin : vp_in i 6) (hdg : decode cc pc = .ok (.iaload, 1)) (kk : W p l e R s m args below meth c H locs cells slots Q (F0 m (pc + 1) ls (.int (M 34 i.toNatClampNeg) :: rest))) : W p l e R s m args below meth c H locs cells slots Q (F0 m pc ls (.int i :: .ref (g.2.2.2 34) :: rest)) := r_ald 34 (by decide) rfl C hW hP hin hdg kk
theorem as_34 (hI : WI g) (C : CallFix p m c cc nL s args TG own) (hW : WK g s) (hP : WP g M H) (hS : va_S (AW g) H0 H locs) {i x : Int32} (hin : vp_in i 6) (hdg : decode cc pc = .ok (.iastore, 1)) (kk : ∀ (M1 : Mem), M1 = mset M 34 i.toNatClampNeg x → ∀ (H1 : Heap) (locs1 : List Loc), WP g M1 H1 → va_S (AW g) H0 H1 locs1 → W p l e R s m args below meth c H1 locs1 cells slots Q (F0 m (pc + 1) ls rest)) : W p l e R s m args below meth c H locs cells slots Q (F0 m pc ls (.int x :: .int i :: .ref (g.2.2.2 34) :: rest)) := r_ast 34 (by decide) (fun _ => rfl) hI C hW hP hS hin hdg (fun H1 locs1 hP1 hS1 => kk _ rfl H1 locs1 hP1 hS1)
theorem al_35 (C : CallFix p m c cc nL s args TG own) (hW : WK g s) (hP : WP g M H) {i : Int32} (hin : vp_in i 6) (hdg : decode cc pc = .ok (.iaload, 1)) (kk : W p l e R s m args below meth c H locs cells slots Q (F0 m (pc + 1) ls (.int (M 35 i.toNatClampNeg) :: rest))) : W p l e R s m args below meth c H locs cells slots Q (F0 m pc ls (.int i :: .ref (g.2.2.2 35) :: rest)) := r_ald 35 (by decide) rfl C hW hP hin hdg kk
theorem as_35 (hI : WI g) (C : CallFix p m c cc nL s args TG own) (hW : WK g s) (hP : WP g M H) (hS : va_S (AW g) H0 H locs) {i x : Int32} (hin : vp_in i 6) (hdg : decode cc pc = .ok (.iastore, 1)) (kk : ∀ (M1 : Mem), M1 = mset M 35 i.toNatClampNeg x → ∀ (H1 : Heap) (locs1 : List Loc), WP g M1 H1 → va_S (AW g) H0 H1 locs1 → W p l e R s m args below meth c H1 locs1 cells slots Q (F0 m (pc + 1) ls rest)) : W p l e R s m args below meth c H locs cells slots Q (F0 m pc ls (.int x :: .int i :: .ref (g.2.2.2 35) :: rest)) := r_ast 35 (by decide) (fun _ => rfl) hI C hW hP hS hin hdg (fun H1 locs1 hP1 hS1 => kk _ rfl H1 locs1 hP1 hS1)
theorem al_36 (C : CallFix p m c cc nL s args TG own) (hW : WK g s) (hP : WP g M H) {i : Int32} (hin : vp_in i 6) (hdg : decode cc pc = .ok (.iaload, 1)) (kk : W p l e R s m args below meth c H locs cells slots Q (F0 m (pc + 1) ls (.int (M 36 i.toNatClampNeg) :: rest))) : W p l e R s m args below meth c H locs cells slots Q (F0 m pc ls (.int i :: .ref (g.2.2.2 36) :: rest)) := r_ald 36 (by decide) rfl C hW hP hin hdg kk
theorem as_36 (hI : WI g) (C : CallFix p m c cc nL s args TG own) (hW : WK g s) (hP : WP g M H) (hS : va_S (AW g) H0 H locs) {i x : Int32} (hin : vp_in i 6) (hdg : decode cc pc = .ok (.iastore, 1)) (kk : ∀ (M1 : Mem), M1 = mset M 36 i.toNatClampNeg x → ∀ (H1 : Heap) (locs1 : List Loc), WP g M1 H1 → va_S (AW g) H0 H1 locs1 → W p l e R s m args below meth c H1 locs1 cells slots Q (F0 m (pc + 1) ls rest)) : W p l e R s m args below meth c H locs cells slots Q (F0 m pc ls (.int x :: .int i :: .ref (g.2.2.2 36) :: rest)) := r_ast 36 (by decide) (fun _ => rfl) hI C hW hP hS hin hdg (fun H1 locs1 hP1 hS1 => kk _ rfl H1 locs1 hP1 hS1)
theorem al_37 (C : CallFix p m c cc nL s args TG own) (hW : WK g s) (hP : WP g M H) {i : Int32} (hin : vp_in i 5) (hdg : decode cc pc = .ok (.iaload, 1)) (kk : W p l e R s m args below meth c H locs cells slots Q (F0 m (pc + 1) ls (.int (M 37 i.toNatClampNeg) :: rest))) : W p l e R s m args below meth c H locs cells slots Q (F0 m pc ls (.int i :: .ref (g.2.2.2 37) :: rest)) := r_ald 37 (by decide) rfl C hW hP hin hdg kk
theorem as_37 (hI : WI g) (C : CallFix p m c cc nL s args TG own) (hW : WK g s) (hP : WP g M H) (hS : va_S (AW g) H0 H locs) {i x : Int32} (hin : vp_in i 5) (hdg : decode cc pc = .ok (.iastore, 1)) (kk : ∀ (M1 : Mem), M1 = mset M 37 i.toNatClampNeg x → ∀ (H1 : Heap) (locs1 : List Loc), WP g M1 H1 → va_S (AW g) H0 H1 locs1 → W p l e R s m args below meth c H1 locs1 cells slots Q (F0 m (pc + 1) ls rest)) : W p l e R s m args below meth c H locs cells slots Q (F0 m pc ls (.int x :: .int i :: .ref (g.2.2.2 37) :: rest)) := r_ast 37 (by decide) (fun _ => rfl) hI C hW hP hS hin hdg (fun H1 locs1 hP1 hS1 => kk _ rfl H1 locs1 hP1 hS1)
theorem al_38 (C : CallFix p m c cc nL s args TG own) (hW : WK g s) (hP : WP g M H) {i : Int32} (hin : vp_in i 24) (hdg : decode cc pc = .ok (.iaload, 1)) (kk : W p l e R s m args below meth c H locs cells slots Q (F0 m (pc + 1) ls (.int (M 38 i.toNatClampNeg) :: rest))) : W p l e R s m args below meth c H locs cells slots Q (F0 m pc ls (.int i :: .ref (g.2.2.2 38) :: rest)) := r_ald 38 (by decide) rfl C hW hP hin hdg kk
theorem as_38 (hI : WI g) (C : CallFix p m c cc nL s args TG own) (hW : WK g s) (hP : WP g M H) (hS : va_S (AW g) H0 H locs) {i x : Int32} (hin : vp_in i 24) (hdg : decode cc pc = .ok (.iastore, 1)) (kk : ∀ (M1 : Mem), M1 = mset M 38 i.toNatClampNeg x → ∀ (H1 : Heap) (locs1 : List Loc), WP g M1 H1 → va_S (AW g) H0 H1 locs1 → W p l e R s m args below meth c H1 locs1 cells slots Q (F0 m (pc + 1) ls rest)) : W p l e R s m args below meth c H locs cells slots Q (F0 m pc ls (.int x :: .int i :: .ref (g.2.2.2 38) :: rest)) := r_ast 38 (by decide) (fun _ => rfl) hI C hW hP hS hin hdg (fun H1 locs1 hP1 hS1 => kk _ rfl H1 locs1 hP1 hS1)
theorem al_39 (C : CallFix p m c cc nL s args TG own) (hW : WK g s) (hP : WP g M H) {i : Int32} (hin : vp_in i 5) (hdg : decode cc pc = .ok (.iaload, 1)) (kk : W p l e R s m args below meth c H locs cells slots Q (F0 m (pc + 1) ls (.int (M 39 i.toNatClampNeg) :: rest))) : W p l e R s m args below meth c H locs cells slots Q (F0 m pc ls (.int i :: .ref (g.2.2.2 39) :: rest)) := r_ald 39 (by decide) rfl C hW hP hin hdg kk
theorem as_39 (hI : WI g) (C : CallFix p m c cc nL s args TG own) (hW : WK g s) (hP : WP g M H) (hS : va_S (AW g) H0 H locs) {i x : Int32} (hin : vp_in i 5) (hdg : decode cc pc = .ok (.iastore, 1)) (kk : ∀ (M1 : Mem), M1 = mset M 39 i.toNatClampNeg x → ∀ (H1 : Heap) (locs1 : List Loc), WP g M1 H1 → va_S (AW g) H0 H1 locs1 → W p l e R s m args below meth c H1 locs1 cells slots Q (F0 m (pc + 1) ls rest)) : W p l e R s m args below meth c H locs cells slots Q (F0 m pc ls (.int x :: .int i :: .ref (g.2.2.2 39) :: rest)) := r_ast 39 (by decide) (fun _ => rfl) hI C hW hP hS hin hdg (fun H1 locs1 hP1 hS1 => kk _ rfl H1 locs1 hP1 hS1)
theorem al_40 (C : CallFix p m c cc nL s args TG own) (hW : WK g s) (hP : WP g M H) {i : Int32} (hin : vp_in i 5) (hdg : decode cc pc = .ok (.iaload, 1)) (kk : W p l e R s m args below meth c H locs cells slots Q (F0 m (pc + 1) ls (.int (M 40 i.toNatClampNeg) :: rest))) : W p l e R s m args below meth c H locs cells slots Q (F0 m pc ls (.int i :: .ref (g.2.2.2 40) :: rest)) := r_ald 40 (by decide) rfl C hW hP hin hdg kk
theorem as_40 (hI : WI g) (C : CallFix p m c cc nL s args TG own) (hW : WK g s) (hP : WP g M H) (hS : va_S (AW g) H0 H locs) {i x : Int32} (hin : vp_in i 5) (hdg : decode cc pc = .ok (.iastore, 1)) (kk : ∀ (M1 : Mem), M1 = mset M 40 i.toNatClampNeg x → ∀ (H1 : Heap) (locs1 : List Loc), WP g M1 H1 → va_S (AW g) H0 H1 locs1 → W p l e R s m args below meth c H1 locs1 cells slots Q (F0 m (pc + 1) ls rest)) : W p l e R s m args below meth c H locs cells slots Q (F0 m pc ls (.int x :: .int i :: .ref (g.2.2.2 40) :: rest)) := r_ast 40 (by decide) (fun _ => rfl) hI C hW hP hS hin hdg (fun H1 locs1 hP1 hS1 => kk _ rfl H1 locs1 hP1 hS1)
theorem al_41 (C : CallFix p m c cc nL s args TG own) (hW : WK g s) (hP : WP g M H) {i : Int32} (hin : vp_in i 6) (hdg : decode cc pc = .ok (.iaload, 1)) (kk : W p l e R s m args below meth c H locs cells slots Q (F0 m (pc + 1) ls (.int (M 41 i.toNatClampNeg) :: rest))) : W p l e R s m args below meth c H locs cells slots Q (F0 m pc ls (.int i :: .ref (g.2.2.2 41) :: rest)) := r_ald 41 (by decide) rfl C hW hP hin hdg kk
theorem as_41 (hI : WI g) (C : CallFix p m c cc nL s args TG own) (hW : WK g s) (hP : WP g M H) (hS : va_S (AW g) H0 H locs) {i x : Int32} (hin : vp_in i 6) (hdg : decode cc pc = .ok (.iastore, 1)) (kk : ∀ (M1 : Mem), M1 = mset M 41 i.toNatClampNeg x → ∀ (H1 : Heap) (locs1 : List Loc), WP g M1 H1 → va_S (AW g) H0 H1 locs1 → W p l e R s m args below meth c H1 locs1 cells slots Q (F0 m (pc + 1) ls rest)) : W p l e R s m args below meth c H locs cells slots Q (F0 m pc ls (.int x :: .int i :: .ref (g.2.2.2 41) :: rest)) := r_ast 41 (by decide) (fun _ => rfl) hI C hW hP hS hin hdg (fun H1 locs1 hP1 hS1 => kk _ rfl H1 locs1 hP1 hS1)
theorem al_42 (C : CallFix p m c cc nL s args TG own) (hW : WK g s) (hP : WP g M H) {i : Int32} (hin : vp_in i 5) (hdg : decode cc pc = .ok (.iaload, 1)) (kk : W p l e R s m args below meth c H locs cells slots Q (F0 m (pc + 1) ls (.int (M 42 i.toNatClampNeg) :: rest))) : W p l e R s m args below meth c H locs cells slots Q (F0 m pc ls (.int i :: .ref (g.2.2.2 42) :: rest)) := r_ald 42 (by decide) rfl C hW hP hin hdg kk
theorem as_42 (hI : WI g) (C : CallFix p m c cc nL s args TG own) (hW : WK g s) (hP : WP g M H) (hS : va_S (AW g) H0 H locs) {i x : Int32} (hin : vp_in i 5) (hdg : decode cc pc = .ok (.iastore, 1)) (kk : ∀ (M1 : Mem), M1 = mset M 42 i.toNatClampNeg x → ∀ (H1 : Heap) (locs1 : List Loc), WP g M1 H1 → va_S (AW g) H0 H1 locs1 → W p l e R s m args below meth c H1 locs1 cells slots Q (F0 m (pc + 1) ls rest)) : W p l e R s m args below meth c H locs cells slots Q (F0 m pc ls (.int x :: .int i :: .ref (g.2.2.2 42) :: rest)) := r_ast 42 (by decide) (fun _ => rfl) hI C hW hP hS hin hdg (fun H1 locs1 hP1 hS1 => kk _ rfl H1 locs1 hP1 hS1)
theorem al_43 (C : CallFix p m c cc nL s args TG own) (hW : WK g s) (hP : WP g M H) {i : Int32} (hin : vp_in i 5) (hdg : decode cc pc = .ok (.iaload, 1)) (kk : W p l e R s m args below meth c H locs cells slots Q (F0 m (pc + 1) ls (.int (M 43 i.toNatClampNeg) :: rest))) : W p l e R s m args below meth c H locs cells slots Q (F0 m pc ls (.int i :: .ref (g.2.2.2 43) :: rest)) := r_ald 43 (by decide) rfl C hW hP hin hdg kk
theorem as_43 (hI : WI g) (C : CallFix p m c cc nL s args TG own) (hW : WK g s) (hP : WP g M H) (hS : va_S (AW g) H0 H locs) {i x : Int32} (hin : vp_in i 5) (hdg : decode cc pc = .ok (.iastore, 1)) (kk : ∀ (M1 : Mem), M1 = mset M 43 i.toNatClampNeg x → ∀ (H1 : Heap) (locs1 : List Loc), WP g M1 H1 → va_S (AW g) H0 H1 locs1 → W p l e R s m args below meth c H1 locs1 cells slots Q (F0 m (pc + 1) ls rest)) : W p l e R s m args below meth c H locs cells slots Q (F0 m pc ls (.int x :: .int i :: .ref (g.2.2.2 43) :: rest)) := r_ast 43 (by decide) (fun _ => rfl) hI C hW hP hS hin hdg (fun H1 locs1 hP1 hS1 => kk _ rfl H1 locs1 hP1 hS1)
theorem al_44 (C : CallFix p m c cc nL s args TG own) (hW : WK g s) (hP : WP g M H) {i : Int32} (hin : vp_in i 8) (hdg : decode cc pc = .ok (.iaload, 1)) (kk : W p l e R s m args below meth c H locs cells slots Q (F0 m (pc + 1) ls (.int (M 44 i.toNatClampNeg) :: rest))) : W p l e R s m args below meth c H locs cells slots Q (F0 m pc ls (.int i :: .ref (g.2.2.2 44) :: rest)) := r_ald 44 (by decide) rfl C hW hP hin hdg kk
theorem as_44 (hI : WI g) (C : CallFix p m c cc nL s args TG own) (hW : WK g s) (hP : WP g M H) (hS : va_S (AW g) H0 H locs) {i x : Int32} (hin : vp_in i 8) (hdg : decode cc pc = .ok (.iastore, 1)) (kk : ∀ (M1 : Mem), M1 = mset M 44 i.toNatClampNeg x → ∀ (H1 : Heap) (locs1 : List Loc), WP g M1 H1 → va_S (AW g) H0 H1 locs1 → W p l e R s m args below meth c H1 locs1 cells slots Q (F0 m (pc + 1) ls rest)) : W p l e R s m args below meth c H locs cells slots Q (F0 m pc ls (.int x :: .int i :: .ref (g.2.2.2 44) :: rest)) := r_ast 44 (by decide) (fun _ => rfl) hI C hW hP hS hin hdg (fun H1 locs1 hP1 hS1 => kk _ rfl H1 locs1 hP1 hS1)
theorem al_45 (C : CallFix p m c cc nL s args TG own) (hW : WK g s) (hP : WP g M H) {i : Int32} (hin : vp_in i 8) (hdg : decode cc pc = .ok (.iaload, 1)) (kk : W p l e R s m args below meth c H locs cells slots Q (F0 m (pc + 1) ls (.int (M 45 i.toNatClampNeg) :: rest))) : W p l e R s m args below meth c H locs cells slots Q (F0 m pc ls (.int i :: .ref (g.2.2.2 45) :: rest)) := r_ald 45 (by decide) rfl C hW hP hin hdg kk
theorem as_45 (hI : WI g) (C : CallFix p m c cc nL s args TG own) (hW : WK g s) (hP : WP g M H) (hS : va_S (AW g) H0 H locs) {i x : Int32} (hin : vp_in i 8) (hdg : decode cc pc = .ok (.iastore, 1)) (kk : ∀ (M1 : Mem), M1 = mset M 45 i.toNatClampNeg x → ∀ (H1 : Heap) (locs1 : List Loc), WP g M1 H1 → va_S (AW g) H0 H1 locs1 → W p l e R s m args below meth c H1 locs1 cells slots Q (F0 m (pc + 1) ls rest)) : W p l e R s m args below meth c H locs cells slots Q (F0 m pc ls (.int x :: .int i :: .ref (g.2.2.2 45) :: rest)) := r_ast 45 (by decide) (fun _ => rfl) hI C hW hP hS hin hdg (fun H1 locs1 hP1 hS1 => kk _ rfl H1 locs1 hP1 hS1)
theorem al_sh {q : Nat} (hq : q < 4) (C : CallFix p m c cc nL s args TG own) (hW : WK g s) (hP : WP g M H) {i : Int32} (hin : vp_in i 60) (hdg : decode cc pc = .ok (.iaload, 1)) (kk : W p l e R s m args below meth c H locs cells slots Q (F0 m (pc + 1) ls (.int (M (6 + q) i.toNatClampNeg) :: rest))) : W p l e R s m args below meth c H locs cells slots Q (F0 m pc ls (.int i :: .ref (g.2.2.2 (6 + q)) :: rest)) := r_ald (6 + q) (by omega) (ar_sh hq _) C hW hP hin hdg kk
theorem as_sh {q : Nat} (hq : q < 4) (hI : WI g) (C : CallFix p m c cc nL s args TG own) (hW : WK g s) (hP : WP g M H) (hS : va_S (AW g) H0 H locs) {i x : Int32} (hin : vp_in i 60) (hdg : decode cc pc = .ok (.iastore, 1)) (kk : ∀ (M1 : Mem), M1 = mset M (6 + q) i.toNatClampNeg x → ∀ (H1 : Heap) (locs1 : List Loc), WP g M1 H1 → va_S (AW g) H0 H1 locs1 → W p l e R s m args below meth c H1 locs1 cells slots Q (F0 m (pc + 1) ls rest)) : W p l e R s m args below meth c H locs cells slots Q (F0 m pc ls (.int x :: .int i :: .ref (g.2.2.2 (6 + q)) :: rest)) := r_ast (6 + q) (by omega) (fun f => ar_sh hq f) hI C hW hP hS hin hdg (fun H1 locs1 hP1 hS1 => kk _ rfl H1 locs1 hP1 hS1)
theorem r_copy (k0 k1 : Nat) {n0 n1 : Nat} (hk0 : k0 < 46) (he0 : ∀ f, ent g k0 f = .inl (g.2.1, n0, .inl f)) (hk1 : k1 < 46) (he1 : ∀ f, ent g k1 f = .inl (g.2.1, n1, .inl f)) (hI : WI g) (C : CallFix p m c cc nL s args TG own) (hW : WK g s) (hP : WP g M H) (hS : va_S (AW g) H0 H locs) (hsz : ls.size = nL) {index : Nat} (hl : Cond.methodLink own index arraycopyName ∈ TG) {sp dp n : Int32} (h1 : ¬ sp < 0) (h2 : ¬ dp < 0) (h3 : ¬ n < 0) (h4 : sp.toNatClampNeg + n.toNatClampNeg ≤ n0) (h5 : dp.toNatClampNeg + n.toNatClampNeg ≤ n1)
    (hframes : 1 ≤ R.frames) (hlocals : (rest.map fun v => v.category).sum + (nativeFrameWords "java/lang/System" "arraycopy" 5 + 11) ≤ R.locals) (hdg : decode cc pc = .ok (.invokestatic index, 3))
    (kk : ∀ (M1 : Mem), M1 = mrow M k1 (va_cpy (M k0) (M k1) sp.toNatClampNeg dp.toNatClampNeg n.toNatClampNeg) → ∀ (H1 : Heap) (locs1 : List Loc), WP g M1 H1 → va_S (AW g) H0 H1 locs1 → W p l e R s m args below meth c H1 locs1 cells slots Q (F0 m (pc + 3) ls rest)) : W p l e R s m args below meth c H locs cells slots Q (F0 m pc ls (.int n :: .int dp :: .ref (g.2.2.2 k1) :: .int sp :: .ref (g.2.2.2 k0) :: rest)) := by
  refine va_copyi (tys := tysOf g) C.1 C.2.1 (C.2.2.1.trans hsz.symm) C.2.2.2.1 (C.2.2.2.2 _ hl) (C.2.2.2.2 _ kn_native) (C.2.2.2.2 _ kn_static) (C.2.2.2.2 _ kn_init) hW.1 hP (ws_D hI M) hS k0 k1 0 0 (by rw [ws_at g M hk0, he0]) (by rw [ws_at g M hk1, he1]) rfl rfl rfl h1 h2 h3 h4 h5 (fun _ _ => rfl) hframes hlocals hdg (fun H1 locs1 hP1 _ hS1 => ?_)
  rw [← he1, ws_set g M hk1] at hP1
  exact kk _ rfl H1 locs1 hP1 hS1
end FR
end
section
def wp_Main_isBelow (a0 : Int32) (a1 : Int32) (M : Mem) (R : Int32 → Mem → Prop) : Prop := ((a0 < (0 : Int32) → (R (0 : Int32) M)) ∧ (¬ (a0 < (0 : Int32)) → (((a1 ≤ a0 → (R (0 : Int32) M)) ∧ (¬ (a1 ≤ a0) → (R (1 : Int32) M))))))
def wp_Main_sheetOf (a1 : Int32) (M : Mem) (R : Option Nat → Mem → Prop) : Prop := wp_Main_isBelow a1 (4 : Int32) M (fun r M1 => ((r = (0 : Int32) → R none M1) ∧ (¬ (r = (0 : Int32)) → vp_in a1 4 ∧ R (some a1.toNatClampNeg) M1)))
def wp_Sheet_holds (q0 : Nat) (a1 : Int32) (a2 : Int32) (M : Mem) (R : Int32 → Mem → Prop) : Prop := ((a1 < (0 : Int32) → (R (0 : Int32) M)) ∧ (¬ (a1 < (0 : Int32)) → ((((M (2 + q0) 3) < a1 → (R (0 : Int32) M)) ∧ (¬ ((M (2 + q0) 3) < a1) → (((a2 < (0 : Int32) → (R (0 : Int32) M)) ∧ (¬ (a2 < (0 : Int32)) → (((((M (2 + q0) 3) - a1) < a2 → (R (0 : Int32) M)) ∧ (¬ (((M (2 + q0) 3) - a1) < a2) → (R (1 : Int32) M))))))))))))
def wp_Sheet_faultOfTaking (q0 : Nat) (a1 : Int32) (a2 : Int32) (a3 : Int32) (M : Mem) (R : Int32 → Mem → Prop) : Prop := ((¬ (M (2 + q0) 1) = (0 : Int32) → ((((M (2 + q0) 2) = a1 → ((((0 : Int32) ≤ a3 → (wp_Sheet_holds q0 a2 a3 M (fun r5 M4 => ((r5 = (0 : Int32) → (R (3 : Int32) M4)) ∧ (¬ (r5 = (0 : Int32)) → (R (0 : Int32) M4)))))) ∧ (¬ ((0 : Int32) ≤ a3) → (R (4 : Int32) M))))) ∧ (¬ ((M (2 + q0) 2) = a1) → (R (2 : Int32) M))))) ∧ ((M (2 + q0) 1) = (0 : Int32) → (R (1 : Int32) M)))
def wp_Main_failed (a1 : Int32) (M : Mem) (R : Int32 → Mem → Prop) : Prop := ∀ M1 : Mem, M1 = mset M 0 8 a1 → R ((-10 : Int32) - a1) M1
def wp_Text_read (q1 : Nat) (a2 : Int32) (a3 : Int32) (M : Mem) (R : Mem → Prop) : Prop := ¬ a2 < (0 : Int32) ∧ ¬ (0 : Int32) < (0 : Int32) ∧ ¬ a3 < (0 : Int32) ∧ a2.toNatClampNeg + a3.toNatClampNeg ≤ 60 ∧ (0 : Int32).toNatClampNeg + a3.toNatClampNeg ≤ 60 ∧ ∀ M6 : Mem, M6 = mrow M 11 (va_cpy (M (6 + q1)) (M 11) a2.toNatClampNeg (0 : Int32).toNatClampNeg a3.toNatClampNeg) → ∀ M7 : Mem, M7 = mset M6 10 1 a3 → R M7
def wp_Text_codeAt (a1 : Int32) (M : Mem) (R : Int32 → Mem → Prop) : Prop := wp_Main_isBelow a1 (M 10 1) M (fun r2 M1 => ((r2 = (0 : Int32) → (R (-1 : Int32) M1)) ∧ (¬ (r2 = (0 : Int32)) → (vp_in a1 60 ∧ R (M1 11 a1.toNatClampNeg) M1))))
def wp_Text_kindAt (a1 : Int32) (M : Mem) (R : Int32 → Mem → Prop) : Prop := wp_Text_codeAt a1 M (fun r2 M1 => ((r2 = (100 : Int32) → (R (1 : Int32) M1)) ∧ (¬ (r2 = (100 : Int32)) → ((r2 = (104 : Int32) → (R (0 : Int32) M1)) ∧ (¬ (r2 = (104 : Int32)) → ((r2 = (108 : Int32) → (R (2 : Int32) M1)) ∧ (¬ (r2 = (108 : Int32)) → (R (-9 : Int32) M1))))))))
def wp_Text_digitAt (a1 : Int32) (M : Mem) (R : Int32 → Mem → Prop) : Prop := wp_Text_codeAt a1 M (fun r2 M1 => R (r2 - (48 : Int32)) M1)
def wp_Text_goodOfHouse (a1 : Int32) (M : Mem) (R : Int32 → Mem → Prop) : Prop := wp_Text_kindAt (a1 + (1 : Int32)) M (fun r2 M1 => ((¬ r2 = (-9 : Int32) → (wp_Text_digitAt (a1 + (2 : Int32)) M1 (fun r5 M4 => wp_Main_isBelow r5 (6 : Int32) M4 (fun r7 M6 => ((¬ r7 = (0 : Int32) → (wp_Text_digitAt (a1 + (3 : Int32)) M6 (fun r10 M9 => wp_Main_isBelow r10 (6 : Int32) M9 (fun r12 M11 => ((¬ r12 = (0 : Int32) → (wp_Text_digitAt (a1 + (4 : Int32)) M11 (fun r15 M14 => wp_Main_isBelow r15 (7 : Int32) M14 (fun r17 M16 => ((r17 = (0 : Int32) → (R (4 : Int32) M16)) ∧ (¬ (r17 = (0 : Int32)) → (R (5 : Int32) M16))))))) ∧ (r12 = (0 : Int32) → (R (3 : Int32) M11))))))) ∧ (r7 = (0 : Int32) → (R (2 : Int32) M6))))))) ∧ (r2 = (-9 : Int32) → (R (1 : Int32) M1))))
def wp_Text_goodOfGuest (a1 : Int32) (M : Mem) (R : Int32 → Mem → Prop) : Prop := wp_Text_digitAt (a1 + (1 : Int32)) M (fun r2 M1 => wp_Text_digitAt (a1 + (2 : Int32)) M1 (fun r4 M3 => wp_Main_isBelow r2 (7 : Int32) M3 (fun r6 M5 => ((¬ r6 = (0 : Int32) → (wp_Main_isBelow r4 (10 : Int32) M5 (fun r9 M8 => ((r9 = (0 : Int32) → (R (2 : Int32) M8)) ∧ (¬ (r9 = (0 : Int32)) → ((((64 : Int32) ≤ (((10 : Int32) * r2) + r4) → (R (2 : Int32) M8)) ∧ (¬ ((64 : Int32) ≤ (((10 : Int32) * r2) + r4)) → (R (3 : Int32) M8))))))))) ∧ (r6 = (0 : Int32) → (R (1 : Int32) M5))))))
def wp_Text_firstFault_132 (X24 : Int32 → Mem → Prop) (X83 : Int32 → Mem → Prop) (R : Int32 → Mem → Prop) (x1 : Int32) (M : Mem) : Prop := (((M 10 3) ≤ (0 : Int32) → R x1 M) ∧ (¬ ((M 10 3) ≤ (0 : Int32)) → (((¬ x1 = (M 10 1) → R x1 M) ∧ (x1 = (M 10 1) → (R (-9 : Int32) M))))))
def wp_Text_firstFault_74 (X24 : Int32 → Mem → Prop) (X83 : Int32 → Mem → Prop) (R : Int32 → Mem → Prop) (x1 : Int32) (M : Mem) : Prop := ((¬ (M 10 2) = (0 : Int32) → X83 x1 M) ∧ ((M 10 2) = (0 : Int32) → R x1 M))
def wp_Text_firstFault_24 (X24 : Int32 → Mem → Prop) (X83 : Int32 → Mem → Prop) (R : Int32 → Mem → Prop) (x1 : Int32) (M : Mem) : Prop := (((6 : Int32) ≤ (M 10 2) → wp_Text_firstFault_74 X24 X83 R x1 M) ∧ (¬ ((6 : Int32) ≤ (M 10 2)) → (wp_Text_codeAt x1 M (fun r3 M2 => ((¬ r3 = (59 : Int32) → wp_Text_firstFault_74 X24 X83 R x1 M2) ∧ (r3 = (59 : Int32) → (wp_Text_goodOfHouse x1 M2 (fun r6 M5 => (((5 : Int32) ≤ r6 → (∀ M8 : Mem, M8 = mset M5 10 2 ((M5 10 2) + (1 : Int32)) → ∀ x1_9 : Int32, x1_9 = x1 + (5 : Int32) → X24 x1_9 M8)) ∧ (¬ ((5 : Int32) ≤ r6) → (R (x1 + r6) M5)))))))))))
def wp_Text_firstFault_83 (X24 : Int32 → Mem → Prop) (X83 : Int32 → Mem → Prop) (R : Int32 → Mem → Prop) (x1 : Int32) (M : Mem) : Prop := (((5 : Int32) ≤ (M 10 3) → wp_Text_firstFault_132 X24 X83 R x1 M) ∧ (¬ ((5 : Int32) ≤ (M 10 3)) → (wp_Text_codeAt x1 M (fun r13 M12 => ((¬ r13 = (44 : Int32) → wp_Text_firstFault_132 X24 X83 R x1 M12) ∧ (r13 = (44 : Int32) → (wp_Text_goodOfGuest x1 M12 (fun r16 M15 => (((3 : Int32) ≤ r16 → (∀ M18 : Mem, M18 = mset M15 10 3 ((M15 10 3) + (1 : Int32)) → ∀ x1_19 : Int32, x1_19 = x1 + (3 : Int32) → X83 x1_19 M18)) ∧ (¬ ((3 : Int32) ≤ r16) → (R (x1 + r16) M15)))))))))))
def wp_Text_firstFault (M : Mem) (R : Int32 → Mem → Prop) : Prop := ∀ (X24 : Int32 → Mem → Prop) (X83 : Int32 → Mem → Prop), (∀ (x1 : Int32) (M : Mem), wp_Text_firstFault_24 X24 X83 R x1 M → X24 x1 M) → (∀ (x1 : Int32) (M : Mem), wp_Text_firstFault_83 X24 X83 R x1 M → X83 x1 M) → ∀ M22 : Mem, M22 = mset M 10 2 (0 : Int32) → ∀ M23 : Mem, M23 = mset M22 10 3 (0 : Int32) → wp_Text_codeAt (0 : Int32) M23 (fun r25 M24 => ((r25 = (120 : Int32) → (X24 (1 : Int32) M24)) ∧ (¬ (r25 = (120 : Int32)) → (R (0 : Int32) M24))))
def wp_Text_placeOfHouse (a1 : Int32) (M : Mem) (R : Int32 → Mem → Prop) : Prop := R ((1 : Int32) + ((5 : Int32) * a1)) M
def wp_Text_kindOfHouse (a1 : Int32) (M : Mem) (R : Int32 → Mem → Prop) : Prop := wp_Text_placeOfHouse a1 M (fun r2 M1 => wp_Text_kindAt (r2 + (1 : Int32)) M1 (fun r4 M3 => R r4 M3))
def wp_Text_digitOfHouse (a1 : Int32) (a2 : Int32) (M : Mem) (R : Int32 → Mem → Prop) : Prop := wp_Text_placeOfHouse a1 M (fun r2 M1 => wp_Text_digitAt ((r2 + (2 : Int32)) + a2) M1 (fun r4 M3 => R r4 M3))
def wp_Text_gearOfGuest (a1 : Int32) (M : Mem) (R : Int32 → Mem → Prop) : Prop := wp_Text_placeOfHouse (M 10 2) M (fun r2 M1 => ∀ x2_3 : Int32, x2_3 = r2 + ((3 : Int32) * a1) → wp_Text_digitAt (x2_3 + (1 : Int32)) M1 (fun r5 M4 => wp_Text_digitAt (x2_3 + (2 : Int32)) M4 (fun r7 M6 => R (((10 : Int32) * r5) + r7) M6)))
def wp_Way_become_18 (X18 : Int32 → Mem → Prop) (X81 : Int32 → Mem → Prop) (R : Mem → Prop) (x2 : Int32) (M : Mem) : Prop := (((M 12 5) ≤ x2 → (X81 (0 : Int32) M)) ∧ (¬ ((M 12 5) ≤ x2) → (wp_Text_kindOfHouse x2 M (fun r3 M2 => vp_in x2 6 ∧ ∀ M5 : Mem, M5 = mset M2 13 x2.toNatClampNeg r3 → wp_Text_digitOfHouse x2 (0 : Int32) M5 (fun r7 M6 => vp_in x2 6 ∧ ∀ M9 : Mem, M9 = mset M6 14 x2.toNatClampNeg r7 → wp_Text_digitOfHouse x2 (1 : Int32) M9 (fun r11 M10 => vp_in x2 6 ∧ ∀ M13 : Mem, M13 = mset M10 15 x2.toNatClampNeg r11 → wp_Text_digitOfHouse x2 (2 : Int32) M13 (fun r15 M14 => vp_in x2 6 ∧ ∀ M17 : Mem, M17 = mset M14 16 x2.toNatClampNeg r15 → ∀ x2_18 : Int32, x2_18 = x2 + (1 : Int32) → X18 x2_18 M17)))))))
def wp_Way_become_81 (X18 : Int32 → Mem → Prop) (X81 : Int32 → Mem → Prop) (R : Mem → Prop) (x2 : Int32) (M : Mem) : Prop := (((M 12 6) ≤ x2 → R M) ∧ (¬ ((M 12 6) ≤ x2) → (wp_Text_gearOfGuest x2 M (fun r21 M20 => vp_in x2 5 ∧ ∀ M23 : Mem, M23 = mset M20 17 x2.toNatClampNeg r21 → ∀ x2_24 : Int32, x2_24 = x2 + (1 : Int32) → X81 x2_24 M23))))
def wp_Way_become (M : Mem) (R : Mem → Prop) : Prop := ∀ (X18 : Int32 → Mem → Prop) (X81 : Int32 → Mem → Prop), (∀ (x2 : Int32) (M : Mem), wp_Way_become_18 X18 X81 R x2 M → X18 x2 M) → (∀ (x2 : Int32) (M : Mem), wp_Way_become_81 X18 X81 R x2 M → X81 x2 M) → ∀ M25 : Mem, M25 = mset M 12 5 (M 10 2) → ∀ M26 : Mem, M26 = mset M25 12 6 (M25 10 3) → X18 (0 : Int32) M26
def wp_Main_way (a1 : Int32) (a2 : Int32) (a3 : Int32) (a4 : Int32) (M : Mem) (R : Int32 → Mem → Prop) : Prop := ∀ M1 : Mem, M1 = mset M 0 8 (0 : Int32) → wp_Main_sheetOf a1 M1 (fun o4 M2 => (o4 = none → (R (-1 : Int32) M2)) ∧ ∀ q3 : Nat, o4 = some q3 → q3 < 4 → (wp_Main_isBelow a2 (3 : Int32) M2 (fun r6 M5 => ((¬ r6 = (0 : Int32) → (wp_Sheet_faultOfTaking q3 a2 a3 a4 M5 (fun r9 M8 => ((r9 = (0 : Int32) → (wp_Text_read q3 a3 a4 M8 (fun M11 => wp_Text_firstFault M11 (fun r13 M12 => ((r13 = (-9 : Int32) → (wp_Way_become M12 (fun M15 => ∀ M16 : Mem, M16 = mset M15 26 4 (0 : Int32) → R (M16 12 5) M16))) ∧ (¬ (r13 = (-9 : Int32)) → (R ((-100 : Int32) - r13) M12))))))) ∧ (¬ (r9 = (0 : Int32)) → (wp_Main_failed r9 M8 (fun r18 M17 => R r18 M17))))))) ∧ (r6 = (0 : Int32) → (R (-2 : Int32) M5))))))
def wp_Way_hasHouse (a1 : Int32) (M : Mem) (R : Int32 → Mem → Prop) : Prop := wp_Main_isBelow a1 (M 12 5) M (fun r2 M1 => R r2 M1)
def wp_Main_ofHouse (a1 : Int32) (a2 : Int32) (M : Mem) (R : Int32 → Mem → Prop) : Prop := wp_Way_hasHouse a1 M (fun r2 M1 => ((¬ r2 = (0 : Int32) → (((a2 = (0 : Int32) → (vp_in a1 6 ∧ R (M1 13 a1.toNatClampNeg) M1)) ∧ (¬ (a2 = (0 : Int32)) → ((a2 = (1 : Int32) → (vp_in a1 6 ∧ R (M1 14 a1.toNatClampNeg) M1)) ∧ (¬ (a2 = (1 : Int32)) → ((a2 = (2 : Int32) → (vp_in a1 6 ∧ R (M1 15 a1.toNatClampNeg) M1)) ∧ (¬ (a2 = (2 : Int32)) → ((a2 = (3 : Int32) → (vp_in a1 6 ∧ R (M1 16 a1.toNatClampNeg) M1)) ∧ (¬ (a2 = (3 : Int32)) → (R (-2 : Int32) M1))))))))))) ∧ (r2 = (0 : Int32) → (R (-1 : Int32) M1))))
def wp_Way_hasGuest (a1 : Int32) (M : Mem) (R : Int32 → Mem → Prop) : Prop := wp_Main_isBelow a1 (M 12 6) M (fun r2 M1 => R r2 M1)
def wp_Main_gear (a1 : Int32) (M : Mem) (R : Int32 → Mem → Prop) : Prop := wp_Way_hasGuest a1 M (fun r2 M1 => ((r2 = (0 : Int32) → (R (-1 : Int32) M1)) ∧ (¬ (r2 = (0 : Int32)) → (vp_in a1 5 ∧ R (M1 17 a1.toNatClampNeg) M1))))
def wp_Main_give (a1 : Int32) (a2 : Int32) (M : Mem) (R : Int32 → Mem → Prop) : Prop := wp_Way_hasGuest a1 M (fun r2 M1 => ((¬ r2 = (0 : Int32) → (wp_Main_isBelow a2 (64 : Int32) M1 (fun r5 M4 => ((¬ r5 = (0 : Int32) → (vp_in a1 5 ∧ ∀ x3_8 : Int32, x3_8 = M4 17 a1.toNatClampNeg → vp_in a1 5 ∧ ∀ M10 : Mem, M10 = mset M4 17 a1.toNatClampNeg a2 → R x3_8 M10)) ∧ (r5 = (0 : Int32) → (R (-2 : Int32) M4)))))) ∧ (r2 = (0 : Int32) → (R (-1 : Int32) M1))))
def wp_Main_bar_31 (R : Int32 → Mem → Prop) (x1 : Int32) (x2 : Int32) (M : Mem) : Prop := vp_in x1 6 ∧ ∀ x3_2 : Int32, x3_2 = M 16 x1.toNatClampNeg → vp_in x1 6 ∧ ∀ M4 : Mem, M4 = mset M 16 x1.toNatClampNeg x2 → R x3_2 M4
def wp_Main_bar (a1 : Int32) (a2 : Int32) (M : Mem) (R : Int32 → Mem → Prop) : Prop := wp_Way_hasHouse a1 M (fun r6 M5 => ((¬ r6 = (0 : Int32) → (((a2 = (6 : Int32) → (wp_Main_bar_31  R a1 a2 M5)) ∧ (¬ (a2 = (6 : Int32)) → (wp_Main_isBelow a2 (6 : Int32) M5 (fun r10 M9 => ((¬ r10 = (0 : Int32) → (wp_Main_bar_31  R a1 a2 M9)) ∧ (r10 = (0 : Int32) → (R (-2 : Int32) M9))))))))) ∧ (r6 = (0 : Int32) → (R (-1 : Int32) M5))))
def wp_Way_usedIn (a1 : Int32) (a2 : Int32) (a3 : Int32) (M : Mem) (R : Int32 → Mem → Prop) : Prop := vp_in a1 6 ∧ ∀ x4_2 : Int32, x4_2 = ((a2 &&& (a3 ^^^ (-1 : Int32))) &&& (((1 : Int32) <<< ((M 16 a1.toNatClampNeg) &&& (31 : Int32))) ^^^ (-1 : Int32))) &&& (((1 : Int32) <<< ((M 12 7) &&& (31 : Int32))) ^^^ (-1 : Int32)) → vp_in a1 6 ∧ ∀ x5_4 : Int32, x5_4 = (1 : Int32) <<< ((M 14 a1.toNatClampNeg) &&& (31 : Int32)) → vp_in a1 6 ∧ ∀ x6_6 : Int32, x6_6 = (1 : Int32) <<< ((M 15 a1.toNatClampNeg) &&& (31 : Int32)) → vp_in a1 6 ∧ ((¬ (M 13 a1.toNatClampNeg) = (1 : Int32) → ((((x4_2 &&& x5_4) = (0 : Int32) → ((((x4_2 &&& x6_6) = (0 : Int32) → (R (-9 : Int32) M)) ∧ (¬ ((x4_2 &&& x6_6) = (0 : Int32)) → R x6_6 M)))) ∧ (¬ ((x4_2 &&& x5_4) = (0 : Int32)) → R x5_4 M)))) ∧ ((M 13 a1.toNatClampNeg) = (1 : Int32) → (∀ x7_11 : Int32, x7_11 = x5_4 ||| x6_6 → ((¬ (x4_2 &&& x7_11) = x7_11 → (R (-9 : Int32) M)) ∧ ((x4_2 &&& x7_11) = x7_11 → R x7_11 M)))))
def wp_Main_passes (a1 : Int32) (a2 : Int32) (a3 : Int32) (M : Mem) (R : Int32 → Mem → Prop) : Prop := wp_Way_hasHouse a1 M (fun r2 M1 => ((¬ r2 = (0 : Int32) → (wp_Main_isBelow a2 (64 : Int32) M1 (fun r5 M4 => ((r5 = (0 : Int32) → (R (-2 : Int32) M4)) ∧ (¬ (r5 = (0 : Int32)) → (wp_Main_isBelow a3 (64 : Int32) M4 (fun r8 M7 => ((¬ r8 = (0 : Int32) → (wp_Way_usedIn a1 a2 a3 M7 (fun r11 M10 => R r11 M10))) ∧ (r8 = (0 : Int32) → (R (-2 : Int32) M7)))))))))) ∧ (r2 = (0 : Int32) → (R (-1 : Int32) M1))))
def wp_Way_isTold (M : Mem) (R : Int32 → Mem → Prop) : Prop := (((M 12 5) ≤ (0 : Int32) → (R (0 : Int32) M)) ∧ (¬ ((M 12 5) ≤ (0 : Int32)) → (R (1 : Int32) M)))
def wp_Way_everyone (M : Mem) (R : Int32 → Mem → Prop) : Prop := R (((1 : Int32) <<< ((M 12 6) &&& (31 : Int32))) - (1 : Int32)) M
def wp_Main_refusalOfPairs_3 (X3 : Nat → Int32 → Int32 → Int32 → Mem → Prop) (R : Int32 → Mem → Prop) (q1 : Nat) (x2 : Int32) (x3 : Int32) (x4 : Int32) (M : Mem) : Prop := q1 < 4 ∧ (((x3 ≤ x4 → (R (0 : Int32) M)) ∧ (¬ (x3 ≤ x4) → (vp_in (x2 + ((2 : Int32) * x4)) 60 ∧ wp_Way_everyone M (fun r4 M3 => ((((M (6 + q1) (x2 + ((2 : Int32) * x4)).toNatClampNeg) &&& (r4 ^^^ (-1 : Int32))) = (0 : Int32) → (vp_in ((x2 + ((2 : Int32) * x4)) + (1 : Int32)) 60 ∧ wp_Way_hasHouse (M3 (6 + q1) ((x2 + ((2 : Int32) * x4)) + (1 : Int32)).toNatClampNeg) M3 (fun r8 M7 => ((¬ r8 = (0 : Int32) → (∀ x4_10 : Int32, x4_10 = x4 + (1 : Int32) → X3 q1 x2 x3 x4_10 M7)) ∧ (r8 = (0 : Int32) → (R (-1 : Int32) M7)))))) ∧ (¬ (((M (6 + q1) (x2 + ((2 : Int32) * x4)).toNatClampNeg) &&& (r4 ^^^ (-1 : Int32))) = (0 : Int32)) → (R (-2 : Int32) M3))))))))
def wp_Main_refusalOfPairs (q1 : Nat) (a2 : Int32) (a3 : Int32) (M : Mem) (R : Int32 → Mem → Prop) : Prop := ∀ (X3 : Nat → Int32 → Int32 → Int32 → Mem → Prop), (∀ (q1 : Nat) (x2 : Int32) (x3 : Int32) (x4 : Int32) (M : Mem), wp_Main_refusalOfPairs_3 X3 R q1 x2 x3 x4 M → X3 q1 x2 x3 x4 M) → X3 q1 a2 a3 (0 : Int32) M
def wp_Arr_fill (k n : Nat) (v : Int32) (M : Mem) (R : Mem → Prop) : Prop := R (mrow M k (fun j => if j < n then v else M k j))
def wp_Walk_begin (M : Mem) (R : Mem → Prop) : Prop := wp_Arr_fill 19 6 (0 : Int32) M (fun M1 => wp_Arr_fill 20 5 (-9 : Int32) M1 (fun M2 => ∀ M3 : Mem, M3 = mset M2 18 3 (0 : Int32) → ∀ M4 : Mem, M4 = mset M3 18 4 (0 : Int32) → ∀ M5 : Mem, M5 = mset M4 18 5 (-9 : Int32) → R M5))
def wp_Way_gearOf_29 (X4 : Int32 → Int32 → Int32 → Mem → Prop) (R : Int32 → Mem → Prop) (x1 : Int32) (x2 : Int32) (x3 : Int32) (M : Mem) : Prop := ∀ x3_5 : Int32, x3_5 = x3 + (1 : Int32) → X4 x1 x2 x3_5 M
def wp_Way_gearOf_4 (X4 : Int32 → Int32 → Int32 → Mem → Prop) (R : Int32 → Mem → Prop) (x1 : Int32) (x2 : Int32) (x3 : Int32) (M : Mem) : Prop := (((M 12 6) ≤ x3 → R x2 M) ∧ (¬ ((M 12 6) ≤ x3) → ((((x1 &&& ((1 : Int32) <<< (x3 &&& (31 : Int32)))) = (0 : Int32) → wp_Way_gearOf_29 X4 R x1 x2 x3 M) ∧ (¬ ((x1 &&& ((1 : Int32) <<< (x3 &&& (31 : Int32)))) = (0 : Int32)) → (vp_in x3 5 ∧ ∀ x2_4 : Int32, x2_4 = x2 ||| (M 17 x3.toNatClampNeg) → wp_Way_gearOf_29 X4 R x1 x2_4 x3 M))))))
def wp_Way_gearOf (a1 : Int32) (M : Mem) (R : Int32 → Mem → Prop) : Prop := ∀ (X4 : Int32 → Int32 → Int32 → Mem → Prop), (∀ (x1 : Int32) (x2 : Int32) (x3 : Int32) (M : Mem), wp_Way_gearOf_4 X4 R x1 x2 x3 M → X4 x1 x2 x3 M) → X4 a1 (0 : Int32) (0 : Int32) M
def wp_Walk_enter_45 (R : Int32 → Mem → Prop) (x3 : Int32) (M : Mem) : Prop := ((x3 = (-9 : Int32) → (R (0 : Int32) M)) ∧ (¬ (x3 = (-9 : Int32)) → (R (1 : Int32) M)))
def wp_Walk_enter (a1 : Int32) (a2 : Int32) (M : Mem) (R : Int32 → Mem → Prop) : Prop := vp_in a1 6 ∧ wp_Way_usedIn a1 a2 (M 19 a1.toNatClampNeg) M (fun r4 M3 => ((r4 = (-9 : Int32) → (wp_Walk_enter_45  R r4 M3)) ∧ (¬ (r4 = (-9 : Int32)) → (vp_in a1 6 ∧ ((¬ (M3 13 a1.toNatClampNeg) = (2 : Int32) → (wp_Walk_enter_45  R r4 M3)) ∧ ((M3 13 a1.toNatClampNeg) = (2 : Int32) → (vp_in a1 6 ∧ vp_in a1 6 ∧ ∀ M10 : Mem, M10 = mset M3 19 a1.toNatClampNeg ((M3 19 a1.toNatClampNeg) ||| r4) → wp_Walk_enter_45  R r4 M10)))))))
def wp_Walk_visit (a1 : Int32) (a2 : Int32) (a3 : Int32) (M : Mem) (R : Mem → Prop) : Prop := ∀ x4_1 : Int32, x4_1 = a2 &&& ((M 18 4) ^^^ (-1 : Int32)) → ((x4_1 = (0 : Int32) → R M) ∧ (¬ (x4_1 = (0 : Int32)) → (wp_Way_gearOf x4_1 M (fun r4 M3 => wp_Walk_enter a3 r4 M3 (fun r6 M5 => ((r6 = (0 : Int32) → (∀ M8 : Mem, M8 = mset M5 18 4 ((M5 18 4) ||| x4_1) → ((¬ (M8 18 5) = (-9 : Int32) → R M8) ∧ ((M8 18 5) = (-9 : Int32) → (∀ M10 : Mem, M10 = mset M8 18 5 a1 → R M10))))) ∧ (¬ (r6 = (0 : Int32)) → R M5)))))))
def wp_Main_ofVisits (a1 : Int32) (M : Mem) (R : Int32 → Mem → Prop) : Prop := ((¬ a1 = (0 : Int32) → (((¬ a1 = (1 : Int32) → (∀ x2_3 : Int32, x2_3 = a1 - (10 : Int32) → wp_Way_hasHouse x2_3 M (fun r5 M4 => ((r5 = (0 : Int32) → (R (-9 : Int32) M4)) ∧ (¬ (r5 = (0 : Int32)) → (vp_in x2_3 6 ∧ R (M4 19 x2_3.toNatClampNeg) M4)))))) ∧ (a1 = (1 : Int32) → (R (M 18 5) M))))) ∧ (a1 = (0 : Int32) → (R (M 18 4) M)))
def wp_Main_visits_48 (X143 : Int32 → Int32 → Int32 → Nat → Int32 → Mem → Prop) (R : Int32 → Mem → Prop) (x2 : Int32) (x3 : Int32) (x4 : Int32) (x5 : Int32) (q6 : Nat) (s0 : Int32) (M : Mem) : Prop := q6 < 4 ∧ (wp_Main_isBelow x2 (3 : Int32) M (fun r2 M1 => ((r2 = (0 : Int32) → (R (-2 : Int32) M1)) ∧ (¬ (r2 = (0 : Int32)) → (wp_Main_isBelow x4 (21 : Int32) M1 (fun r5 M4 => ((r5 = (0 : Int32) → (R (-2 : Int32) M4)) ∧ (¬ (r5 = (0 : Int32)) → (((¬ s0 = (0 : Int32) → (wp_Sheet_faultOfTaking q6 x2 x3 ((2 : Int32) * x4) M4 (fun r9 M8 => ((r9 = (0 : Int32) → (wp_Way_isTold M8 (fun r12 M11 => ((¬ r12 = (0 : Int32) → (wp_Main_refusalOfPairs q6 x3 x4 M11 (fun r15 M14 => ((r15 = (0 : Int32) → (wp_Walk_begin M14 (fun M17 => X143 x3 x4 x5 q6 (0 : Int32) M17))) ∧ (¬ (r15 = (0 : Int32)) → R r15 M14))))) ∧ (r12 = (0 : Int32) → (R (-3 : Int32) M11)))))) ∧ (¬ (r9 = (0 : Int32)) → (wp_Main_failed r9 M8 (fun r19 M18 => R r19 M18))))))) ∧ (s0 = (0 : Int32) → (R (-2 : Int32) M4))))))))))))
def wp_Main_visits_43 (X143 : Int32 → Int32 → Int32 → Nat → Int32 → Mem → Prop) (R : Int32 → Mem → Prop) (x2 : Int32) (x3 : Int32) (x4 : Int32) (x5 : Int32) (q6 : Nat) (M : Mem) : Prop := q6 < 4 ∧ (wp_Main_visits_48 X143 R x2 x3 x4 x5 q6 (1 : Int32) M)
def wp_Main_visits_143 (X143 : Int32 → Int32 → Int32 → Nat → Int32 → Mem → Prop) (R : Int32 → Mem → Prop) (x3 : Int32) (x4 : Int32) (x5 : Int32) (q6 : Nat) (x10 : Int32) (M : Mem) : Prop := q6 < 4 ∧ (((x4 ≤ x10 → (wp_Main_ofVisits x5 M (fun r22 M21 => R r22 M21))) ∧ (¬ (x4 ≤ x10) → (vp_in (x3 + ((2 : Int32) * x10)) 60 ∧ vp_in ((x3 + ((2 : Int32) * x10)) + (1 : Int32)) 60 ∧ wp_Walk_visit x10 (M (6 + q6) (x3 + ((2 : Int32) * x10)).toNatClampNeg) (M (6 + q6) ((x3 + ((2 : Int32) * x10)) + (1 : Int32)).toNatClampNeg) M (fun M25 => ∀ x10_26 : Int32, x10_26 = x10 + (1 : Int32) → X143 x3 x4 x5 q6 x10_26 M25)))))
def wp_Main_visits (a1 : Int32) (a2 : Int32) (a3 : Int32) (a4 : Int32) (a5 : Int32) (M : Mem) (R : Int32 → Mem → Prop) : Prop := ∀ (X143 : Int32 → Int32 → Int32 → Nat → Int32 → Mem → Prop), (∀ (x3 : Int32) (x4 : Int32) (x5 : Int32) (q6 : Nat) (x10 : Int32) (M : Mem), wp_Main_visits_143 X143 R x3 x4 x5 q6 x10 M → X143 x3 x4 x5 q6 x10 M) → ∀ M27 : Mem, M27 = mset M 0 8 (0 : Int32) → wp_Main_sheetOf a1 M27 (fun o30 M28 => (o30 = none → (R (-1 : Int32) M28)) ∧ ∀ q29 : Nat, o30 = some q29 → q29 < 4 → (((a5 = (0 : Int32) → wp_Main_visits_43 X143 R a2 a3 a4 a5 q29 M28) ∧ (¬ (a5 = (0 : Int32)) → (((a5 = (1 : Int32) → wp_Main_visits_43 X143 R a2 a3 a4 a5 q29 M28) ∧ (¬ (a5 = (1 : Int32)) → (wp_Main_isBelow (a5 - (10 : Int32)) (6 : Int32) M28 (fun r34 M33 => ((r34 = (0 : Int32) → (wp_Main_visits_48 X143 R a2 a3 a4 a5 q29 (0 : Int32) M33)) ∧ (¬ (r34 = (0 : Int32)) → wp_Main_visits_43 X143 R a2 a3 a4 a5 q29 M33)))))))))))
def wp_Main_isOrder_6 (X6 : Nat → Int32 → Int32 → Int32 → Int32 → Mem → Prop) (R : Int32 → Mem → Prop) (q1 : Nat) (x2 : Int32) (x3 : Int32) (x4 : Int32) (x5 : Int32) (M : Mem) : Prop := q1 < 4 ∧ (((x3 ≤ x5 → (R (1 : Int32) M)) ∧ (¬ (x3 ≤ x5) → (vp_in (x2 + x5) 60 ∧ ∀ x6_3 : Int32, x6_3 = M (6 + q1) (x2 + x5).toNatClampNeg → wp_Way_hasGuest x6_3 M (fun r5 M4 => ((r5 = (0 : Int32) → (R (0 : Int32) M4)) ∧ (¬ (r5 = (0 : Int32)) → ((((x4 &&& ((1 : Int32) <<< (x6_3 &&& (31 : Int32)))) = (0 : Int32) → (∀ x4_8 : Int32, x4_8 = x4 ||| ((1 : Int32) <<< (x6_3 &&& (31 : Int32))) → ∀ x5_9 : Int32, x5_9 = x5 + (1 : Int32) → X6 q1 x2 x3 x4_8 x5_9 M4)) ∧ (¬ ((x4 &&& ((1 : Int32) <<< (x6_3 &&& (31 : Int32)))) = (0 : Int32)) → (R (0 : Int32) M4)))))))))))
def wp_Main_isOrder (q1 : Nat) (a2 : Int32) (a3 : Int32) (M : Mem) (R : Int32 → Mem → Prop) : Prop := ∀ (X6 : Nat → Int32 → Int32 → Int32 → Int32 → Mem → Prop), (∀ (q1 : Nat) (x2 : Int32) (x3 : Int32) (x4 : Int32) (x5 : Int32) (M : Mem), wp_Main_isOrder_6 X6 R q1 x2 x3 x4 x5 M → X6 q1 x2 x3 x4 x5 M) → X6 q1 a2 a3 (0 : Int32) (0 : Int32) M
def wp_Walk_send_11 (X11 : Int32 → Int32 → Mem → Prop) (R : Int32 → Mem → Prop) (x2 : Int32) (x3 : Int32) (M : Mem) : Prop := (((M 12 5) ≤ x3 → (R (-9 : Int32) M)) ∧ (¬ ((M 12 5) ≤ x3) → (wp_Walk_enter x3 x2 M (fun r3 M2 => ((¬ r3 = (0 : Int32) → (∀ x3_5 : Int32, x3_5 = x3 + (1 : Int32) → X11 x2 x3_5 M2)) ∧ (r3 = (0 : Int32) → R x3 M2))))))
def wp_Walk_send (a1 : Int32) (M : Mem) (R : Int32 → Mem → Prop) : Prop := ∀ (X11 : Int32 → Int32 → Mem → Prop), (∀ (x2 : Int32) (x3 : Int32) (M : Mem), wp_Walk_send_11 X11 R x2 x3 M → X11 x2 x3 M) → wp_Way_gearOf a1 M (fun r7 M6 => X11 r7 (0 : Int32) M6)
def wp_Walk_goAlone (a1 : Int32) (M : Mem) (R : Mem → Prop) : Prop := wp_Walk_send ((1 : Int32) <<< (a1 &&& (31 : Int32))) M (fun r2 M1 => vp_in a1 5 ∧ ∀ M4 : Mem, M4 = mset M1 20 a1.toNatClampNeg r2 → vp_in a1 5 ∧ ((¬ (M4 20 a1.toNatClampNeg) = (-9 : Int32) → R M4) ∧ ((M4 20 a1.toNatClampNeg) = (-9 : Int32) → (∀ M7 : Mem, M7 = mset M4 18 3 ((M4 18 3) ||| ((1 : Int32) <<< (a1 &&& (31 : Int32)))) → R M7))))
def wp_Main_going_41 (X119 : Int32 → Int32 → Int32 → Nat → Int32 → Mem → Prop) (R : Int32 → Mem → Prop) (x2 : Int32) (x3 : Int32) (x4 : Int32) (x5 : Int32) (q6 : Nat) (s0 : Int32) (M : Mem) : Prop := q6 < 4 ∧ (wp_Main_isBelow x2 (3 : Int32) M (fun r2 M1 => ((r2 = (0 : Int32) → (R (-2 : Int32) M1)) ∧ (¬ (r2 = (0 : Int32)) → (((¬ s0 = (0 : Int32) → (wp_Sheet_faultOfTaking q6 x2 x3 x4 M1 (fun r6 M5 => ((r6 = (0 : Int32) → (wp_Way_isTold M5 (fun r9 M8 => ((¬ r9 = (0 : Int32) → (wp_Main_isOrder q6 x3 x4 M8 (fun r12 M11 => ((¬ r12 = (0 : Int32) → (wp_Walk_begin M11 (fun M14 => X119 x3 x4 x5 q6 (0 : Int32) M14))) ∧ (r12 = (0 : Int32) → (R (-1 : Int32) M11)))))) ∧ (r9 = (0 : Int32) → (R (-3 : Int32) M8)))))) ∧ (¬ (r6 = (0 : Int32)) → (wp_Main_failed r6 M5 (fun r16 M15 => R r16 M15))))))) ∧ (s0 = (0 : Int32) → (R (-2 : Int32) M1))))))))
def wp_Main_going_36 (X119 : Int32 → Int32 → Int32 → Nat → Int32 → Mem → Prop) (R : Int32 → Mem → Prop) (x2 : Int32) (x3 : Int32) (x4 : Int32) (x5 : Int32) (q6 : Nat) (M : Mem) : Prop := q6 < 4 ∧ (wp_Main_going_41 X119 R x2 x3 x4 x5 q6 (1 : Int32) M)
def wp_Main_going_119 (X119 : Int32 → Int32 → Int32 → Nat → Int32 → Mem → Prop) (R : Int32 → Mem → Prop) (x3 : Int32) (x4 : Int32) (x5 : Int32) (q6 : Nat) (x9 : Int32) (M : Mem) : Prop := q6 < 4 ∧ (((x4 ≤ x9 → (((¬ x5 = (0 : Int32) → (vp_in (x5 - (10 : Int32)) 5 ∧ R (M 20 (x5 - (10 : Int32)).toNatClampNeg) M)) ∧ (x5 = (0 : Int32) → (R (M 18 3) M))))) ∧ (¬ (x4 ≤ x9) → (vp_in (x3 + x9) 60 ∧ wp_Walk_goAlone (M (6 + q6) (x3 + x9).toNatClampNeg) M (fun M21 => ∀ x9_22 : Int32, x9_22 = x9 + (1 : Int32) → X119 x3 x4 x5 q6 x9_22 M21)))))
def wp_Main_going (a1 : Int32) (a2 : Int32) (a3 : Int32) (a4 : Int32) (a5 : Int32) (M : Mem) (R : Int32 → Mem → Prop) : Prop := ∀ (X119 : Int32 → Int32 → Int32 → Nat → Int32 → Mem → Prop), (∀ (x3 : Int32) (x4 : Int32) (x5 : Int32) (q6 : Nat) (x9 : Int32) (M : Mem), wp_Main_going_119 X119 R x3 x4 x5 q6 x9 M → X119 x3 x4 x5 q6 x9 M) → ∀ M23 : Mem, M23 = mset M 0 8 (0 : Int32) → wp_Main_sheetOf a1 M23 (fun o26 M24 => (o26 = none → (R (-1 : Int32) M24)) ∧ ∀ q25 : Nat, o26 = some q25 → q25 < 4 → (((a5 = (0 : Int32) → wp_Main_going_36 X119 R a2 a3 a4 a5 q25 M24) ∧ (¬ (a5 = (0 : Int32)) → (wp_Main_isBelow (a5 - (10 : Int32)) (5 : Int32) M24 (fun r29 M28 => ((r29 = (0 : Int32) → (wp_Main_going_41 X119 R a2 a3 a4 a5 q25 (0 : Int32) M28)) ∧ (¬ (r29 = (0 : Int32)) → wp_Main_going_36 X119 R a2 a3 a4 a5 q25 M28))))))))
def wp_Int_bitCount (a0 : Int32) (M : Mem) (R : Int32 → Mem → Prop) : Prop := ∀ x0_1 : Int32, x0_1 = a0 - (((a0.toUInt32 >>> ((1 : Int32).toUInt32 &&& Int32.toUInt32 (31 : Int32))).toInt32) &&& (1431655765 : Int32)) → ∀ x0_2 : Int32, x0_2 = (x0_1 &&& (858993459 : Int32)) + (((x0_1.toUInt32 >>> ((2 : Int32).toUInt32 &&& Int32.toUInt32 (31 : Int32))).toInt32) &&& (858993459 : Int32)) → ∀ x0_3 : Int32, x0_3 = (x0_2 + ((x0_2.toUInt32 >>> ((4 : Int32).toUInt32 &&& Int32.toUInt32 (31 : Int32))).toInt32)) &&& (252645135 : Int32) → ∀ x0_4 : Int32, x0_4 = x0_3 + ((x0_3.toUInt32 >>> ((8 : Int32).toUInt32 &&& Int32.toUInt32 (31 : Int32))).toInt32) → ∀ x0_5 : Int32, x0_5 = x0_4 + ((x0_4.toUInt32 >>> ((16 : Int32).toUInt32 &&& Int32.toUInt32 (31 : Int32))).toInt32) → R (x0_5 &&& (63 : Int32)) M
def wp_Way_firstNotPassedBy_2 (X2 : Int32 → Int32 → Mem → Prop) (R : Int32 → Mem → Prop) (x1 : Int32) (x2 : Int32) (M : Mem) : Prop := (((M 12 5) ≤ x2 → (R (-9 : Int32) M)) ∧ (¬ ((M 12 5) ≤ x2) → (wp_Way_usedIn x2 x1 (0 : Int32) M (fun r3 M2 => ((¬ r3 = (-9 : Int32) → (∀ x2_5 : Int32, x2_5 = x2 + (1 : Int32) → X2 x1 x2_5 M2)) ∧ (r3 = (-9 : Int32) → R x2 M2))))))
def wp_Way_firstNotPassedBy (a1 : Int32) (M : Mem) (R : Int32 → Mem → Prop) : Prop := ∀ (X2 : Int32 → Int32 → Mem → Prop), (∀ (x1 : Int32) (x2 : Int32) (M : Mem), wp_Way_firstNotPassedBy_2 X2 R x1 x2 M → X2 x1 x2 M) → X2 a1 (0 : Int32) M
def wp_Way_leastGear_41 (X8 : Int32 → Int32 → Int32 → Mem → Prop) (R : Int32 → Mem → Prop) (x1 : Int32) (x2 : Int32) (x3 : Int32) (M : Mem) : Prop := ∀ x3_8 : Int32, x3_8 = x3 + (1 : Int32) → X8 x1 x2 x3_8 M
def wp_Way_leastGear_8 (X8 : Int32 → Int32 → Int32 → Mem → Prop) (R : Int32 → Mem → Prop) (x1 : Int32) (x2 : Int32) (x3 : Int32) (M : Mem) : Prop := (((64 : Int32) ≤ x3 → R x1 M) ∧ (¬ ((64 : Int32) ≤ x3) → (wp_Int_bitCount x3 M (fun r3 M2 => ((x2 ≤ r3 → wp_Way_leastGear_41 X8 R x1 x2 x3 M2) ∧ (¬ (x2 ≤ r3) → (wp_Way_firstNotPassedBy x3 M2 (fun r6 M5 => ((¬ r6 = (-9 : Int32) → wp_Way_leastGear_41 X8 R x1 x2 x3 M5) ∧ (r6 = (-9 : Int32) → wp_Way_leastGear_41 X8 R x3 r3 x3 M5))))))))))
def wp_Way_leastGear (M : Mem) (R : Int32 → Mem → Prop) : Prop := ∀ (X8 : Int32 → Int32 → Int32 → Mem → Prop), (∀ (x1 : Int32) (x2 : Int32) (x3 : Int32) (M : Mem), wp_Way_leastGear_8 X8 R x1 x2 x3 M → X8 x1 x2 x3 M) → X8 (-9 : Int32) (7 : Int32) (0 : Int32) M
def wp_Main_least (M : Mem) (R : Int32 → Mem → Prop) : Prop := wp_Way_isTold M (fun r2 M1 => ((r2 = (0 : Int32) → (R (-3 : Int32) M1)) ∧ (¬ (r2 = (0 : Int32)) → (wp_Way_leastGear M1 (fun r5 M4 => R r5 M4)))))
def wp_Main_hard (M : Mem) (R : Int32 → Mem → Prop) : Prop := wp_Way_isTold M (fun r2 M1 => ((r2 = (0 : Int32) → (R (-3 : Int32) M1)) ∧ (¬ (r2 = (0 : Int32)) → (wp_Way_firstNotPassedBy (63 : Int32) M1 (fun r5 M4 => R r5 M4)))))
def wp_Orders_begin_9 (X9 : Int32 → Int32 → Mem → Prop) (R : Int32 → Mem → Prop) (x2 : Int32) (x3 : Int32) (M : Mem) : Prop := (((M 22 1) ≤ x3 → R x2 M) ∧ (¬ ((M 22 1) ≤ x3) → (vp_in x3 5 ∧ ∀ M3 : Mem, M3 = mset M 23 x3.toNatClampNeg x3 → ∀ x2_4 : Int32, x2_4 = x2 * (x3 + (1 : Int32)) → ∀ x3_5 : Int32, x3_5 = x3 + (1 : Int32) → X9 x2_4 x3_5 M3)))
def wp_Orders_begin (a1 : Int32) (M : Mem) (R : Int32 → Mem → Prop) : Prop := ∀ (X9 : Int32 → Int32 → Mem → Prop), (∀ (x2 : Int32) (x3 : Int32) (M : Mem), wp_Orders_begin_9 X9 R x2 x3 M → X9 x2 x3 M) → ∀ M6 : Mem, M6 = mset M 22 1 a1 → X9 (1 : Int32) (0 : Int32) M6
def wp_Search_goInOrder_9 (X9 : Int32 → Mem → Prop) (R : Int32 → Mem → Prop) (x1 : Int32) (M : Mem) : Prop := (((M 22 1) ≤ x1 → (R (M 18 3) M)) ∧ (¬ ((M 22 1) ≤ x1) → (vp_in x1 5 ∧ wp_Walk_goAlone (M 23 x1.toNatClampNeg) M (fun M3 => ∀ x1_4 : Int32, x1_4 = x1 + (1 : Int32) → X9 x1_4 M3))))
def wp_Search_goInOrder (M : Mem) (R : Int32 → Mem → Prop) : Prop := ∀ (X9 : Int32 → Mem → Prop), (∀ (x1 : Int32) (M : Mem), wp_Search_goInOrder_9 X9 R x1 M → X9 x1 M) → wp_Walk_begin M (fun M5 => X9 (0 : Int32) M5)
def wp_Search_keep (a1 : Int32) (M : Mem) (R : Mem → Prop) : Prop := ∀ M1 : Mem, M1 = mset M 21 4 a1 → ¬ (0 : Int32) < (0 : Int32) ∧ ¬ (0 : Int32) < (0 : Int32) ∧ ¬ (M1 22 1) < (0 : Int32) ∧ (0 : Int32).toNatClampNeg + (M1 22 1).toNatClampNeg ≤ 5 ∧ (0 : Int32).toNatClampNeg + (M1 22 1).toNatClampNeg ≤ 5 ∧ ∀ M7 : Mem, M7 = mrow M1 24 (va_cpy (M1 23) (M1 24) (0 : Int32).toNatClampNeg (0 : Int32).toNatClampNeg (M1 22 1).toNatClampNeg) → R M7
def wp_Orders_lastRise_7 (X7 : Int32 → Mem → Prop) (R : Int32 → Mem → Prop) (x1 : Int32) (M : Mem) : Prop := ((x1 < (0 : Int32) → (R (-1 : Int32) M)) ∧ (¬ (x1 < (0 : Int32)) → (vp_in x1 5 ∧ vp_in (x1 + (1 : Int32)) 5 ∧ (((M 23 (x1 + (1 : Int32)).toNatClampNeg) ≤ (M 23 x1.toNatClampNeg) → (∀ x1_5 : Int32, x1_5 = x1 + (-1 : Int32) → X7 x1_5 M)) ∧ (¬ ((M 23 (x1 + (1 : Int32)).toNatClampNeg) ≤ (M 23 x1.toNatClampNeg)) → R x1 M)))))
def wp_Orders_lastRise (M : Mem) (R : Int32 → Mem → Prop) : Prop := ∀ (X7 : Int32 → Mem → Prop), (∀ (x1 : Int32) (M : Mem), wp_Orders_lastRise_7 X7 R x1 M → X7 x1 M) → ∀ x1_6 : Int32, x1_6 = (M 22 1) - (2 : Int32) → X7 x1_6 M
def wp_Orders_lastAbove_7 (X7 : Int32 → Int32 → Mem → Prop) (R : Int32 → Mem → Prop) (x1 : Int32) (x2 : Int32) (M : Mem) : Prop := ((x2 ≤ x1 → R x1 M) ∧ (¬ (x2 ≤ x1) → (vp_in x2 5 ∧ vp_in x1 5 ∧ (((M 23 x2.toNatClampNeg) ≤ (M 23 x1.toNatClampNeg) → (∀ x2_5 : Int32, x2_5 = x2 + (-1 : Int32) → X7 x1 x2_5 M)) ∧ (¬ ((M 23 x2.toNatClampNeg) ≤ (M 23 x1.toNatClampNeg)) → R x2 M)))))
def wp_Orders_lastAbove (a1 : Int32) (M : Mem) (R : Int32 → Mem → Prop) : Prop := ∀ (X7 : Int32 → Int32 → Mem → Prop), (∀ (x1 : Int32) (x2 : Int32) (M : Mem), wp_Orders_lastAbove_7 X7 R x1 x2 M → X7 x1 x2 M) → ∀ x2_6 : Int32, x2_6 = (M 22 1) - (1 : Int32) → X7 a1 x2_6 M
def wp_Orders_swap (a1 : Int32) (a2 : Int32) (M : Mem) (R : Mem → Prop) : Prop := vp_in a1 5 ∧ ∀ x3_2 : Int32, x3_2 = M 23 a1.toNatClampNeg → vp_in a2 5 ∧ vp_in a1 5 ∧ ∀ M5 : Mem, M5 = mset M 23 a1.toNatClampNeg (M 23 a2.toNatClampNeg) → vp_in a2 5 ∧ ∀ M7 : Mem, M7 = mset M5 23 a2.toNatClampNeg x3_2 → R M7
def wp_Orders_next_31 (X31 : Int32 → Int32 → Mem → Prop) (R : Mem → Prop) (x2 : Int32) (x3 : Int32) (M : Mem) : Prop := ((x2 ≤ x3 → R M) ∧ (¬ (x2 ≤ x3) → (wp_Orders_swap x3 x2 M (fun M2 => ∀ x2_3 : Int32, x2_3 = x2 + (-1 : Int32) → ∀ x3_4 : Int32, x3_4 = x3 + (1 : Int32) → X31 x2_3 x3_4 M2))))
def wp_Orders_next (M : Mem) (R : Mem → Prop) : Prop := ∀ (X31 : Int32 → Int32 → Mem → Prop), (∀ (x2 : Int32) (x3 : Int32) (M : Mem), wp_Orders_next_31 X31 R x2 x3 M → X31 x2 x3 M) → wp_Orders_lastRise M (fun r6 M5 => (((0 : Int32) ≤ r6 → (wp_Orders_lastAbove r6 M5 (fun r9 M8 => wp_Orders_swap r6 r9 M8 (fun M10 => ∀ x2_11 : Int32, x2_11 = (M10 22 1) - (1 : Int32) → ∀ x3_12 : Int32, x3_12 = r6 + (1 : Int32) → X31 x2_11 x3_12 M10)))) ∧ (¬ ((0 : Int32) ≤ r6) → R M5)))
def wp_Search_findBest_48 (X22 : Int32 → Int32 → Mem → Prop) (R : Mem → Prop) (x1 : Int32) (x2 : Int32) (M : Mem) : Prop := wp_Orders_next M (fun M8 => ∀ x2_9 : Int32, x2_9 = x2 + (1 : Int32) → X22 x1 x2_9 M8)
def wp_Search_findBest_22 (X22 : Int32 → Int32 → Mem → Prop) (R : Mem → Prop) (x1 : Int32) (x2 : Int32) (M : Mem) : Prop := ((x1 ≤ x2 → R M) ∧ (¬ (x1 ≤ x2) → (wp_Search_goInOrder M (fun r3 M2 => wp_Int_bitCount r3 M2 (fun r5 M4 => ((r5 ≤ (M4 21 4) → wp_Search_findBest_48 X22 R x1 x2 M4) ∧ (¬ (r5 ≤ (M4 21 4)) → (wp_Search_keep r5 M4 (fun M7 => wp_Search_findBest_48 X22 R x1 x2 M7)))))))))
def wp_Search_findBest (M : Mem) (R : Mem → Prop) : Prop := ∀ (X22 : Int32 → Int32 → Mem → Prop), (∀ (x1 : Int32) (x2 : Int32) (M : Mem), wp_Search_findBest_22 X22 R x1 x2 M → X22 x1 x2 M) → ∀ M10 : Mem, M10 = mset M 21 4 (-1 : Int32) → wp_Orders_begin (M10 12 6) M10 (fun r12 M11 => X22 r12 (0 : Int32) M11)
def wp_Main_best (a1 : Int32) (M : Mem) (R : Int32 → Mem → Prop) : Prop := (((-1 : Int32) ≤ a1 → (wp_Way_isTold M (fun r3 M2 => ((¬ r3 = (0 : Int32) → (((a1 < (M2 12 6) → (wp_Search_findBest M2 (fun M6 => (((0 : Int32) ≤ a1 → (vp_in a1 5 ∧ R (M6 24 a1.toNatClampNeg) M6)) ∧ (¬ ((0 : Int32) ≤ a1) → (R (M6 21 4) M6)))))) ∧ (¬ (a1 < (M2 12 6)) → (R (-9 : Int32) M2))))) ∧ (r3 = (0 : Int32) → (R (-3 : Int32) M2)))))) ∧ (¬ ((-1 : Int32) ≤ a1) → (R (-1 : Int32) M)))
def wp_Orders_isOfMates_2 (X2 : Int32 → Mem → Prop) (R : Int32 → Mem → Prop) (x1 : Int32) (M : Mem) : Prop := (((M 22 1) ≤ x1 → (R (1 : Int32) M)) ∧ (¬ ((M 22 1) ≤ x1) → (vp_in x1 5 ∧ vp_in (M 23 x1.toNatClampNeg) 5 ∧ (((M 23 (M 23 x1.toNatClampNeg).toNatClampNeg) = x1 → (∀ x1_5 : Int32, x1_5 = x1 + (1 : Int32) → X2 x1_5 M)) ∧ (¬ ((M 23 (M 23 x1.toNatClampNeg).toNatClampNeg) = x1) → (R (0 : Int32) M))))))
def wp_Orders_isOfMates (M : Mem) (R : Int32 → Mem → Prop) : Prop := ∀ (X2 : Int32 → Mem → Prop), (∀ (x1 : Int32) (M : Mem), wp_Orders_isOfMates_2 X2 R x1 M → X2 x1 M) → X2 (0 : Int32) M
def wp_Search_judgeMates_113 (X13 : Int32 → Int32 → Int32 → Mem → Prop) (R : Mem → Prop) (x1 : Int32) (x2 : Int32) (M : Mem) : Prop := wp_Search_keep x1 M (fun M17 => ∀ M18 : Mem, M18 = mset M17 21 5 x2 → R M18)
def wp_Search_judgeMates_83 (X13 : Int32 → Int32 → Int32 → Mem → Prop) (R : Mem → Prop) (x1 : Int32) (x2 : Int32) (x3 : Int32) (M : Mem) : Prop := ∀ x3_16 : Int32, x3_16 = x3 + (1 : Int32) → X13 x1 x2 x3_16 M
def wp_Search_judgeMates_81 (X13 : Int32 → Int32 → Int32 → Mem → Prop) (R : Mem → Prop) (x2 : Int32) (x3 : Int32) (s0 : Int32) (s1 : Int32) (M : Mem) : Prop := ∀ x1_15 : Int32, x1_15 = s0 + s1 → wp_Search_judgeMates_83 X13 R x1_15 x2 x3 M
def wp_Search_judgeMates_13 (X13 : Int32 → Int32 → Int32 → Mem → Prop) (R : Mem → Prop) (x1 : Int32) (x2 : Int32) (x3 : Int32) (M : Mem) : Prop := (((M 22 1) ≤ x3 → ((((M 21 4) < x1 → wp_Search_judgeMates_113 X13 R x1 x2 M) ∧ (¬ ((M 21 4) < x1) → (((¬ x1 = (M 21 4) → R M) ∧ (x1 = (M 21 4) → ((((M 21 5) ≤ x2 → R M) ∧ (¬ ((M 21 5) ≤ x2) → wp_Search_judgeMates_113 X13 R x1 x2 M)))))))))) ∧ (¬ ((M 22 1) ≤ x3) → (vp_in x3 5 ∧ (((M 23 x3.toNatClampNeg) < x3 → wp_Search_judgeMates_83 X13 R x1 x2 x3 M) ∧ (¬ ((M 23 x3.toNatClampNeg) < x3) → (vp_in x3 5 ∧ ∀ x4_8 : Int32, x4_8 = ((1 : Int32) <<< (x3 &&& (31 : Int32))) ||| ((1 : Int32) <<< ((M 23 x3.toNatClampNeg) &&& (31 : Int32))) → ∀ x2_9 : Int32, x2_9 = x2 + (1 : Int32) → wp_Walk_send x4_8 M (fun r11 M10 => ((¬ r11 = (-9 : Int32) → (wp_Search_judgeMates_81 X13 R x2_9 x3 x1 (0 : Int32) M10)) ∧ (r11 = (-9 : Int32) → (wp_Int_bitCount x4_8 M10 (fun r14 M13 => wp_Search_judgeMates_81 X13 R x2_9 x3 x1 r14 M13)))))))))))
def wp_Search_judgeMates (M : Mem) (R : Mem → Prop) : Prop := ∀ (X13 : Int32 → Int32 → Int32 → Mem → Prop), (∀ (x1 : Int32) (x2 : Int32) (x3 : Int32) (M : Mem), wp_Search_judgeMates_13 X13 R x1 x2 x3 M → X13 x1 x2 x3 M) → wp_Walk_begin M (fun M19 => X13 (0 : Int32) (0 : Int32) (0 : Int32) M19)
def wp_Search_findTwos_46 (X27 : Int32 → Int32 → Mem → Prop) (R : Mem → Prop) (x1 : Int32) (x2 : Int32) (M : Mem) : Prop := wp_Orders_next M (fun M6 => ∀ x2_7 : Int32, x2_7 = x2 + (1 : Int32) → X27 x1 x2_7 M6)
def wp_Search_findTwos_27 (X27 : Int32 → Int32 → Mem → Prop) (R : Mem → Prop) (x1 : Int32) (x2 : Int32) (M : Mem) : Prop := ((x1 ≤ x2 → R M) ∧ (¬ (x1 ≤ x2) → (wp_Orders_isOfMates M (fun r3 M2 => ((r3 = (0 : Int32) → wp_Search_findTwos_46 X27 R x1 x2 M2) ∧ (¬ (r3 = (0 : Int32)) → (wp_Search_judgeMates M2 (fun M5 => wp_Search_findTwos_46 X27 R x1 x2 M5))))))))
def wp_Search_findTwos (M : Mem) (R : Mem → Prop) : Prop := ∀ (X27 : Int32 → Int32 → Mem → Prop), (∀ (x1 : Int32) (x2 : Int32) (M : Mem), wp_Search_findTwos_27 X27 R x1 x2 M → X27 x1 x2 M) → ∀ M8 : Mem, M8 = mset M 21 4 (-1 : Int32) → ∀ M9 : Mem, M9 = mset M8 21 5 (0 : Int32) → wp_Orders_begin (M9 12 6) M9 (fun r11 M10 => X27 r11 (0 : Int32) M10)
def wp_Main_twos_18 (R : Int32 → Mem → Prop) (x1 : Int32) (M : Mem) : Prop := wp_Way_isTold M (fun r2 M1 => ((¬ r2 = (0 : Int32) → (wp_Search_findTwos M1 (fun M4 => (((0 : Int32) ≤ x1 → (vp_in x1 5 ∧ R (M4 24 x1.toNatClampNeg) M4)) ∧ (¬ ((0 : Int32) ≤ x1) → (R (M4 21 4) M4)))))) ∧ (r2 = (0 : Int32) → (R (-3 : Int32) M1))))
def wp_Main_twos (a1 : Int32) (M : Mem) (R : Int32 → Mem → Prop) : Prop := ((a1 = (-1 : Int32) → (wp_Main_twos_18  R a1 M)) ∧ (¬ (a1 = (-1 : Int32)) → (wp_Way_hasGuest a1 M (fun r9 M8 => ((¬ r9 = (0 : Int32) → (wp_Main_twos_18  R a1 M8)) ∧ (r9 = (0 : Int32) → (R (-1 : Int32) M8)))))))
def wp_Walk_goByNumbers_6 (X6 : Int32 → Mem → Prop) (R : Int32 → Mem → Prop) (x1 : Int32) (M : Mem) : Prop := (((M 12 6) ≤ x1 → (wp_Int_bitCount (M 18 3) M (fun r3 M2 => R r3 M2))) ∧ (¬ ((M 12 6) ≤ x1) → (wp_Walk_goAlone x1 M (fun M4 => ∀ x1_5 : Int32, x1_5 = x1 + (1 : Int32) → X6 x1_5 M4))))
def wp_Walk_goByNumbers (M : Mem) (R : Int32 → Mem → Prop) : Prop := ∀ (X6 : Int32 → Mem → Prop), (∀ (x1 : Int32) (M : Mem), wp_Walk_goByNumbers_6 X6 R x1 M → X6 x1 M) → wp_Walk_begin M (fun M6 => X6 (0 : Int32) M6)
def wp_Trials_findGift_96 (X19 : Int32 → Mem → Prop) (X42 : Int32 → Int32 → Int32 → Mem → Prop) (R : Mem → Prop) (x1 : Int32) (x2 : Int32) (x3 : Int32) (M : Mem) : Prop := ∀ x3_15 : Int32, x3_15 = x3 + (1 : Int32) → X42 x1 x2 x3_15 M
def wp_Trials_findGift_19 (X19 : Int32 → Mem → Prop) (X42 : Int32 → Int32 → Int32 → Mem → Prop) (R : Mem → Prop) (x1 : Int32) (M : Mem) : Prop := (((M 12 6) ≤ x1 → R M) ∧ (¬ ((M 12 6) ≤ x1) → (vp_in x1 5 ∧ ∀ x2_3 : Int32, x2_3 = M 17 x1.toNatClampNeg → X42 x1 x2_3 (0 : Int32) M)))
def wp_Trials_findGift_42 (X19 : Int32 → Mem → Prop) (X42 : Int32 → Int32 → Int32 → Mem → Prop) (R : Mem → Prop) (x1 : Int32) (x2 : Int32) (x3 : Int32) (M : Mem) : Prop := (((6 : Int32) ≤ x3 → (vp_in x1 5 ∧ ∀ M6 : Mem, M6 = mset M 17 x1.toNatClampNeg x2 → ∀ x1_7 : Int32, x1_7 = x1 + (1 : Int32) → X19 x1_7 M6)) ∧ (¬ ((6 : Int32) ≤ x3) → (vp_in x1 5 ∧ ∀ M9 : Mem, M9 = mset M 17 x1.toNatClampNeg (x2 ||| ((1 : Int32) <<< (x3 &&& (31 : Int32)))) → wp_Walk_goByNumbers M9 (fun r11 M10 => ((r11 ≤ (M10 25 3) → wp_Trials_findGift_96 X19 X42 R x1 x2 x3 M10) ∧ (¬ (r11 ≤ (M10 25 3)) → (∀ M13 : Mem, M13 = mset M10 25 3 r11 → ∀ M14 : Mem, M14 = mset M13 25 2 (((10 : Int32) * x1) + x3) → wp_Trials_findGift_96 X19 X42 R x1 x2 x3 M14)))))))
def wp_Trials_findGift (M : Mem) (R : Mem → Prop) : Prop := ∀ (X19 : Int32 → Mem → Prop) (X42 : Int32 → Int32 → Int32 → Mem → Prop), (∀ (x1 : Int32) (M : Mem), wp_Trials_findGift_19 X19 X42 R x1 M → X19 x1 M) → (∀ (x1 : Int32) (x2 : Int32) (x3 : Int32) (M : Mem), wp_Trials_findGift_42 X19 X42 R x1 x2 x3 M → X42 x1 x2 x3 M) → ∀ M16 : Mem, M16 = mset M 25 2 (-9 : Int32) → wp_Walk_goByNumbers M16 (fun r18 M17 => ∀ M19 : Mem, M19 = mset M17 25 3 r18 → X19 (0 : Int32) M19)
def wp_Main_gift (a1 : Int32) (M : Mem) (R : Int32 → Mem → Prop) : Prop := wp_Main_isBelow a1 (2 : Int32) M (fun r2 M1 => ((¬ r2 = (0 : Int32) → (wp_Way_isTold M1 (fun r5 M4 => ((¬ r5 = (0 : Int32) → (wp_Trials_findGift M4 (fun M7 => ((¬ a1 = (0 : Int32) → (R (M7 25 3) M7)) ∧ (a1 = (0 : Int32) → (R (M7 25 2) M7)))))) ∧ (r5 = (0 : Int32) → (R (-3 : Int32) M4)))))) ∧ (r2 = (0 : Int32) → (R (-2 : Int32) M1))))
def wp_Trials_findWorst_54 (X14 : Int32 → Mem → Prop) (R : Mem → Prop) (x1 : Int32) (M : Mem) : Prop := ∀ x1_9 : Int32, x1_9 = x1 + (1 : Int32) → X14 x1_9 M
def wp_Trials_findWorst_14 (X14 : Int32 → Mem → Prop) (R : Mem → Prop) (x1 : Int32) (M : Mem) : Prop := (((6 : Int32) ≤ x1 → (∀ M2 : Mem, M2 = mset M 12 7 (6 : Int32) → R M2)) ∧ (¬ ((6 : Int32) ≤ x1) → (∀ M3 : Mem, M3 = mset M 12 7 x1 → wp_Walk_goByNumbers M3 (fun r5 M4 => (((M4 25 3) ≤ r5 → wp_Trials_findWorst_54 X14 R x1 M4) ∧ (¬ ((M4 25 3) ≤ r5) → (∀ M7 : Mem, M7 = mset M4 25 3 r5 → ∀ M8 : Mem, M8 = mset M7 25 2 x1 → wp_Trials_findWorst_54 X14 R x1 M8)))))))
def wp_Trials_findWorst (M : Mem) (R : Mem → Prop) : Prop := ∀ (X14 : Int32 → Mem → Prop), (∀ (x1 : Int32) (M : Mem), wp_Trials_findWorst_14 X14 R x1 M → X14 x1 M) → ∀ M10 : Mem, M10 = mset M 25 2 (-9 : Int32) → ∀ M11 : Mem, M11 = mset M10 25 3 (6 : Int32) → X14 (0 : Int32) M11
def wp_Main_worst (a1 : Int32) (M : Mem) (R : Int32 → Mem → Prop) : Prop := wp_Main_isBelow a1 (2 : Int32) M (fun r2 M1 => ((¬ r2 = (0 : Int32) → (wp_Way_isTold M1 (fun r5 M4 => ((¬ r5 = (0 : Int32) → (wp_Trials_findWorst M4 (fun M7 => ((¬ a1 = (0 : Int32) → (R (M7 25 3) M7)) ∧ (a1 = (0 : Int32) → (R (M7 25 2) M7)))))) ∧ (r5 = (0 : Int32) → (R (-3 : Int32) M4)))))) ∧ (r2 = (0 : Int32) → (R (-2 : Int32) M1))))
def wp_Readings_isFull (M : Mem) (R : Int32 → Mem → Prop) : Prop := (((M 26 4) < (8 : Int32) → (R (0 : Int32) M)) ∧ (¬ ((M 26 4) < (8 : Int32)) → (R (1 : Int32) M)))
def wp_Readings_add (a1 : Int32) (a2 : Int32) (M : Mem) (R : Int32 → Mem → Prop) : Prop := vp_in (M 26 4) 8 ∧ ∀ M2 : Mem, M2 = mset M 27 (M 26 4).toNatClampNeg a1 → vp_in (M2 26 4) 8 ∧ ∀ M4 : Mem, M4 = mset M2 28 (M2 26 4).toNatClampNeg a2 → ∀ M5 : Mem, M5 = mset M4 26 4 ((M4 26 4) + (1 : Int32)) → R ((M5 26 4) - (1 : Int32)) M5
def wp_Main_reading_30 (R : Int32 → Mem → Prop) (x1 : Int32) (x2 : Int32) (M : Mem) : Prop := wp_Readings_isFull M (fun r2 M1 => ((r2 = (0 : Int32) → (wp_Readings_add x1 x2 M1 (fun r5 M4 => R r5 M4))) ∧ (¬ (r2 = (0 : Int32)) → (R (-4 : Int32) M1))))
def wp_Main_reading (a1 : Int32) (a2 : Int32) (M : Mem) (R : Int32 → Mem → Prop) : Prop := wp_Way_hasGuest a1 M (fun r7 M6 => ((r7 = (0 : Int32) → (R (-1 : Int32) M6)) ∧ (¬ (r7 = (0 : Int32)) → (((a2 = (-9 : Int32) → (wp_Main_reading_30  R a1 a2 M6)) ∧ (¬ (a2 = (-9 : Int32)) → (wp_Way_hasHouse a2 M6 (fun r11 M10 => ((¬ r11 = (0 : Int32) → (wp_Main_reading_30  R a1 a2 M10)) ∧ (r11 = (0 : Int32) → (R (-1 : Int32) M10)))))))))))
def wp_Main_back (a1 : Int32) (M : Mem) (R : Int32 → Mem → Prop) : Prop := wp_Main_isBelow a1 ((M 26 4) + (1 : Int32)) M (fun r2 M1 => ((¬ r2 = (0 : Int32) → (∀ M4 : Mem, M4 = mset M1 26 4 ((M1 26 4) - a1) → R (M4 26 4) M4)) ∧ (r2 = (0 : Int32) → (R (-2 : Int32) M1))))
def wp_Readings_allAreSo_2 (X2 : Int32 → Mem → Prop) (R : Int32 → Mem → Prop) (x1 : Int32) (M : Mem) : Prop := (((M 26 4) ≤ x1 → (R (1 : Int32) M)) ∧ (¬ ((M 26 4) ≤ x1) → (vp_in x1 8 ∧ vp_in (M 27 x1.toNatClampNeg) 5 ∧ vp_in x1 8 ∧ (((M 20 (M 27 x1.toNatClampNeg).toNatClampNeg) = (M 28 x1.toNatClampNeg) → (∀ x1_6 : Int32, x1_6 = x1 + (1 : Int32) → X2 x1_6 M)) ∧ (¬ ((M 20 (M 27 x1.toNatClampNeg).toNatClampNeg) = (M 28 x1.toNatClampNeg)) → (R (0 : Int32) M))))))
def wp_Readings_allAreSo (M : Mem) (R : Int32 → Mem → Prop) : Prop := ∀ (X2 : Int32 → Mem → Prop), (∀ (x1 : Int32) (M : Mem), wp_Readings_allAreSo_2 X2 R x1 M → X2 x1 M) → X2 (0 : Int32) M
def wp_Readings_findHad_85 (X23 : Int32 → Int32 → Int32 → Mem → Prop) (R : Mem → Prop) (x1 : Int32) (x2 : Int32) (x3 : Int32) (M : Mem) : Prop := ∀ x3_14 : Int32, x3_14 = x3 + (1 : Int32) → X23 x1 x2 x3_14 M
def wp_Readings_findHad_82 (X23 : Int32 → Int32 → Int32 → Mem → Prop) (R : Mem → Prop) (x1 : Int32) (x2 : Int32) (x3 : Int32) (s1 : Int32) (M : Mem) : Prop := ∀ M13 : Mem, M13 = mset M 26 6 s1 → wp_Readings_findHad_85 X23 R x1 x2 x3 M13
def wp_Readings_findHad_23 (X23 : Int32 → Int32 → Int32 → Mem → Prop) (R : Mem → Prop) (x1 : Int32) (x2 : Int32) (x3 : Int32) (M : Mem) : Prop := (((64 : Int32) ≤ x3 → (vp_in x1 5 ∧ ∀ M3 : Mem, M3 = mset M 17 x1.toNatClampNeg x2 → R M3)) ∧ (¬ ((64 : Int32) ≤ x3) → (vp_in x1 5 ∧ ∀ M5 : Mem, M5 = mset M 17 x1.toNatClampNeg x3 → wp_Walk_goByNumbers M5 (fun r7 M6 => wp_Readings_allAreSo M6 (fun r9 M8 => ((r9 = (0 : Int32) → wp_Readings_findHad_85 X23 R x1 x2 x3 M8) ∧ (¬ (r9 = (0 : Int32)) → (∀ M11 : Mem, M11 = mset M8 26 5 ((M8 26 5) + (1 : Int32)) → ((¬ (M11 26 6) = (-9 : Int32) → (wp_Readings_findHad_82 X23 R x1 x2 x3 (M11 26 6) M11)) ∧ ((M11 26 6) = (-9 : Int32) → wp_Readings_findHad_82 X23 R x1 x2 x3 x3 M11))))))))))
def wp_Readings_findHad (a1 : Int32) (M : Mem) (R : Mem → Prop) : Prop := ∀ (X23 : Int32 → Int32 → Int32 → Mem → Prop), (∀ (x1 : Int32) (x2 : Int32) (x3 : Int32) (M : Mem), wp_Readings_findHad_23 X23 R x1 x2 x3 M → X23 x1 x2 x3 M) → vp_in a1 5 ∧ ∀ x2_16 : Int32, x2_16 = M 17 a1.toNatClampNeg → ∀ M17 : Mem, M17 = mset M 26 5 (0 : Int32) → ∀ M18 : Mem, M18 = mset M17 26 6 (-9 : Int32) → X23 a1 x2_16 (0 : Int32) M18
def wp_Main_had (a1 : Int32) (a2 : Int32) (M : Mem) (R : Int32 → Mem → Prop) : Prop := wp_Way_hasGuest a1 M (fun r2 M1 => ((¬ r2 = (0 : Int32) → (wp_Main_isBelow a2 (2 : Int32) M1 (fun r5 M4 => ((¬ r5 = (0 : Int32) → (wp_Readings_findHad a1 M4 (fun M7 => ((¬ a2 = (0 : Int32) → (R (M7 26 6) M7)) ∧ (a2 = (0 : Int32) → (R (M7 26 5) M7)))))) ∧ (r5 = (0 : Int32) → (R (-2 : Int32) M4)))))) ∧ (r2 = (0 : Int32) → (R (-1 : Int32) M1))))
def wp_Readings_kindsOf_56 (X15 : Int32 → Int32 → Int32 → Int32 → Mem → Prop) (R : Int32 → Mem → Prop) (x1 : Int32) (x2 : Int32) (x4 : Int32) (s0 : Int32) (s1 : Int32) (M : Mem) : Prop := ∀ x3_11 : Int32, x3_11 = s0 ||| s1 → ∀ x4_12 : Int32, x4_12 = x4 + (1 : Int32) → X15 x1 x2 x3_11 x4_12 M
def wp_Readings_kindsOf_15 (X15 : Int32 → Int32 → Int32 → Int32 → Mem → Prop) (R : Int32 → Mem → Prop) (x1 : Int32) (x2 : Int32) (x3 : Int32) (x4 : Int32) (M : Mem) : Prop := (((3 : Int32) ≤ x4 → (vp_in x1 6 ∧ ∀ M3 : Mem, M3 = mset M 13 x1.toNatClampNeg x2 → R x3 M3)) ∧ (¬ ((3 : Int32) ≤ x4) → (vp_in x1 6 ∧ ∀ M5 : Mem, M5 = mset M 13 x1.toNatClampNeg x4 → wp_Walk_goByNumbers M5 (fun r7 M6 => wp_Readings_allAreSo M6 (fun r9 M8 => ((r9 = (0 : Int32) → (wp_Readings_kindsOf_56 X15 R x1 x2 x4 x3 (0 : Int32) M8)) ∧ (¬ (r9 = (0 : Int32)) → (wp_Readings_kindsOf_56 X15 R x1 x2 x4 x3 ((1 : Int32) <<< (x4 &&& (31 : Int32))) M8))))))))
def wp_Readings_kindsOf (a1 : Int32) (M : Mem) (R : Int32 → Mem → Prop) : Prop := ∀ (X15 : Int32 → Int32 → Int32 → Int32 → Mem → Prop), (∀ (x1 : Int32) (x2 : Int32) (x3 : Int32) (x4 : Int32) (M : Mem), wp_Readings_kindsOf_15 X15 R x1 x2 x3 x4 M → X15 x1 x2 x3 x4 M) → vp_in a1 6 ∧ ∀ x2_14 : Int32, x2_14 = M 13 a1.toNatClampNeg → X15 a1 x2_14 (0 : Int32) (0 : Int32) M
def wp_Main_kinds (a1 : Int32) (M : Mem) (R : Int32 → Mem → Prop) : Prop := wp_Way_hasHouse a1 M (fun r2 M1 => ((r2 = (0 : Int32) → (R (-1 : Int32) M1)) ∧ (¬ (r2 = (0 : Int32)) → (wp_Readings_kindsOf a1 M1 (fun r5 M4 => R r5 M4)))))
def wp_Search_countThroughOf_54 (X25 : Int32 → Int32 → Mem → Prop) (R : Mem → Prop) (x1 : Int32) (x2 : Int32) (M : Mem) : Prop := wp_Orders_next M (fun M6 => ∀ x2_7 : Int32, x2_7 = x2 + (1 : Int32) → X25 x1 x2_7 M6)
def wp_Search_countThroughOf_25 (X25 : Int32 → Int32 → Mem → Prop) (R : Mem → Prop) (x1 : Int32) (x2 : Int32) (M : Mem) : Prop := (((M 21 7) ≤ x2 → R M) ∧ (¬ ((M 21 7) ≤ x2) → (wp_Search_goInOrder M (fun r3 M2 => (((r3 &&& ((1 : Int32) <<< (x1 &&& (31 : Int32)))) = (0 : Int32) → wp_Search_countThroughOf_54 X25 R x1 x2 M2) ∧ (¬ ((r3 &&& ((1 : Int32) <<< (x1 &&& (31 : Int32)))) = (0 : Int32)) → (∀ M5 : Mem, M5 = mset M2 21 6 ((M2 21 6) + (1 : Int32)) → wp_Search_countThroughOf_54 X25 R x1 x2 M5)))))))
def wp_Search_countThroughOf (a1 : Int32) (M : Mem) (R : Mem → Prop) : Prop := ∀ (X25 : Int32 → Int32 → Mem → Prop), (∀ (x1 : Int32) (x2 : Int32) (M : Mem), wp_Search_countThroughOf_25 X25 R x1 x2 M → X25 x1 x2 M) → ∀ M8 : Mem, M8 = mset M 21 6 (0 : Int32) → wp_Orders_begin (M8 12 6) M8 (fun r10 M9 => ∀ M11 : Mem, M11 = mset M9 21 7 r10 → X25 a1 (0 : Int32) M11)
def wp_Main_sharedDivisor_27 (X8 : Int32 → Int32 → Int32 → Mem → Prop) (R : Int32 → Mem → Prop) (x0 : Int32) (x1 : Int32) (x2 : Int32) (M : Mem) : Prop := ∀ x2_6 : Int32, x2_6 = x2 + (-1 : Int32) → X8 x0 x1 x2_6 M
def wp_Main_sharedDivisor_8 (X8 : Int32 → Int32 → Int32 → Mem → Prop) (R : Int32 → Mem → Prop) (x0 : Int32) (x1 : Int32) (x2 : Int32) (M : Mem) : Prop := ((x2 ≤ (1 : Int32) → (R (1 : Int32) M)) ∧ (¬ (x2 ≤ (1 : Int32)) → (¬ x2 = (0 : Int32) ∧ ((¬ (x0 - x0 / x2 * x2) = (0 : Int32) → wp_Main_sharedDivisor_27 X8 R x0 x1 x2 M) ∧ ((x0 - x0 / x2 * x2) = (0 : Int32) → (¬ x2 = (0 : Int32) ∧ ((¬ (x1 - x1 / x2 * x2) = (0 : Int32) → wp_Main_sharedDivisor_27 X8 R x0 x1 x2 M) ∧ ((x1 - x1 / x2 * x2) = (0 : Int32) → R x2 M))))))))
def wp_Main_sharedDivisor (a0 : Int32) (a1 : Int32) (M : Mem) (R : Int32 → Mem → Prop) : Prop := ∀ (X8 : Int32 → Int32 → Int32 → Mem → Prop), (∀ (x0 : Int32) (x1 : Int32) (x2 : Int32) (M : Mem), wp_Main_sharedDivisor_8 X8 R x0 x1 x2 M → X8 x0 x1 x2 M) → ((¬ a0 = (0 : Int32) → X8 a0 a1 a0 M) ∧ (a0 = (0 : Int32) → R a1 M))
def wp_Main_odds_70 (R : Int64 → Mem → Prop) (x3 : Int32) (s0 : Int32) (M : Mem) : Prop := ((x3 ≤ (0 : Int32) → (R s0.toInt64 M)) ∧ (¬ (x3 ≤ (0 : Int32)) → (¬ x3 = (0 : Int32) ∧ R ((s0 / x3).toInt64) M)))
def wp_Main_odds (a1 : Int32) (a2 : Int32) (M : Mem) (R : Int64 → Mem → Prop) : Prop := wp_Way_hasGuest a1 M (fun r4 M3 => ((r4 = (0 : Int32) → (R (-9223372036854775808 : Int64) M3)) ∧ (¬ (r4 = (0 : Int32)) → (wp_Main_isBelow a2 (2 : Int32) M3 (fun r7 M6 => ((¬ r7 = (0 : Int32) → (wp_Search_countThroughOf a1 M6 (fun M9 => wp_Main_sharedDivisor (M9 21 6) (M9 21 7) M9 (fun r11 M10 => ((¬ a2 = (0 : Int32) → (wp_Main_odds_70  R r11 (M10 21 7) M10)) ∧ (a2 = (0 : Int32) → (wp_Main_odds_70  R r11 (M10 21 6) M10))))))) ∧ (r7 = (0 : Int32) → (R (-9223372036854775808 : Int64) M6))))))))
def wp_Sheet_renew (q0 : Nat) (a1 : Int32) (a2 : Int32) (M : Mem) (R : Mem → Prop) : Prop := wp_Arr_fill (6 + q0) 60 (0 : Int32) M (fun M1 => ∀ M2 : Mem, M2 = mset M1 (2 + q0) 1 (1 : Int32) → ∀ M3 : Mem, M3 = mset M2 (2 + q0) 2 a1 → ∀ M4 : Mem, M4 = mset M3 (2 + q0) 3 a2 → R M4)
def wp_Main_sheet (a1 : Int32) (a2 : Int32) (a3 : Int32) (M : Mem) (R : Int32 → Mem → Prop) : Prop := ∀ M1 : Mem, M1 = mset M 0 8 (0 : Int32) → wp_Main_sheetOf a1 M1 (fun o4 M2 => (o4 = none → (R (-1 : Int32) M2)) ∧ ∀ q3 : Nat, o4 = some q3 → q3 < 4 → (wp_Main_isBelow a2 (3 : Int32) M2 (fun r6 M5 => ((r6 = (0 : Int32) → (R (-2 : Int32) M5)) ∧ (¬ (r6 = (0 : Int32)) → (((a3 ≤ (60 : Int32) → ((((0 : Int32) ≤ a3 → (wp_Sheet_renew q3 a2 a3 M5 (fun M10 => R (1 : Int32) M10))) ∧ (¬ ((0 : Int32) ≤ a3) → (wp_Main_failed (4 : Int32) M5 (fun r12 M11 => R r12 M11)))))) ∧ (¬ (a3 ≤ (60 : Int32)) → (R (-2 : Int32) M5)))))))))
def wp_Main_lose_24 (R : Int32 → Mem → Prop) (q2 : Nat) (s0 : Int32) (M : Mem) : Prop := q2 < 4 ∧ (∀ M1 : Mem, M1 = mset M (2 + q2) 1 (0 : Int32) → R s0 M1)
def wp_Main_lose (a1 : Int32) (M : Mem) (R : Int32 → Mem → Prop) : Prop := wp_Main_sheetOf a1 M (fun o4 M2 => (o4 = none → (R (-1 : Int32) M2)) ∧ ∀ q3 : Nat, o4 = some q3 → q3 < 4 → ((((M2 (2 + q3) 1) = (0 : Int32) → (wp_Main_lose_24  R q3 (0 : Int32) M2)) ∧ (¬ ((M2 (2 + q3) 1) = (0 : Int32)) → (wp_Main_lose_24  R q3 (1 : Int32) M2)))))
def wp_Sheet_cut (q0 : Nat) (a1 : Int32) (M : Mem) (R : Int32 → Mem → Prop) : Prop := (((M (2 + q0) 2) = (0 : Int32) → (R a1.toInt8.toInt32 M)) ∧ (¬ ((M (2 + q0) 2) = (0 : Int32)) → (((M (2 + q0) 2) = (1 : Int32) → (R a1.toInt16.toInt32 M)) ∧ (¬ ((M (2 + q0) 2) = (1 : Int32)) → R a1 M))))
def wp_Main_put (a1 : Int32) (a2 : Int32) (a3 : Int32) (M : Mem) (R : Int32 → Mem → Prop) : Prop := ∀ M1 : Mem, M1 = mset M 0 8 (0 : Int32) → wp_Main_sheetOf a1 M1 (fun o4 M2 => (o4 = none → (R (-1 : Int32) M2)) ∧ ∀ q3 : Nat, o4 = some q3 → q3 < 4 → (((¬ (M2 (2 + q3) 1) = (0 : Int32) → (wp_Main_isBelow a2 (M2 (2 + q3) 3) M2 (fun r7 M6 => ((¬ r7 = (0 : Int32) → (wp_Sheet_cut q3 a3 M6 (fun r10 M9 => vp_in a2 60 ∧ ∀ M12 : Mem, M12 = mset M9 (6 + q3) a2.toNatClampNeg r10 → R (1 : Int32) M12))) ∧ (r7 = (0 : Int32) → (wp_Main_failed (3 : Int32) M6 (fun r14 M13 => R r14 M13))))))) ∧ ((M2 (2 + q3) 1) = (0 : Int32) → (wp_Main_failed (1 : Int32) M2 (fun r16 M15 => R r16 M15))))))
def wp_Main_cell (a1 : Int32) (a2 : Int32) (a3 : Int32) (M : Mem) (R : Int64 → Mem → Prop) : Prop := ∀ M1 : Mem, M1 = mset M 0 8 (0 : Int32) → wp_Main_sheetOf a1 M1 (fun o4 M2 => (o4 = none → (R (-9223372036854775808 : Int64) M2)) ∧ ∀ q3 : Nat, o4 = some q3 → q3 < 4 → (wp_Main_isBelow a3 (3 : Int32) M2 (fun r6 M5 => ((¬ r6 = (0 : Int32) → (wp_Sheet_faultOfTaking q3 a3 a2 (1 : Int32) M5 (fun r9 M8 => ∀ M10 : Mem, M10 = mset M8 0 8 r9 → ((¬ (M10 0 8) = (0 : Int32) → (R (-9223372036854775808 : Int64) M10)) ∧ ((M10 0 8) = (0 : Int32) → (vp_in a2 60 ∧ R ((M10 (6 + q3) a2.toNatClampNeg).toInt64) M10)))))) ∧ (r6 = (0 : Int32) → (R (-9223372036854775808 : Int64) M5))))))
def wp_Main_copy_95 (R : Int32 → Mem → Prop) (M : Mem) : Prop := wp_Main_failed (3 : Int32) M (fun r4 M3 => R r4 M3)
def wp_Main_copy_47 (R : Int32 → Mem → Prop) (M : Mem) : Prop := wp_Main_failed (1 : Int32) M (fun r2 M1 => R r2 M1)
def wp_Main_copy (a1 : Int32) (a2 : Int32) (a3 : Int32) (a4 : Int32) (a5 : Int32) (M : Mem) (R : Int32 → Mem → Prop) : Prop := ∀ M5 : Mem, M5 = mset M 0 8 (0 : Int32) → wp_Main_sheetOf a1 M5 (fun o8 M6 => (o8 = none → (wp_Main_sheetOf a3 M6 (fun o11 M9 => (o11 = none → (R (-1 : Int32) M9)) ∧ ∀ q10 : Nat, o11 = some q10 → q10 < 4 → (R (-1 : Int32) M9)))) ∧ ∀ q7 : Nat, o8 = some q7 → q7 < 4 → (wp_Main_sheetOf a3 M6 (fun o14 M12 => (o14 = none → (R (-1 : Int32) M12)) ∧ ∀ q13 : Nat, o14 = some q13 → q13 < 4 → ((((M12 (2 + q7) 1) = (0 : Int32) → (wp_Main_copy_47  R M12)) ∧ (¬ ((M12 (2 + q7) 1) = (0 : Int32)) → (((¬ (M12 (2 + q13) 1) = (0 : Int32) → ((((M12 (2 + q7) 2) = (M12 (2 + q13) 2) → (wp_Sheet_holds q7 a2 a5 M12 (fun r19 M18 => ((r19 = (0 : Int32) → (wp_Main_copy_95  R M18)) ∧ (¬ (r19 = (0 : Int32)) → (wp_Sheet_holds q13 a4 a5 M18 (fun r22 M21 => ((¬ r22 = (0 : Int32) → (¬ a2 < (0 : Int32) ∧ ¬ a4 < (0 : Int32) ∧ ¬ a5 < (0 : Int32) ∧ a2.toNatClampNeg + a5.toNatClampNeg ≤ 60 ∧ a4.toNatClampNeg + a5.toNatClampNeg ≤ 60 ∧ ∀ M29 : Mem, M29 = mrow M21 (6 + q13) (va_cpy (M21 (6 + q7)) (M21 (6 + q13)) a2.toNatClampNeg a4.toNatClampNeg a5.toNatClampNeg) → R a5 M29)) ∧ (r22 = (0 : Int32) → (wp_Main_copy_95  R M21)))))))))) ∧ (¬ ((M12 (2 + q7) 2) = (M12 (2 + q13) 2)) → (wp_Main_failed (2 : Int32) M12 (fun r31 M30 => R r31 M30)))))) ∧ ((M12 (2 + q13) 1) = (0 : Int32) → (wp_Main_copy_47  R M12))))))))))
def wp_Main_leave (a1 : Int32) (M : Mem) (R : Mem → Prop) : Prop := ∀ M1 : Mem, M1 = mset M 0 7 (((31 : Int32) * (M 0 7)) + a1) → R M1
def wp_Main_bodyOfHouse (a1 : Int32) (M : Mem) (R : Int32 → Mem → Prop) : Prop := wp_Main_leave (1 : Int32) M (fun M1 => vp_in a1 6 ∧ R (M1 16 a1.toNatClampNeg) M1)
def wp_Main_bodyOfDouble (a1 : Int32) (M : Mem) (R : Int32 → Mem → Prop) : Prop := wp_Main_leave (2 : Int32) M (fun M1 => wp_Main_bodyOfHouse a1 M1 (fun r3 M2 => R (r3 + (100 : Int32)) M2))
def wp_Main_bodyOfLearning (a1 : Int32) (M : Mem) (R : Int32 → Mem → Prop) : Prop := wp_Main_leave (3 : Int32) M (fun M1 => wp_Main_bodyOfDouble a1 M1 (fun r3 M2 => wp_Main_bodyOfHouse a1 M2 (fun r5 M4 => R (r3 + r5) M4)))
def wp_Main_tell (a1 : Int32) (M : Mem) (R : Int32 → Mem → Prop) : Prop := wp_Way_hasHouse a1 M (fun r2 M1 => ((¬ r2 = (0 : Int32) → (vp_in a1 6 ∧ (((M1 13 a1.toNatClampNeg) = (1 : Int32) → (wp_Main_bodyOfDouble a1 M1 (fun r7 M6 => R r7 M6))) ∧ (¬ ((M1 13 a1.toNatClampNeg) = (1 : Int32)) → (((M1 13 a1.toNatClampNeg) = (2 : Int32) → (wp_Main_bodyOfLearning a1 M1 (fun r10 M9 => R r10 M9))) ∧ (¬ ((M1 13 a1.toNatClampNeg) = (2 : Int32)) → (wp_Main_bodyOfHouse a1 M1 (fun r12 M11 => R r12 M11)))))))) ∧ (r2 = (0 : Int32) → (R (-1 : Int32) M1))))
def wp_Main_ownKnock (M : Mem) (R : Int32 → Mem → Prop) : Prop := wp_Main_leave (5 : Int32) M (fun M1 => R (80 : Int32) M1)
def wp_Main_lentKnock (a1 : Int32) (M : Mem) (R : Int32 → Mem → Prop) : Prop := wp_Main_leave (4 : Int32) M (fun M1 => R a1 M1)
def wp_Main_knock (a1 : Int32) (M : Mem) (R : Int32 → Mem → Prop) : Prop := wp_Way_hasHouse a1 M (fun r2 M1 => ((¬ r2 = (0 : Int32) → (vp_in a1 6 ∧ ((¬ (M1 13 a1.toNatClampNeg) = (2 : Int32) → (wp_Main_lentKnock a1 M1 (fun r7 M6 => R r7 M6))) ∧ ((M1 13 a1.toNatClampNeg) = (2 : Int32) → (wp_Main_ownKnock M1 (fun r9 M8 => R r9 M8)))))) ∧ (r2 = (0 : Int32) → (R (-1 : Int32) M1))))
def wp_Main_as (a1 : Int32) (a2 : Int32) (M : Mem) (R : Int32 → Mem → Prop) : Prop := ∀ M1 : Mem, M1 = mset M 0 8 (0 : Int32) → wp_Way_hasHouse a1 M1 (fun r3 M2 => ((¬ r3 = (0 : Int32) → (wp_Main_isBelow a2 (3 : Int32) M2 (fun r6 M5 => ((¬ r6 = (0 : Int32) → (vp_in a1 6 ∧ (((M5 13 a1.toNatClampNeg) < a2 → (wp_Main_failed (2 : Int32) M5 (fun r11 M10 => R r11 M10))) ∧ (¬ ((M5 13 a1.toNatClampNeg) < a2) → (R (1 : Int32) M5))))) ∧ (r6 = (0 : Int32) → (R (-2 : Int32) M5)))))) ∧ (r3 = (0 : Int32) → (R (-1 : Int32) M2))))
def wp_Main_trace (M : Mem) (R : Int32 → Mem → Prop) : Prop := R (M 0 7) M
def wp_Main_fault (M : Mem) (R : Int32 → Mem → Prop) : Prop := R (M 0 8) M
def wp_Main_many (a1 : Int32) (M : Mem) (R : Int32 → Mem → Prop) : Prop := ((a1 = (0 : Int32) → (R (M 12 5) M)) ∧ (¬ (a1 = (0 : Int32)) → ((a1 = (1 : Int32) → (R (M 12 6) M)) ∧ (¬ (a1 = (1 : Int32)) → ((a1 = (2 : Int32) → (R (M 26 4) M)) ∧ (¬ (a1 = (2 : Int32)) → (R (-2 : Int32) M)))))))
def wp_Model_within (a0 : Int32) (a1 : Int32) (a2 : Int32) (M : Mem) (R : Int32 → Mem → Prop) : Prop := ((a0 < a1 → (R (0 : Int32) M)) ∧ (¬ (a0 < a1) → (((a2 < a0 → (R (0 : Int32) M)) ∧ (¬ (a2 < a0) → (R (1 : Int32) M))))))
def wp_Model_isSheet (a0 : Int32) (M : Mem) (R : Int32 → Mem → Prop) : Prop := wp_Model_within a0 (0 : Int32) (3 : Int32) M (fun r2 M1 => R r2 M1)
def wp_Model_isSort (a0 : Int32) (M : Mem) (R : Int32 → Mem → Prop) : Prop := wp_Model_within a0 (0 : Int32) (2 : Int32) M (fun r2 M1 => R r2 M1)
def wp_Model_against_23 (R : Int32 → Mem → Prop) (x1 : Int32) (x3 : Int32) (x4 : Int32) (M : Mem) : Prop := vp_in x1 4 ∧ ((¬ (M 30 x1.toNatClampNeg) = (-9 : Int32) → ((((0 : Int32) ≤ x4 → (((x3 < (0 : Int32) → (R (3 : Int32) M)) ∧ (¬ (x3 < (0 : Int32)) → (vp_in x1 4 ∧ (((M 31 x1.toNatClampNeg) < x3 → (R (3 : Int32) M)) ∧ (¬ ((M 31 x1.toNatClampNeg) < x3) → (vp_in x1 4 ∧ ((x4 ≤ ((M 31 x1.toNatClampNeg) - x3) → (R (0 : Int32) M)) ∧ (¬ (x4 ≤ ((M 31 x1.toNatClampNeg) - x3)) → (R (3 : Int32) M))))))))))) ∧ (¬ ((0 : Int32) ≤ x4) → (R (4 : Int32) M))))) ∧ ((M 30 x1.toNatClampNeg) = (-9 : Int32) → (R (1 : Int32) M)))
def wp_Model_against (a1 : Int32) (a2 : Int32) (a3 : Int32) (a4 : Int32) (M : Mem) (R : Int32 → Mem → Prop) : Prop := vp_in a1 4 ∧ (((M 30 a1.toNatClampNeg) = (-9 : Int32) → (wp_Model_against_23  R a1 a3 a4 M)) ∧ (¬ ((M 30 a1.toNatClampNeg) = (-9 : Int32)) → (vp_in a1 4 ∧ (((M 30 a1.toNatClampNeg) = a2 → (wp_Model_against_23  R a1 a3 a4 M)) ∧ (¬ ((M 30 a1.toNatClampNeg) = a2) → (R (2 : Int32) M))))))
def wp_Model_fails (a1 : Int32) (M : Mem) (R : Int32 → Mem → Prop) : Prop := ∀ M1 : Mem, M1 = mset M 29 0 a1 → R ((-10 : Int32) - a1) M1
def wp_Model_isSign (a1 : Int32) (a2 : Int32) (M : Mem) (R : Int32 → Mem → Prop) : Prop := ((a1 ≤ (M 29 13) → (R (0 : Int32) M)) ∧ (¬ (a1 ≤ (M 29 13)) → (vp_in (M 29 13) 240 ∧ (((M 32 (M 29 13).toNatClampNeg) = a2 → (∀ M4 : Mem, M4 = mset M 29 13 ((M 29 13) + (1 : Int32)) → R (1 : Int32) M4)) ∧ (¬ ((M 32 (M 29 13).toNatClampNeg) = a2) → (R (0 : Int32) M))))))
def wp_Model_digit (a1 : Int32) (a2 : Int32) (a3 : Int32) (M : Mem) (R : Int32 → Mem → Prop) : Prop := ((a1 ≤ (M 29 13) → (R (-9 : Int32) M)) ∧ (¬ (a1 ≤ (M 29 13)) → (vp_in (M 29 13) 240 ∧ wp_Model_within (M 32 (M 29 13).toNatClampNeg) ((48 : Int32) + a2) ((48 : Int32) + a3) M (fun r4 M3 => ((¬ r4 = (0 : Int32) → (∀ M6 : Mem, M6 = mset M3 29 13 ((M3 29 13) + (1 : Int32)) → vp_in ((M6 29 13) - (1 : Int32)) 240 ∧ R ((M6 32 ((M6 29 13) - (1 : Int32)).toNatClampNeg) - (48 : Int32)) M6)) ∧ (r4 = (0 : Int32) → (R (-9 : Int32) M3)))))))
def wp_Model_readOneHouse_122 (X93 : Int32 → Int32 → Int32 → Mem → Prop) (R : Int32 → Mem → Prop) (x1 : Int32) (x2 : Int32) (x4 : Int32) (s1 : Int32) (s3 : Int32) (s4 : Int32) (s5 : Int32) (M : Mem) : Prop := wp_Model_digit s3 s4 s5 M (fun r13 M12 => vp_in s1 24 ∧ ∀ M15 : Mem, M15 = mset M12 38 s1.toNatClampNeg r13 → vp_in (x2 + x4) 24 ∧ ((¬ (M15 38 (x2 + x4).toNatClampNeg) = (-9 : Int32) → (∀ x4_18 : Int32, x4_18 = x4 + (1 : Int32) → X93 x1 x2 x4_18 M15)) ∧ ((M15 38 (x2 + x4).toNatClampNeg) = (-9 : Int32) → (R (0 : Int32) M15))))
def wp_Model_readOneHouse_66 (X93 : Int32 → Int32 → Int32 → Mem → Prop) (R : Int32 → Mem → Prop) (x1 : Int32) (x2 : Int32) (s1 : Int32) (s2 : Int32) (M : Mem) : Prop := vp_in s1 24 ∧ ∀ M5 : Mem, M5 = mset M 38 s1.toNatClampNeg s2 → vp_in x2 24 ∧ ((¬ (M5 38 x2.toNatClampNeg) = (-9 : Int32) → (∀ M8 : Mem, M8 = mset M5 29 13 ((M5 29 13) + (1 : Int32)) → X93 x1 x2 (1 : Int32) M8)) ∧ ((M5 38 x2.toNatClampNeg) = (-9 : Int32) → (R (0 : Int32) M5)))
def wp_Model_readOneHouse_28 (X93 : Int32 → Int32 → Int32 → Mem → Prop) (R : Int32 → Mem → Prop) (x1 : Int32) (x2 : Int32) (s0 : Int32) (M : Mem) : Prop := ((¬ s0 = (104 : Int32) → (((¬ s0 = (100 : Int32) → (((¬ s0 = (108 : Int32) → (wp_Model_readOneHouse_66 X93 R x1 x2 x2 (-9 : Int32) M)) ∧ (s0 = (108 : Int32) → (wp_Model_readOneHouse_66 X93 R x1 x2 x2 (2 : Int32) M))))) ∧ (s0 = (100 : Int32) → (wp_Model_readOneHouse_66 X93 R x1 x2 x2 (1 : Int32) M))))) ∧ (s0 = (104 : Int32) → (wp_Model_readOneHouse_66 X93 R x1 x2 x2 (0 : Int32) M)))
def wp_Model_readOneHouse_93 (X93 : Int32 → Int32 → Int32 → Mem → Prop) (R : Int32 → Mem → Prop) (x1 : Int32) (x2 : Int32) (x4 : Int32) (M : Mem) : Prop := (((4 : Int32) ≤ x4 → (∀ M10 : Mem, M10 = mset M 29 14 ((M 29 14) + (1 : Int32)) → R (1 : Int32) M10)) ∧ (¬ ((4 : Int32) ≤ x4) → (((¬ x4 = (3 : Int32) → (wp_Model_readOneHouse_122 X93 R x1 x2 x4 (x2 + x4) x1 (0 : Int32) (5 : Int32) M)) ∧ (x4 = (3 : Int32) → (wp_Model_readOneHouse_122 X93 R x1 x2 x4 (x2 + x4) x1 (0 : Int32) (6 : Int32) M))))))
def wp_Model_readOneHouse (a1 : Int32) (M : Mem) (R : Int32 → Mem → Prop) : Prop := ∀ (X93 : Int32 → Int32 → Int32 → Mem → Prop), (∀ (x1 : Int32) (x2 : Int32) (x4 : Int32) (M : Mem), wp_Model_readOneHouse_93 X93 R x1 x2 x4 M → X93 x1 x2 x4 M) → ∀ x2_19 : Int32, x2_19 = (4 : Int32) * (M 29 14) → ((a1 ≤ (M 29 13) → (wp_Model_readOneHouse_28 X93 R a1 x2_19 (0 : Int32) M)) ∧ (¬ (a1 ≤ (M 29 13)) → (vp_in (M 29 13) 240 ∧ wp_Model_readOneHouse_28 X93 R a1 x2_19 (M 32 (M 29 13).toNatClampNeg) M)))
def wp_Model_readGuest_32 (R : Int32 → Mem → Prop) (x2 : Int32) (s1 : Int32) (s2 : Int32) (s3 : Int32) (M : Mem) : Prop := wp_Model_digit s1 s2 s3 M (fun r2 M1 => vp_in (M1 29 15) 5 ∧ ∀ M4 : Mem, M4 = mset M1 39 (M1 29 15).toNatClampNeg (((10 : Int32) * x2) + r2) → ∀ M5 : Mem, M5 = mset M4 29 15 ((M4 29 15) + (1 : Int32)) → ((r2 = (-9 : Int32) → (R (0 : Int32) M5)) ∧ (¬ (r2 = (-9 : Int32)) → (R (1 : Int32) M5))))
def wp_Model_readGuest (a1 : Int32) (M : Mem) (R : Int32 → Mem → Prop) : Prop := wp_Model_digit a1 (0 : Int32) (6 : Int32) M (fun r8 M7 => ((¬ r8 = (-9 : Int32) → (((¬ r8 = (6 : Int32) → (wp_Model_readGuest_32  R r8 a1 (0 : Int32) (9 : Int32) M7)) ∧ (r8 = (6 : Int32) → (wp_Model_readGuest_32  R r8 a1 (0 : Int32) (3 : Int32) M7))))) ∧ (r8 = (-9 : Int32) → (R (0 : Int32) M7))))
def wp_Model_readWay_117 (X40 : Int32 → Mem → Prop) (X89 : Int32 → Mem → Prop) (R : Int32 → Mem → Prop) (x1 : Int32) (M : Mem) : Prop := ((¬ (M 29 13) = x1 → (R (0 : Int32) M)) ∧ ((M 29 13) = x1 → (R (1 : Int32) M)))
def wp_Model_readWay_69 (X40 : Int32 → Mem → Prop) (X89 : Int32 → Mem → Prop) (R : Int32 → Mem → Prop) (x1 : Int32) (M : Mem) : Prop := wp_Model_isSign x1 (44 : Int32) M (fun r9 M8 => ((r9 = (0 : Int32) → (R (0 : Int32) M8)) ∧ (¬ (r9 = (0 : Int32)) → (wp_Model_readGuest x1 M8 (fun r12 M11 => ((¬ r12 = (0 : Int32) → X89 x1 M11) ∧ (r12 = (0 : Int32) → (R (0 : Int32) M11))))))))
def wp_Model_readWay_40 (X40 : Int32 → Mem → Prop) (X89 : Int32 → Mem → Prop) (R : Int32 → Mem → Prop) (x1 : Int32) (M : Mem) : Prop := (((6 : Int32) ≤ (M 29 14) → wp_Model_readWay_69 X40 X89 R x1 M) ∧ (¬ ((6 : Int32) ≤ (M 29 14)) → (wp_Model_isSign x1 (59 : Int32) M (fun r3 M2 => ((r3 = (0 : Int32) → wp_Model_readWay_69 X40 X89 R x1 M2) ∧ (¬ (r3 = (0 : Int32)) → (wp_Model_readOneHouse x1 M2 (fun r6 M5 => ((¬ r6 = (0 : Int32) → X40 x1 M5) ∧ (r6 = (0 : Int32) → (R (0 : Int32) M5)))))))))))
def wp_Model_readWay_89 (X40 : Int32 → Mem → Prop) (X89 : Int32 → Mem → Prop) (R : Int32 → Mem → Prop) (x1 : Int32) (M : Mem) : Prop := (((5 : Int32) ≤ (M 29 15) → wp_Model_readWay_117 X40 X89 R x1 M) ∧ (¬ ((5 : Int32) ≤ (M 29 15)) → (wp_Model_isSign x1 (44 : Int32) M (fun r16 M15 => ((r16 = (0 : Int32) → wp_Model_readWay_117 X40 X89 R x1 M15) ∧ (¬ (r16 = (0 : Int32)) → (wp_Model_readGuest x1 M15 (fun r19 M18 => ((¬ r19 = (0 : Int32) → X89 x1 M18) ∧ (r19 = (0 : Int32) → (R (0 : Int32) M18)))))))))))
def wp_Model_readWay (a1 : Int32) (M : Mem) (R : Int32 → Mem → Prop) : Prop := ∀ (X40 : Int32 → Mem → Prop) (X89 : Int32 → Mem → Prop), (∀ (x1 : Int32) (M : Mem), wp_Model_readWay_40 X40 X89 R x1 M → X40 x1 M) → (∀ (x1 : Int32) (M : Mem), wp_Model_readWay_89 X40 X89 R x1 M → X89 x1 M) → ∀ M22 : Mem, M22 = mset M 29 14 (0 : Int32) → ∀ M23 : Mem, M23 = mset M22 29 15 (0 : Int32) → wp_Model_isSign a1 (120 : Int32) M23 (fun r25 M24 => ((r25 = (0 : Int32) → (R (0 : Int32) M24)) ∧ (¬ (r25 = (0 : Int32)) → (wp_Model_isSign a1 (59 : Int32) M24 (fun r28 M27 => ((r28 = (0 : Int32) → (R (0 : Int32) M27)) ∧ (¬ (r28 = (0 : Int32)) → (wp_Model_readOneHouse a1 M27 (fun r31 M30 => ((¬ r31 = (0 : Int32) → X40 a1 M30) ∧ (r31 = (0 : Int32) → (R (0 : Int32) M30))))))))))))
def wp_Model_way_103 (X103 : Int32 → Mem → Prop) (X191 : Int32 → Mem → Prop) (R : Int32 → Mem → Prop) (x7 : Int32) (M : Mem) : Prop := (((M 29 5) ≤ x7 → (X191 (0 : Int32) M)) ∧ (¬ ((M 29 5) ≤ x7) → (vp_in ((4 : Int32) * x7) 24 ∧ vp_in x7 6 ∧ ∀ M4 : Mem, M4 = mset M 33 x7.toNatClampNeg (M 38 ((4 : Int32) * x7).toNatClampNeg) → vp_in (((4 : Int32) * x7) + (1 : Int32)) 24 ∧ vp_in x7 6 ∧ ∀ M7 : Mem, M7 = mset M4 34 x7.toNatClampNeg (M4 38 (((4 : Int32) * x7) + (1 : Int32)).toNatClampNeg) → vp_in (((4 : Int32) * x7) + (2 : Int32)) 24 ∧ vp_in x7 6 ∧ ∀ M10 : Mem, M10 = mset M7 35 x7.toNatClampNeg (M7 38 (((4 : Int32) * x7) + (2 : Int32)).toNatClampNeg) → vp_in (((4 : Int32) * x7) + (3 : Int32)) 24 ∧ vp_in x7 6 ∧ ∀ M13 : Mem, M13 = mset M10 36 x7.toNatClampNeg (M10 38 (((4 : Int32) * x7) + (3 : Int32)).toNatClampNeg) → ∀ x7_14 : Int32, x7_14 = x7 + (1 : Int32) → X103 x7_14 M13)))
def wp_Model_way_191 (X103 : Int32 → Mem → Prop) (X191 : Int32 → Mem → Prop) (R : Int32 → Mem → Prop) (x7 : Int32) (M : Mem) : Prop := (((M 29 6) ≤ x7 → (∀ M16 : Mem, M16 = mset M 29 23 (0 : Int32) → R (M16 29 5) M16)) ∧ (¬ ((M 29 6) ≤ x7) → (vp_in x7 5 ∧ vp_in x7 5 ∧ ∀ M19 : Mem, M19 = mset M 37 x7.toNatClampNeg (M 39 x7.toNatClampNeg) → ∀ x7_20 : Int32, x7_20 = x7 + (1 : Int32) → X191 x7_20 M19)))
def wp_Model_way (a1 : Int32) (a2 : Int32) (a3 : Int32) (a4 : Int32) (M : Mem) (R : Int32 → Mem → Prop) : Prop := ∀ (X103 : Int32 → Mem → Prop) (X191 : Int32 → Mem → Prop), (∀ (x7 : Int32) (M : Mem), wp_Model_way_103 X103 X191 R x7 M → X103 x7 M) → (∀ (x7 : Int32) (M : Mem), wp_Model_way_191 X103 X191 R x7 M → X191 x7 M) → ∀ M21 : Mem, M21 = mset M 29 0 (0 : Int32) → wp_Model_isSheet a1 M21 (fun r23 M22 => ((¬ r23 = (0 : Int32) → (wp_Model_isSort a2 M22 (fun r26 M25 => ((¬ r26 = (0 : Int32) → (wp_Model_against a1 a2 a3 a4 M25 (fun r29 M28 => ((r29 = (0 : Int32) → (∀ x6_31 : Int32, x6_31 = ((60 : Int32) * a1) + a3 → ∀ M32 : Mem, M32 = mset M28 29 13 x6_31 → wp_Model_readWay (x6_31 + a4) M32 (fun r34 M33 => ((¬ r34 = (0 : Int32) → (∀ M36 : Mem, M36 = mset M33 29 5 (M33 29 14) → ∀ M37 : Mem, M37 = mset M36 29 6 (M36 29 15) → X103 (0 : Int32) M37)) ∧ (r34 = (0 : Int32) → (R ((-100 : Int32) - ((M33 29 13) - x6_31)) M33)))))) ∧ (¬ (r29 = (0 : Int32)) → (wp_Model_fails r29 M28 (fun r39 M38 => R r39 M38))))))) ∧ (r26 = (0 : Int32) → (R (-2 : Int32) M25)))))) ∧ (r23 = (0 : Int32) → (R (-1 : Int32) M22))))
def wp_Model_isHouse (a1 : Int32) (M : Mem) (R : Int32 → Mem → Prop) : Prop := ((a1 < (0 : Int32) → (R (0 : Int32) M)) ∧ (¬ (a1 < (0 : Int32)) → ((((M 29 5) ≤ a1 → (R (0 : Int32) M)) ∧ (¬ ((M 29 5) ≤ a1) → (R (1 : Int32) M))))))
def wp_Model_ofHouse (a1 : Int32) (a2 : Int32) (M : Mem) (R : Int32 → Mem → Prop) : Prop := wp_Model_isHouse a1 M (fun r2 M1 => ((¬ r2 = (0 : Int32) → (((¬ a2 = (0 : Int32) → (((¬ a2 = (1 : Int32) → (((¬ a2 = (2 : Int32) → (((¬ a2 = (3 : Int32) → (R (-2 : Int32) M1)) ∧ (a2 = (3 : Int32) → (vp_in a1 6 ∧ R (M1 36 a1.toNatClampNeg) M1))))) ∧ (a2 = (2 : Int32) → (vp_in a1 6 ∧ R (M1 35 a1.toNatClampNeg) M1))))) ∧ (a2 = (1 : Int32) → (vp_in a1 6 ∧ R (M1 34 a1.toNatClampNeg) M1))))) ∧ (a2 = (0 : Int32) → (vp_in a1 6 ∧ R (M1 33 a1.toNatClampNeg) M1))))) ∧ (r2 = (0 : Int32) → (R (-1 : Int32) M1))))
def wp_Model_isGuest (a1 : Int32) (M : Mem) (R : Int32 → Mem → Prop) : Prop := ((a1 < (0 : Int32) → (R (0 : Int32) M)) ∧ (¬ (a1 < (0 : Int32)) → ((((M 29 6) ≤ a1 → (R (0 : Int32) M)) ∧ (¬ ((M 29 6) ≤ a1) → (R (1 : Int32) M))))))
def wp_Model_gear (a1 : Int32) (M : Mem) (R : Int32 → Mem → Prop) : Prop := wp_Model_isGuest a1 M (fun r2 M1 => ((r2 = (0 : Int32) → (R (-1 : Int32) M1)) ∧ (¬ (r2 = (0 : Int32)) → (vp_in a1 5 ∧ R (M1 37 a1.toNatClampNeg) M1))))
def wp_Model_isSet (a0 : Int32) (M : Mem) (R : Int32 → Mem → Prop) : Prop := wp_Model_within a0 (0 : Int32) (63 : Int32) M (fun r2 M1 => R r2 M1)
def wp_Model_give (a1 : Int32) (a2 : Int32) (M : Mem) (R : Int32 → Mem → Prop) : Prop := wp_Model_isGuest a1 M (fun r2 M1 => ((¬ r2 = (0 : Int32) → (wp_Model_isSet a2 M1 (fun r5 M4 => ((¬ r5 = (0 : Int32) → (vp_in a1 5 ∧ ∀ x3_8 : Int32, x3_8 = M4 37 a1.toNatClampNeg → vp_in a1 5 ∧ ∀ M10 : Mem, M10 = mset M4 37 a1.toNatClampNeg a2 → R x3_8 M10)) ∧ (r5 = (0 : Int32) → (R (-2 : Int32) M4)))))) ∧ (r2 = (0 : Int32) → (R (-1 : Int32) M1))))
def wp_Model_bar (a1 : Int32) (a2 : Int32) (M : Mem) (R : Int32 → Mem → Prop) : Prop := wp_Model_isHouse a1 M (fun r2 M1 => ((¬ r2 = (0 : Int32) → (wp_Model_within a2 (0 : Int32) (6 : Int32) M1 (fun r5 M4 => ((¬ r5 = (0 : Int32) → (vp_in a1 6 ∧ ∀ x3_8 : Int32, x3_8 = M4 36 a1.toNatClampNeg → vp_in a1 6 ∧ ∀ M10 : Mem, M10 = mset M4 36 a1.toNatClampNeg a2 → R x3_8 M10)) ∧ (r5 = (0 : Int32) → (R (-2 : Int32) M4)))))) ∧ (r2 = (0 : Int32) → (R (-1 : Int32) M1))))
def wp_Model_used (a1 : Int32) (a2 : Int32) (a3 : Int32) (M : Mem) (R : Int32 → Mem → Prop) : Prop := vp_in a1 6 ∧ ∀ x4_2 : Int32, x4_2 = ((a2 &&& (a3 ^^^ (-1 : Int32))) &&& (((1 : Int32) <<< ((M 36 a1.toNatClampNeg) &&& (31 : Int32))) ^^^ (-1 : Int32))) &&& (((1 : Int32) <<< ((M 29 12) &&& (31 : Int32))) ^^^ (-1 : Int32)) → vp_in a1 6 ∧ ∀ x5_4 : Int32, x5_4 = x4_2 &&& ((1 : Int32) <<< ((M 34 a1.toNatClampNeg) &&& (31 : Int32))) → vp_in a1 6 ∧ ∀ x6_6 : Int32, x6_6 = x4_2 &&& ((1 : Int32) <<< ((M 35 a1.toNatClampNeg) &&& (31 : Int32))) → vp_in a1 6 ∧ ((¬ (M 33 a1.toNatClampNeg) = (1 : Int32) → (((x5_4 = (0 : Int32) → (((x6_6 = (0 : Int32) → (R (-9 : Int32) M)) ∧ (¬ (x6_6 = (0 : Int32)) → R x6_6 M)))) ∧ (¬ (x5_4 = (0 : Int32)) → R x5_4 M)))) ∧ ((M 33 a1.toNatClampNeg) = (1 : Int32) → (((x5_4 = (0 : Int32) → (R (-9 : Int32) M)) ∧ (¬ (x5_4 = (0 : Int32)) → (((x6_6 = (0 : Int32) → (R (-9 : Int32) M)) ∧ (¬ (x6_6 = (0 : Int32)) → (R (x5_4 ||| x6_6) M)))))))))
def wp_Model_passes (a1 : Int32) (a2 : Int32) (a3 : Int32) (M : Mem) (R : Int32 → Mem → Prop) : Prop := wp_Model_isHouse a1 M (fun r2 M1 => ((¬ r2 = (0 : Int32) → (wp_Model_isSet a2 M1 (fun r5 M4 => ((r5 = (0 : Int32) → (R (-2 : Int32) M4)) ∧ (¬ (r5 = (0 : Int32)) → (wp_Model_isSet a3 M4 (fun r8 M7 => ((r8 = (0 : Int32) → (R (-2 : Int32) M7)) ∧ (¬ (r8 = (0 : Int32)) → (wp_Model_used a1 a2 a3 M7 (fun r11 M10 => R r11 M10))))))))))) ∧ (r2 = (0 : Int32) → (R (-1 : Int32) M1))))
def wp_Model_allGuests (M : Mem) (R : Int32 → Mem → Prop) : Prop := R (((1 : Int32) <<< ((M 29 6) &&& (31 : Int32))) - (1 : Int32)) M
def wp_Model_begin_7 (X7 : Int32 → Mem → Prop) (X31 : Int32 → Mem → Prop) (R : Mem → Prop) (x1 : Int32) (M : Mem) : Prop := (((M 29 6) ≤ x1 → (X31 (0 : Int32) M)) ∧ (¬ ((M 29 6) ≤ x1) → (vp_in x1 5 ∧ ∀ M3 : Mem, M3 = mset M 40 x1.toNatClampNeg (-9 : Int32) → ∀ x1_4 : Int32, x1_4 = x1 + (1 : Int32) → X7 x1_4 M3)))
def wp_Model_begin_31 (X7 : Int32 → Mem → Prop) (X31 : Int32 → Mem → Prop) (R : Mem → Prop) (x1 : Int32) (M : Mem) : Prop := (((M 29 5) ≤ x1 → R M) ∧ (¬ ((M 29 5) ≤ x1) → (vp_in x1 6 ∧ ∀ M7 : Mem, M7 = mset M 41 x1.toNatClampNeg (0 : Int32) → ∀ x1_8 : Int32, x1_8 = x1 + (1 : Int32) → X31 x1_8 M7)))
def wp_Model_begin (M : Mem) (R : Mem → Prop) : Prop := ∀ (X7 : Int32 → Mem → Prop) (X31 : Int32 → Mem → Prop), (∀ (x1 : Int32) (M : Mem), wp_Model_begin_7 X7 X31 R x1 M → X7 x1 M) → (∀ (x1 : Int32) (M : Mem), wp_Model_begin_31 X7 X31 R x1 M → X31 x1 M) → ∀ M9 : Mem, M9 = mset M 29 18 (0 : Int32) → X7 (0 : Int32) M9
def wp_Model_gearOfAll_32 (X4 : Int32 → Int32 → Int32 → Mem → Prop) (R : Int32 → Mem → Prop) (x1 : Int32) (x3 : Int32) (s0 : Int32) (s1 : Int32) (M : Mem) : Prop := ∀ x2_4 : Int32, x2_4 = s0 ||| s1 → ∀ x3_5 : Int32, x3_5 = x3 + (1 : Int32) → X4 x1 x2_4 x3_5 M
def wp_Model_gearOfAll_4 (X4 : Int32 → Int32 → Int32 → Mem → Prop) (R : Int32 → Mem → Prop) (x1 : Int32) (x2 : Int32) (x3 : Int32) (M : Mem) : Prop := (((M 29 6) ≤ x3 → R x2 M) ∧ (¬ ((M 29 6) ≤ x3) → (((¬ ((x1 >>> (x3 &&& (31 : Int32))) &&& (1 : Int32)) = (1 : Int32) → (wp_Model_gearOfAll_32 X4 R x1 x3 x2 (0 : Int32) M)) ∧ (((x1 >>> (x3 &&& (31 : Int32))) &&& (1 : Int32)) = (1 : Int32) → (vp_in x3 5 ∧ wp_Model_gearOfAll_32 X4 R x1 x3 x2 (M 37 x3.toNatClampNeg) M))))))
def wp_Model_gearOfAll (a1 : Int32) (M : Mem) (R : Int32 → Mem → Prop) : Prop := ∀ (X4 : Int32 → Int32 → Int32 → Mem → Prop), (∀ (x1 : Int32) (x2 : Int32) (x3 : Int32) (M : Mem), wp_Model_gearOfAll_4 X4 R x1 x2 x3 M → X4 x1 x2 x3 M) → X4 a1 (0 : Int32) (0 : Int32) M
def wp_Model_visit_116 (X80 : Int32 → Int32 → Int32 → Mem → Prop) (R : Int32 → Mem → Prop) (x2 : Int32) (x3 : Int32) (x5 : Int32) (s1 : Int32) (s2 : Int32) (M : Mem) : Prop := vp_in s1 5 ∧ ∀ M5 : Mem, M5 = mset M 40 s1.toNatClampNeg s2 → ∀ x5_6 : Int32, x5_6 = x5 + (1 : Int32) → X80 x2 x3 x5_6 M5
def wp_Model_visit_80 (X80 : Int32 → Int32 → Int32 → Mem → Prop) (R : Int32 → Mem → Prop) (x2 : Int32) (x3 : Int32) (x5 : Int32) (M : Mem) : Prop := (((M 29 6) ≤ x5 → (R (1 : Int32) M)) ∧ (¬ ((M 29 6) ≤ x5) → (((¬ ((x3 >>> (x5 &&& (31 : Int32))) &&& (1 : Int32)) = (1 : Int32) → (vp_in x5 5 ∧ wp_Model_visit_116 X80 R x2 x3 x5 x5 (M 40 x5.toNatClampNeg) M)) ∧ (((x3 >>> (x5 &&& (31 : Int32))) &&& (1 : Int32)) = (1 : Int32) → wp_Model_visit_116 X80 R x2 x3 x5 x5 x2 M)))))
def wp_Model_visit (a1 : Int32) (a2 : Int32) (M : Mem) (R : Int32 → Mem → Prop) : Prop := ∀ (X80 : Int32 → Int32 → Int32 → Mem → Prop), (∀ (x2 : Int32) (x3 : Int32) (x5 : Int32) (M : Mem), wp_Model_visit_80 X80 R x2 x3 x5 M → X80 x2 x3 x5 M) → ∀ x3_7 : Int32, x3_7 = a1 &&& ((M 29 18) ^^^ (-1 : Int32)) → ((¬ x3_7 = (0 : Int32) → (wp_Model_gearOfAll x3_7 M (fun r10 M9 => vp_in a2 6 ∧ wp_Model_used a2 r10 (M9 41 a2.toNatClampNeg) M9 (fun r13 M12 => ((r13 = (-9 : Int32) → (∀ M15 : Mem, M15 = mset M12 29 18 ((M12 29 18) ||| x3_7) → X80 a2 x3_7 (0 : Int32) M15)) ∧ (¬ (r13 = (-9 : Int32)) → (vp_in a2 6 ∧ vp_in a2 6 ∧ ((¬ (M12 33 a2.toNatClampNeg) = (2 : Int32) → (vp_in a2 6 ∧ ∀ M20 : Mem, M20 = mset M12 41 a2.toNatClampNeg ((M12 41 a2.toNatClampNeg) ||| (0 : Int32)) → R (0 : Int32) M20)) ∧ ((M12 33 a2.toNatClampNeg) = (2 : Int32) → (vp_in a2 6 ∧ ∀ M22 : Mem, M22 = mset M12 41 a2.toNatClampNeg ((M12 41 a2.toNatClampNeg) ||| r13) → R (0 : Int32) M22)))))))))) ∧ (x3_7 = (0 : Int32) → (R (0 : Int32) M)))
def wp_Model_visitAll_66 (X11 : Int32 → Int32 → Int32 → Int32 → Int32 → Mem → Prop) (R : Int32 → Mem → Prop) (x1 : Int32) (x2 : Int32) (x3 : Int32) (x5 : Int32) (s0 : Int32) (M : Mem) : Prop := ∀ x5_14 : Int32, x5_14 = x5 + (1 : Int32) → X11 x1 x2 x3 s0 x5_14 M
def wp_Model_visitAll_64 (X11 : Int32 → Int32 → Int32 → Int32 → Int32 → Mem → Prop) (R : Int32 → Mem → Prop) (x1 : Int32) (x2 : Int32) (x3 : Int32) (x4 : Int32) (x5 : Int32) (M : Mem) : Prop := wp_Model_visitAll_66 X11 R x1 x2 x3 x5 x4 M
def wp_Model_visitAll_11 (X11 : Int32 → Int32 → Int32 → Int32 → Int32 → Mem → Prop) (R : Int32 → Mem → Prop) (x1 : Int32) (x2 : Int32) (x3 : Int32) (x4 : Int32) (x5 : Int32) (M : Mem) : Prop := ((x2 ≤ x5 → ((((2 : Int32) ≤ x3 → (wp_Model_isHouse (x3 - (10 : Int32)) M (fun r4 M3 => ((r4 = (0 : Int32) → (R (-9 : Int32) M3)) ∧ (¬ (r4 = (0 : Int32)) → (vp_in (x3 - (10 : Int32)) 6 ∧ R (M3 41 (x3 - (10 : Int32)).toNatClampNeg) M3)))))) ∧ (¬ ((2 : Int32) ≤ x3) → (((¬ x3 = (0 : Int32) → R x4 M) ∧ (x3 = (0 : Int32) → (R (M 29 18) M)))))))) ∧ (¬ (x2 ≤ x5) → (vp_in (x1 + ((2 : Int32) * x5)) 240 ∧ vp_in ((x1 + ((2 : Int32) * x5)) + (1 : Int32)) 240 ∧ wp_Model_visit (M 32 (x1 + ((2 : Int32) * x5)).toNatClampNeg) (M 32 ((x1 + ((2 : Int32) * x5)) + (1 : Int32)).toNatClampNeg) M (fun r11 M10 => ((¬ x4 = (-9 : Int32) → wp_Model_visitAll_64 X11 R x1 x2 x3 x4 x5 M10) ∧ (x4 = (-9 : Int32) → (((r11 = (0 : Int32) → wp_Model_visitAll_64 X11 R x1 x2 x3 x4 x5 M10) ∧ (¬ (r11 = (0 : Int32)) → wp_Model_visitAll_66 X11 R x1 x2 x3 x5 x5 M10)))))))))
def wp_Model_visitAll (a1 : Int32) (a2 : Int32) (a3 : Int32) (M : Mem) (R : Int32 → Mem → Prop) : Prop := ∀ (X11 : Int32 → Int32 → Int32 → Int32 → Int32 → Mem → Prop), (∀ (x1 : Int32) (x2 : Int32) (x3 : Int32) (x4 : Int32) (x5 : Int32) (M : Mem), wp_Model_visitAll_11 X11 R x1 x2 x3 x4 x5 M → X11 x1 x2 x3 x4 x5 M) → wp_Model_begin M (fun M15 => X11 a1 a2 a3 (-9 : Int32) (0 : Int32) M15)
def wp_Model_visits_57 (X103 : Int32 → Int32 → Int32 → Int32 → Mem → Prop) (R : Int32 → Mem → Prop) (x1 : Int32) (x2 : Int32) (x3 : Int32) (x4 : Int32) (x5 : Int32) (M : Mem) : Prop := wp_Model_against x1 x2 x3 ((2 : Int32) * x4) M (fun r2 M1 => ((r2 = (0 : Int32) → (((¬ (M1 29 5) = (0 : Int32) → (∀ x7_5 : Int32, x7_5 = ((60 : Int32) * x1) + x3 → X103 x4 x5 x7_5 (0 : Int32) M1)) ∧ ((M1 29 5) = (0 : Int32) → (R (-3 : Int32) M1))))) ∧ (¬ (r2 = (0 : Int32)) → (wp_Model_fails r2 M1 (fun r7 M6 => R r7 M6)))))
def wp_Model_visits_103 (X103 : Int32 → Int32 → Int32 → Int32 → Mem → Prop) (R : Int32 → Mem → Prop) (x4 : Int32) (x5 : Int32) (x7 : Int32) (x8 : Int32) (M : Mem) : Prop := ((x4 ≤ x8 → (wp_Model_visitAll x7 x4 x5 M (fun r10 M9 => R r10 M9))) ∧ (¬ (x4 ≤ x8) → (vp_in (x7 + ((2 : Int32) * x8)) 240 ∧ wp_Model_allGuests M (fun r13 M12 => wp_Model_within (M 32 (x7 + ((2 : Int32) * x8)).toNatClampNeg) (0 : Int32) r13 M12 (fun r15 M14 => ((¬ r15 = (0 : Int32) → (vp_in ((x7 + ((2 : Int32) * x8)) + (1 : Int32)) 240 ∧ wp_Model_isHouse (M14 32 ((x7 + ((2 : Int32) * x8)) + (1 : Int32)).toNatClampNeg) M14 (fun r19 M18 => ((¬ r19 = (0 : Int32) → (∀ x8_21 : Int32, x8_21 = x8 + (1 : Int32) → X103 x4 x5 x7 x8_21 M18)) ∧ (r19 = (0 : Int32) → (R (-1 : Int32) M18)))))) ∧ (r15 = (0 : Int32) → (R (-2 : Int32) M14))))))))
def wp_Model_visits (a1 : Int32) (a2 : Int32) (a3 : Int32) (a4 : Int32) (a5 : Int32) (M : Mem) (R : Int32 → Mem → Prop) : Prop := ∀ (X103 : Int32 → Int32 → Int32 → Int32 → Mem → Prop), (∀ (x4 : Int32) (x5 : Int32) (x7 : Int32) (x8 : Int32) (M : Mem), wp_Model_visits_103 X103 R x4 x5 x7 x8 M → X103 x4 x5 x7 x8 M) → ∀ M22 : Mem, M22 = mset M 29 0 (0 : Int32) → wp_Model_isSheet a1 M22 (fun r24 M23 => ((¬ r24 = (0 : Int32) → (wp_Model_isSort a2 M23 (fun r27 M26 => ((r27 = (0 : Int32) → (R (-2 : Int32) M26)) ∧ (¬ (r27 = (0 : Int32)) → (wp_Model_within a4 (0 : Int32) (20 : Int32) M26 (fun r30 M29 => ((r30 = (0 : Int32) → (R (-2 : Int32) M29)) ∧ (¬ (r30 = (0 : Int32)) → (wp_Model_within a5 (0 : Int32) (1 : Int32) M29 (fun r33 M32 => ((¬ r33 = (0 : Int32) → wp_Model_visits_57 X103 R a1 a2 a3 a4 a5 M32) ∧ (r33 = (0 : Int32) → (wp_Model_within a5 (10 : Int32) (15 : Int32) M32 (fun r36 M35 => ((¬ r36 = (0 : Int32) → wp_Model_visits_57 X103 R a1 a2 a3 a4 a5 M35) ∧ (r36 = (0 : Int32) → (R (-2 : Int32) M35)))))))))))))))))) ∧ (r24 = (0 : Int32) → (R (-1 : Int32) M23))))
def wp_Model_goThrough_2 (X2 : Int32 → Int32 → Mem → Prop) (R : Mem → Prop) (x1 : Int32) (x2 : Int32) (M : Mem) : Prop := (((M 29 5) ≤ x2 → R M) ∧ (¬ ((M 29 5) ≤ x2) → (wp_Model_visit x1 x2 M (fun r3 M2 => ∀ x2_4 : Int32, x2_4 = x2 + (1 : Int32) → X2 x1 x2_4 M2))))
def wp_Model_goThrough (a1 : Int32) (M : Mem) (R : Mem → Prop) : Prop := ∀ (X2 : Int32 → Int32 → Mem → Prop), (∀ (x1 : Int32) (x2 : Int32) (M : Mem), wp_Model_goThrough_2 X2 R x1 x2 M → X2 x1 x2 M) → X2 a1 (0 : Int32) M
def wp_Model_going_41 (X88 : Int32 → Int32 → Int32 → Int32 → Int32 → Mem → Prop) (X151 : Int32 → Int32 → Int32 → Int32 → Int32 → Mem → Prop) (R : Int32 → Mem → Prop) (x1 : Int32) (x2 : Int32) (x3 : Int32) (x4 : Int32) (x5 : Int32) (M : Mem) : Prop := wp_Model_against x1 x2 x3 x4 M (fun r2 M1 => ((r2 = (0 : Int32) → (((¬ (M1 29 5) = (0 : Int32) → (∀ x7_5 : Int32, x7_5 = ((60 : Int32) * x1) + x3 → X88 x4 x5 x7_5 (0 : Int32) (0 : Int32) M1)) ∧ ((M1 29 5) = (0 : Int32) → (R (-3 : Int32) M1))))) ∧ (¬ (r2 = (0 : Int32)) → (wp_Model_fails r2 M1 (fun r7 M6 => R r7 M6)))))
def wp_Model_going_88 (X88 : Int32 → Int32 → Int32 → Int32 → Int32 → Mem → Prop) (X151 : Int32 → Int32 → Int32 → Int32 → Int32 → Mem → Prop) (R : Int32 → Mem → Prop) (x4 : Int32) (x5 : Int32) (x7 : Int32) (x8 : Int32) (x9 : Int32) (M : Mem) : Prop := ((x4 ≤ x9 → (wp_Model_begin M (fun M9 => X151 x4 x5 x7 x8 (0 : Int32) M9))) ∧ (¬ (x4 ≤ x9) → (vp_in (x7 + x9) 240 ∧ ∀ x10_11 : Int32, x10_11 = M 32 (x7 + x9).toNatClampNeg → wp_Model_isGuest x10_11 M (fun r13 M12 => ((r13 = (0 : Int32) → (R (-1 : Int32) M12)) ∧ (¬ (r13 = (0 : Int32)) → (((¬ ((x8 >>> (x10_11 &&& (31 : Int32))) &&& (1 : Int32)) = (1 : Int32) → (∀ x8_16 : Int32, x8_16 = x8 ||| ((1 : Int32) <<< (x10_11 &&& (31 : Int32))) → ∀ x9_17 : Int32, x9_17 = x9 + (1 : Int32) → X88 x4 x5 x7 x8_16 x9_17 M12)) ∧ (((x8 >>> (x10_11 &&& (31 : Int32))) &&& (1 : Int32)) = (1 : Int32) → (R (-1 : Int32) M12))))))))))
def wp_Model_going_151 (X88 : Int32 → Int32 → Int32 → Int32 → Int32 → Mem → Prop) (X151 : Int32 → Int32 → Int32 → Int32 → Int32 → Mem → Prop) (R : Int32 → Mem → Prop) (x4 : Int32) (x5 : Int32) (x7 : Int32) (x8 : Int32) (x9 : Int32) (M : Mem) : Prop := ((x4 ≤ x9 → (((¬ x5 = (0 : Int32) → (wp_Model_isGuest (x5 - (10 : Int32)) M (fun r21 M20 => ((r21 = (0 : Int32) → (R (-9 : Int32) M20)) ∧ (¬ (r21 = (0 : Int32)) → (vp_in (x5 - (10 : Int32)) 5 ∧ R (M20 40 (x5 - (10 : Int32)).toNatClampNeg) M20)))))) ∧ (x5 = (0 : Int32) → (R (x8 &&& ((M 29 18) ^^^ (-1 : Int32))) M))))) ∧ (¬ (x4 ≤ x9) → (vp_in (x7 + x9) 240 ∧ wp_Model_goThrough ((1 : Int32) <<< ((M 32 (x7 + x9).toNatClampNeg) &&& (31 : Int32))) M (fun M25 => ∀ x9_26 : Int32, x9_26 = x9 + (1 : Int32) → X151 x4 x5 x7 x8 x9_26 M25))))
def wp_Model_going (a1 : Int32) (a2 : Int32) (a3 : Int32) (a4 : Int32) (a5 : Int32) (M : Mem) (R : Int32 → Mem → Prop) : Prop := ∀ (X88 : Int32 → Int32 → Int32 → Int32 → Int32 → Mem → Prop) (X151 : Int32 → Int32 → Int32 → Int32 → Int32 → Mem → Prop), (∀ (x4 : Int32) (x5 : Int32) (x7 : Int32) (x8 : Int32) (x9 : Int32) (M : Mem), wp_Model_going_88 X88 X151 R x4 x5 x7 x8 x9 M → X88 x4 x5 x7 x8 x9 M) → (∀ (x4 : Int32) (x5 : Int32) (x7 : Int32) (x8 : Int32) (x9 : Int32) (M : Mem), wp_Model_going_151 X88 X151 R x4 x5 x7 x8 x9 M → X151 x4 x5 x7 x8 x9 M) → ∀ M27 : Mem, M27 = mset M 29 0 (0 : Int32) → wp_Model_isSheet a1 M27 (fun r29 M28 => ((¬ r29 = (0 : Int32) → (wp_Model_isSort a2 M28 (fun r32 M31 => ((r32 = (0 : Int32) → (R (-2 : Int32) M31)) ∧ (¬ (r32 = (0 : Int32)) → (((a5 = (0 : Int32) → wp_Model_going_41 X88 X151 R a1 a2 a3 a4 a5 M31) ∧ (¬ (a5 = (0 : Int32)) → (wp_Model_within a5 (10 : Int32) (14 : Int32) M31 (fun r36 M35 => ((¬ r36 = (0 : Int32) → wp_Model_going_41 X88 X151 R a1 a2 a3 a4 a5 M35) ∧ (r36 = (0 : Int32) → (R (-2 : Int32) M35))))))))))))) ∧ (r29 = (0 : Int32) → (R (-1 : Int32) M28))))
def wp_Model_size_4 (X4 : Int32 → Int32 → Mem → Prop) (R : Int32 → Mem → Prop) (x1 : Int32) (x2 : Int32) (M : Mem) : Prop := ((x2 ≤ (0 : Int32) → R x1 M) ∧ (¬ (x2 ≤ (0 : Int32)) → (∀ x1_2 : Int32, x1_2 = x1 + (x2 &&& (1 : Int32)) → ∀ x2_3 : Int32, x2_3 = x2 >>> ((1 : Int32) &&& (31 : Int32)) → X4 x1_2 x2_3 M)))
def wp_Model_size (a0 : Int32) (M : Mem) (R : Int32 → Mem → Prop) : Prop := ∀ (X4 : Int32 → Int32 → Mem → Prop), (∀ (x1 : Int32) (x2 : Int32) (M : Mem), wp_Model_size_4 X4 R x1 x2 M → X4 x1 x2 M) → X4 (0 : Int32) a0 M
def wp_Model_passesEach_2 (X2 : Int32 → Int32 → Mem → Prop) (R : Int32 → Mem → Prop) (x1 : Int32) (x2 : Int32) (M : Mem) : Prop := (((M 29 5) ≤ x2 → (R (1 : Int32) M)) ∧ (¬ ((M 29 5) ≤ x2) → (wp_Model_used x2 x1 (0 : Int32) M (fun r3 M2 => ((¬ r3 = (-9 : Int32) → (∀ x2_5 : Int32, x2_5 = x2 + (1 : Int32) → X2 x1 x2_5 M2)) ∧ (r3 = (-9 : Int32) → (R (0 : Int32) M2)))))))
def wp_Model_passesEach (a1 : Int32) (M : Mem) (R : Int32 → Mem → Prop) : Prop := ∀ (X2 : Int32 → Int32 → Mem → Prop), (∀ (x1 : Int32) (x2 : Int32) (M : Mem), wp_Model_passesEach_2 X2 R x1 x2 M → X2 x1 x2 M) → X2 a1 (0 : Int32) M
def wp_Model_least_48 (X15 : Int32 → Int32 → Mem → Prop) (R : Int32 → Mem → Prop) (x1 : Int32) (x2 : Int32) (M : Mem) : Prop := ∀ x2_11 : Int32, x2_11 = x2 + (1 : Int32) → X15 x1 x2_11 M
def wp_Model_least_38 (X15 : Int32 → Int32 → Mem → Prop) (R : Int32 → Mem → Prop) (x1 : Int32) (x2 : Int32) (M : Mem) : Prop := wp_Model_passesEach x2 M (fun r9 M8 => ((r9 = (0 : Int32) → wp_Model_least_48 X15 R x1 x2 M8) ∧ (¬ (r9 = (0 : Int32)) → wp_Model_least_48 X15 R x2 x2 M8)))
def wp_Model_least_15 (X15 : Int32 → Int32 → Mem → Prop) (R : Int32 → Mem → Prop) (x1 : Int32) (x2 : Int32) (M : Mem) : Prop := (((63 : Int32) < x2 → R x1 M) ∧ (¬ ((63 : Int32) < x2) → (((x1 = (-9 : Int32) → wp_Model_least_38 X15 R x1 x2 M) ∧ (¬ (x1 = (-9 : Int32)) → (wp_Model_size x2 M (fun r4 M3 => wp_Model_size x1 M3 (fun r6 M5 => ((r6 ≤ r4 → wp_Model_least_48 X15 R x1 x2 M5) ∧ (¬ (r6 ≤ r4) → wp_Model_least_38 X15 R x1 x2 M5))))))))))
def wp_Model_least (M : Mem) (R : Int32 → Mem → Prop) : Prop := ∀ (X15 : Int32 → Int32 → Mem → Prop), (∀ (x1 : Int32) (x2 : Int32) (M : Mem), wp_Model_least_15 X15 R x1 x2 M → X15 x1 x2 M) → ((¬ (M 29 5) = (0 : Int32) → (X15 (-9 : Int32) (0 : Int32) M)) ∧ ((M 29 5) = (0 : Int32) → (R (-3 : Int32) M)))
def wp_Model_hard_12 (X12 : Int32 → Mem → Prop) (R : Int32 → Mem → Prop) (x1 : Int32) (M : Mem) : Prop := (((M 29 5) ≤ x1 → (R (-9 : Int32) M)) ∧ (¬ ((M 29 5) ≤ x1) → (wp_Model_used x1 (63 : Int32) (0 : Int32) M (fun r3 M2 => ((¬ r3 = (-9 : Int32) → (∀ x1_5 : Int32, x1_5 = x1 + (1 : Int32) → X12 x1_5 M2)) ∧ (r3 = (-9 : Int32) → R x1 M2))))))
def wp_Model_hard (M : Mem) (R : Int32 → Mem → Prop) : Prop := ∀ (X12 : Int32 → Mem → Prop), (∀ (x1 : Int32) (M : Mem), wp_Model_hard_12 X12 R x1 M → X12 x1 M) → ((¬ (M 29 5) = (0 : Int32) → (X12 (0 : Int32) M)) ∧ ((M 29 5) = (0 : Int32) → (R (-3 : Int32) M)))
def wp_Model_beginRows_2 (X2 : Int32 → Mem → Prop) (R : Mem → Prop) (x1 : Int32) (M : Mem) : Prop := (((M 29 6) ≤ x1 → R M) ∧ (¬ ((M 29 6) ≤ x1) → (vp_in x1 5 ∧ ∀ M3 : Mem, M3 = mset M 42 x1.toNatClampNeg x1 → ∀ x1_4 : Int32, x1_4 = x1 + (1 : Int32) → X2 x1_4 M3)))
def wp_Model_beginRows (M : Mem) (R : Mem → Prop) : Prop := ∀ (X2 : Int32 → Mem → Prop), (∀ (x1 : Int32) (M : Mem), wp_Model_beginRows_2 X2 R x1 M → X2 x1 M) → X2 (0 : Int32) M
def wp_Model_goRow_6 (X6 : Int32 → Mem → Prop) (R : Mem → Prop) (x1 : Int32) (M : Mem) : Prop := (((M 29 6) ≤ x1 → R M) ∧ (¬ ((M 29 6) ≤ x1) → (vp_in x1 5 ∧ wp_Model_goThrough ((1 : Int32) <<< ((M 42 x1.toNatClampNeg) &&& (31 : Int32))) M (fun M3 => ∀ x1_4 : Int32, x1_4 = x1 + (1 : Int32) → X6 x1_4 M3))))
def wp_Model_goRow (M : Mem) (R : Mem → Prop) : Prop := ∀ (X6 : Int32 → Mem → Prop), (∀ (x1 : Int32) (M : Mem), wp_Model_goRow_6 X6 R x1 M → X6 x1 M) → wp_Model_begin M (fun M5 => X6 (0 : Int32) M5)
def wp_Model_throughNow (M : Mem) (R : Int32 → Mem → Prop) : Prop := wp_Model_size (M 29 18) M (fun r2 M1 => R ((M 29 6) - r2) M1)
def wp_Model_swap (a1 : Int32) (a2 : Int32) (M : Mem) (R : Mem → Prop) : Prop := vp_in a1 5 ∧ ∀ x3_2 : Int32, x3_2 = M 42 a1.toNatClampNeg → vp_in a2 5 ∧ vp_in a1 5 ∧ ∀ M5 : Mem, M5 = mset M 42 a1.toNatClampNeg (M 42 a2.toNatClampNeg) → vp_in a2 5 ∧ ∀ M7 : Mem, M7 = mset M5 42 a2.toNatClampNeg x3_2 → R M7
def wp_Model_nextRow_34 (X7 : Int32 → Mem → Prop) (X47 : Int32 → Int32 → Mem → Prop) (X86 : Int32 → Int32 → Mem → Prop) (R : Int32 → Mem → Prop) (x1 : Int32) (M : Mem) : Prop := (((0 : Int32) ≤ x1 → (∀ x2_7 : Int32, x2_7 = (M 29 6) - (1 : Int32) → X47 x1 x2_7 M)) ∧ (¬ ((0 : Int32) ≤ x1) → (R (0 : Int32) M)))
def wp_Model_nextRow_7 (X7 : Int32 → Mem → Prop) (X47 : Int32 → Int32 → Mem → Prop) (X86 : Int32 → Int32 → Mem → Prop) (R : Int32 → Mem → Prop) (x1 : Int32) (M : Mem) : Prop := ((x1 < (0 : Int32) → wp_Model_nextRow_34 X7 X47 X86 R x1 M) ∧ (¬ (x1 < (0 : Int32)) → (vp_in x1 5 ∧ vp_in (x1 + (1 : Int32)) 5 ∧ (((M 42 x1.toNatClampNeg) ≤ (M 42 (x1 + (1 : Int32)).toNatClampNeg) → wp_Model_nextRow_34 X7 X47 X86 R x1 M) ∧ (¬ ((M 42 x1.toNatClampNeg) ≤ (M 42 (x1 + (1 : Int32)).toNatClampNeg)) → (∀ x1_5 : Int32, x1_5 = x1 + (-1 : Int32) → X7 x1_5 M))))))
def wp_Model_nextRow_47 (X7 : Int32 → Mem → Prop) (X47 : Int32 → Int32 → Mem → Prop) (X86 : Int32 → Int32 → Mem → Prop) (R : Int32 → Mem → Prop) (x1 : Int32) (x2 : Int32) (M : Mem) : Prop := vp_in x2 5 ∧ vp_in x1 5 ∧ (((M 42 x1.toNatClampNeg) ≤ (M 42 x2.toNatClampNeg) → (wp_Model_swap x1 x2 M (fun M11 => ∀ x3_12 : Int32, x3_12 = x1 + (1 : Int32) → ∀ x4_13 : Int32, x4_13 = (M11 29 6) - (1 : Int32) → X86 x3_12 x4_13 M11))) ∧ (¬ ((M 42 x1.toNatClampNeg) ≤ (M 42 x2.toNatClampNeg)) → (∀ x2_14 : Int32, x2_14 = x2 + (-1 : Int32) → X47 x1 x2_14 M)))
def wp_Model_nextRow_86 (X7 : Int32 → Mem → Prop) (X47 : Int32 → Int32 → Mem → Prop) (X86 : Int32 → Int32 → Mem → Prop) (R : Int32 → Mem → Prop) (x3 : Int32) (x4 : Int32) (M : Mem) : Prop := ((x4 ≤ x3 → (R (1 : Int32) M)) ∧ (¬ (x4 ≤ x3) → (wp_Model_swap x3 x4 M (fun M16 => ∀ x3_17 : Int32, x3_17 = x3 + (1 : Int32) → ∀ x4_18 : Int32, x4_18 = x4 + (-1 : Int32) → X86 x3_17 x4_18 M16))))
def wp_Model_nextRow (M : Mem) (R : Int32 → Mem → Prop) : Prop := ∀ (X7 : Int32 → Mem → Prop) (X47 : Int32 → Int32 → Mem → Prop) (X86 : Int32 → Int32 → Mem → Prop), (∀ (x1 : Int32) (M : Mem), wp_Model_nextRow_7 X7 X47 X86 R x1 M → X7 x1 M) → (∀ (x1 : Int32) (x2 : Int32) (M : Mem), wp_Model_nextRow_47 X7 X47 X86 R x1 x2 M → X47 x1 x2 M) → (∀ (x3 : Int32) (x4 : Int32) (M : Mem), wp_Model_nextRow_86 X7 X47 X86 R x3 x4 M → X86 x3 x4 M) → ∀ x1_19 : Int32, x1_19 = (M 29 6) - (2 : Int32) → X7 x1_19 M
def wp_Model_best_79 (X26 : Int32 → Int32 → Int32 → Mem → Prop) (X50 : Int32 → Int32 → Int32 → Mem → Prop) (R : Int32 → Mem → Prop) (x1 : Int32) (x2 : Int32) (M : Mem) : Prop := wp_Model_nextRow M (fun r17 M16 => X26 x1 x2 r17 M16)
def wp_Model_best_26 (X26 : Int32 → Int32 → Int32 → Mem → Prop) (X50 : Int32 → Int32 → Int32 → Mem → Prop) (R : Int32 → Mem → Prop) (x1 : Int32) (x2 : Int32) (x3 : Int32) (M : Mem) : Prop := ((x3 = (0 : Int32) → (((¬ x1 = (-1 : Int32) → ((((M 29 6) ≤ x1 → (R (-9 : Int32) M)) ∧ (¬ ((M 29 6) ≤ x1) → (vp_in x1 5 ∧ R (M 43 x1.toNatClampNeg) M))))) ∧ (x1 = (-1 : Int32) → R x2 M)))) ∧ (¬ (x3 = (0 : Int32)) → (wp_Model_goRow M (fun M5 => wp_Model_throughNow M5 (fun r7 M6 => ((r7 ≤ x2 → wp_Model_best_79 X26 X50 R x1 x2 M6) ∧ (¬ (r7 ≤ x2) → (wp_Model_throughNow M6 (fun r10 M9 => X50 x1 r10 (0 : Int32) M9)))))))))
def wp_Model_best_50 (X26 : Int32 → Int32 → Int32 → Mem → Prop) (X50 : Int32 → Int32 → Int32 → Mem → Prop) (R : Int32 → Mem → Prop) (x1 : Int32) (x2 : Int32) (x4 : Int32) (M : Mem) : Prop := (((M 29 6) ≤ x4 → wp_Model_best_79 X26 X50 R x1 x2 M) ∧ (¬ ((M 29 6) ≤ x4) → (vp_in x4 5 ∧ vp_in x4 5 ∧ ∀ M14 : Mem, M14 = mset M 43 x4.toNatClampNeg (M 42 x4.toNatClampNeg) → ∀ x4_15 : Int32, x4_15 = x4 + (1 : Int32) → X50 x1 x2 x4_15 M14)))
def wp_Model_best (a1 : Int32) (M : Mem) (R : Int32 → Mem → Prop) : Prop := ∀ (X26 : Int32 → Int32 → Int32 → Mem → Prop) (X50 : Int32 → Int32 → Int32 → Mem → Prop), (∀ (x1 : Int32) (x2 : Int32) (x3 : Int32) (M : Mem), wp_Model_best_26 X26 X50 R x1 x2 x3 M → X26 x1 x2 x3 M) → (∀ (x1 : Int32) (x2 : Int32) (x4 : Int32) (M : Mem), wp_Model_best_50 X26 X50 R x1 x2 x4 M → X50 x1 x2 x4 M) → (((-1 : Int32) ≤ a1 → (((¬ (M 29 5) = (0 : Int32) → (wp_Model_beginRows M (fun M20 => X26 a1 (-9 : Int32) (1 : Int32) M20))) ∧ ((M 29 5) = (0 : Int32) → (R (-3 : Int32) M))))) ∧ (¬ ((-1 : Int32) ≤ a1) → (R (-1 : Int32) M)))
def wp_Model_layMates_9 (X9 : Int32 → Int32 → Mem → Prop) (X40 : Int32 → Mem → Prop) (R : Int32 → Mem → Prop) (x2 : Int32) (x3 : Int32) (M : Mem) : Prop := ((x3 < (0 : Int32) → (X40 (0 : Int32) M)) ∧ (¬ (x3 < (0 : Int32)) → (¬ (M 29 6) = (0 : Int32) ∧ vp_in x3 5 ∧ ∀ M4 : Mem, M4 = mset M 42 x3.toNatClampNeg (x2 - x2 / (M 29 6) * (M 29 6)) → ¬ (M4 29 6) = (0 : Int32) ∧ ∀ x2_6 : Int32, x2_6 = x2 / (M4 29 6) → ∀ x3_7 : Int32, x3_7 = x3 + (-1 : Int32) → X9 x2_6 x3_7 M4)))
def wp_Model_layMates_40 (X9 : Int32 → Int32 → Mem → Prop) (X40 : Int32 → Mem → Prop) (R : Int32 → Mem → Prop) (x3 : Int32) (M : Mem) : Prop := (((M 29 6) ≤ x3 → (R (1 : Int32) M)) ∧ (¬ ((M 29 6) ≤ x3) → (vp_in x3 5 ∧ vp_in (M 42 x3.toNatClampNeg) 5 ∧ (((M 42 (M 42 x3.toNatClampNeg).toNatClampNeg) = x3 → (∀ x3_12 : Int32, x3_12 = x3 + (1 : Int32) → X40 x3_12 M)) ∧ (¬ ((M 42 (M 42 x3.toNatClampNeg).toNatClampNeg) = x3) → (R (0 : Int32) M))))))
def wp_Model_layMates (a1 : Int32) (M : Mem) (R : Int32 → Mem → Prop) : Prop := ∀ (X9 : Int32 → Int32 → Mem → Prop) (X40 : Int32 → Mem → Prop), (∀ (x2 : Int32) (x3 : Int32) (M : Mem), wp_Model_layMates_9 X9 X40 R x2 x3 M → X9 x2 x3 M) → (∀ (x3 : Int32) (M : Mem), wp_Model_layMates_40 X9 X40 R x3 M → X40 x3 M) → ∀ x3_13 : Int32, x3_13 = (M 29 6) - (1 : Int32) → X9 a1 x3_13 M
def wp_Model_goMates_45 (X8 : Int32 → Int32 → Mem → Prop) (R : Int32 → Mem → Prop) (x1 : Int32) (x2 : Int32) (M : Mem) : Prop := ∀ x2_7 : Int32, x2_7 = x2 + (1 : Int32) → X8 x1 x2_7 M
def wp_Model_goMates_8 (X8 : Int32 → Int32 → Mem → Prop) (R : Int32 → Mem → Prop) (x1 : Int32) (x2 : Int32) (M : Mem) : Prop := (((M 29 6) ≤ x2 → R x1 M) ∧ (¬ ((M 29 6) ≤ x2) → (vp_in x2 5 ∧ (((M 42 x2.toNatClampNeg) < x2 → wp_Model_goMates_45 X8 R x1 x2 M) ∧ (¬ ((M 42 x2.toNatClampNeg) < x2) → (vp_in x2 5 ∧ wp_Model_goThrough (((1 : Int32) <<< (x2 &&& (31 : Int32))) ||| ((1 : Int32) <<< ((M 42 x2.toNatClampNeg) &&& (31 : Int32)))) M (fun M5 => ∀ x1_6 : Int32, x1_6 = x1 + (1 : Int32) → wp_Model_goMates_45 X8 R x1_6 x2 M5)))))))
def wp_Model_goMates (M : Mem) (R : Int32 → Mem → Prop) : Prop := ∀ (X8 : Int32 → Int32 → Mem → Prop), (∀ (x1 : Int32) (x2 : Int32) (M : Mem), wp_Model_goMates_8 X8 R x1 x2 M → X8 x1 x2 M) → wp_Model_begin M (fun M8 => X8 (0 : Int32) (0 : Int32) M8)
def wp_Model_twos_144 (X29 : Int32 → Int32 → Int32 → Mem → Prop) (X59 : Int32 → Int32 → Int32 → Int32 → Int32 → Mem → Prop) (X115 : Int32 → Int32 → Int32 → Int32 → Int32 → Int32 → Mem → Prop) (R : Int32 → Mem → Prop) (x1 : Int32) (x2 : Int32) (x3 : Int32) (x4 : Int32) (x5 : Int32) (M : Mem) : Prop := ∀ x5_23 : Int32, x5_23 = x5 + (1 : Int32) → X59 x1 x2 x3 x4 x5_23 M
def wp_Model_twos_105 (X29 : Int32 → Int32 → Int32 → Mem → Prop) (X59 : Int32 → Int32 → Int32 → Int32 → Int32 → Mem → Prop) (X115 : Int32 → Int32 → Int32 → Int32 → Int32 → Int32 → Mem → Prop) (R : Int32 → Mem → Prop) (x1 : Int32) (x2 : Int32) (x5 : Int32) (x6 : Int32) (x7 : Int32) (M : Mem) : Prop := X115 x1 x2 x7 x6 x5 (0 : Int32) M
def wp_Model_twos_15 (X29 : Int32 → Int32 → Int32 → Mem → Prop) (X59 : Int32 → Int32 → Int32 → Int32 → Int32 → Mem → Prop) (X115 : Int32 → Int32 → Int32 → Int32 → Int32 → Int32 → Mem → Prop) (R : Int32 → Mem → Prop) (x1 : Int32) (M : Mem) : Prop := ((¬ (M 29 5) = (0 : Int32) → (X29 x1 (1 : Int32) (0 : Int32) M)) ∧ ((M 29 5) = (0 : Int32) → (R (-3 : Int32) M)))
def wp_Model_twos_29 (X29 : Int32 → Int32 → Int32 → Mem → Prop) (X59 : Int32 → Int32 → Int32 → Int32 → Int32 → Mem → Prop) (X115 : Int32 → Int32 → Int32 → Int32 → Int32 → Int32 → Mem → Prop) (R : Int32 → Mem → Prop) (x1 : Int32) (x2 : Int32) (x3 : Int32) (M : Mem) : Prop := (((M 29 6) ≤ x3 → (X59 x1 x2 (-9 : Int32) (0 : Int32) (0 : Int32) M)) ∧ (¬ ((M 29 6) ≤ x3) → (∀ x2_3 : Int32, x2_3 = x2 * (M 29 6) → ∀ x3_4 : Int32, x3_4 = x3 + (1 : Int32) → X29 x1 x2_3 x3_4 M)))
def wp_Model_twos_59 (X29 : Int32 → Int32 → Int32 → Mem → Prop) (X59 : Int32 → Int32 → Int32 → Int32 → Int32 → Mem → Prop) (X115 : Int32 → Int32 → Int32 → Int32 → Int32 → Int32 → Mem → Prop) (R : Int32 → Mem → Prop) (x1 : Int32) (x2 : Int32) (x3 : Int32) (x4 : Int32) (x5 : Int32) (M : Mem) : Prop := ((x2 ≤ x5 → (((¬ x1 = (-1 : Int32) → (vp_in x1 5 ∧ R (M 43 x1.toNatClampNeg) M)) ∧ (x1 = (-1 : Int32) → R x3 M)))) ∧ (¬ (x2 ≤ x5) → (wp_Model_layMates x5 M (fun r9 M8 => ((r9 = (0 : Int32) → wp_Model_twos_144 X29 X59 X115 R x1 x2 x3 x4 x5 M8) ∧ (¬ (r9 = (0 : Int32)) → (wp_Model_goMates M8 (fun r12 M11 => wp_Model_throughNow M11 (fun r14 M13 => ((x3 < r14 → wp_Model_twos_105 X29 X59 X115 R x1 x2 x5 r12 r14 M13) ∧ (¬ (x3 < r14) → (((¬ r14 = x3 → wp_Model_twos_144 X29 X59 X115 R x1 x2 x3 x4 x5 M13) ∧ (r14 = x3 → (((x4 ≤ r12 → wp_Model_twos_144 X29 X59 X115 R x1 x2 x3 x4 x5 M13) ∧ (¬ (x4 ≤ r12) → wp_Model_twos_105 X29 X59 X115 R x1 x2 x5 r12 r14 M13)))))))))))))))))
def wp_Model_twos_115 (X29 : Int32 → Int32 → Int32 → Mem → Prop) (X59 : Int32 → Int32 → Int32 → Int32 → Int32 → Mem → Prop) (X115 : Int32 → Int32 → Int32 → Int32 → Int32 → Int32 → Mem → Prop) (R : Int32 → Mem → Prop) (x1 : Int32) (x2 : Int32) (x3 : Int32) (x4 : Int32) (x5 : Int32) (x8 : Int32) (M : Mem) : Prop := (((M 29 6) ≤ x8 → wp_Model_twos_144 X29 X59 X115 R x1 x2 x3 x4 x5 M) ∧ (¬ ((M 29 6) ≤ x8) → (vp_in x8 5 ∧ vp_in x8 5 ∧ ∀ M21 : Mem, M21 = mset M 43 x8.toNatClampNeg (M 42 x8.toNatClampNeg) → ∀ x8_22 : Int32, x8_22 = x8 + (1 : Int32) → X115 x1 x2 x3 x4 x5 x8_22 M21)))
def wp_Model_twos (a1 : Int32) (M : Mem) (R : Int32 → Mem → Prop) : Prop := ∀ (X29 : Int32 → Int32 → Int32 → Mem → Prop) (X59 : Int32 → Int32 → Int32 → Int32 → Int32 → Mem → Prop) (X115 : Int32 → Int32 → Int32 → Int32 → Int32 → Int32 → Mem → Prop), (∀ (x1 : Int32) (x2 : Int32) (x3 : Int32) (M : Mem), wp_Model_twos_29 X29 X59 X115 R x1 x2 x3 M → X29 x1 x2 x3 M) → (∀ (x1 : Int32) (x2 : Int32) (x3 : Int32) (x4 : Int32) (x5 : Int32) (M : Mem), wp_Model_twos_59 X29 X59 X115 R x1 x2 x3 x4 x5 M → X59 x1 x2 x3 x4 x5 M) → (∀ (x1 : Int32) (x2 : Int32) (x3 : Int32) (x4 : Int32) (x5 : Int32) (x8 : Int32) (M : Mem), wp_Model_twos_115 X29 X59 X115 R x1 x2 x3 x4 x5 x8 M → X115 x1 x2 x3 x4 x5 x8 M) → ((a1 = (-1 : Int32) → wp_Model_twos_15 X29 X59 X115 R a1 M) ∧ (¬ (a1 = (-1 : Int32)) → (wp_Model_isGuest a1 M (fun r26 M25 => ((¬ r26 = (0 : Int32) → wp_Model_twos_15 X29 X59 X115 R a1 M25) ∧ (r26 = (0 : Int32) → (R (-1 : Int32) M25)))))))
def wp_Model_goAll_6 (X6 : Int32 → Mem → Prop) (R : Mem → Prop) (x1 : Int32) (M : Mem) : Prop := (((M 29 6) ≤ x1 → R M) ∧ (¬ ((M 29 6) ≤ x1) → (wp_Model_goThrough ((1 : Int32) <<< (x1 &&& (31 : Int32))) M (fun M2 => ∀ x1_3 : Int32, x1_3 = x1 + (1 : Int32) → X6 x1_3 M2))))
def wp_Model_goAll (M : Mem) (R : Mem → Prop) : Prop := ∀ (X6 : Int32 → Mem → Prop), (∀ (x1 : Int32) (M : Mem), wp_Model_goAll_6 X6 R x1 M → X6 x1 M) → wp_Model_begin M (fun M4 => X6 (0 : Int32) M4)
def wp_Model_gift_105 (X37 : Int32 → Int32 → Int32 → Int32 → Mem → Prop) (X58 : Int32 → Int32 → Int32 → Int32 → Int32 → Int32 → Mem → Prop) (R : Int32 → Mem → Prop) (x1 : Int32) (x2 : Int32) (x3 : Int32) (x4 : Int32) (x5 : Int32) (x6 : Int32) (M : Mem) : Prop := ∀ x6_18 : Int32, x6_18 = x6 + (1 : Int32) → X58 x1 x2 x3 x4 x5 x6_18 M
def wp_Model_gift_37 (X37 : Int32 → Int32 → Int32 → Int32 → Mem → Prop) (X58 : Int32 → Int32 → Int32 → Int32 → Int32 → Int32 → Mem → Prop) (R : Int32 → Mem → Prop) (x1 : Int32) (x2 : Int32) (x3 : Int32) (x4 : Int32) (M : Mem) : Prop := (((M 29 6) ≤ x4 → (((¬ x1 = (0 : Int32) → R x2 M) ∧ (x1 = (0 : Int32) → R x3 M)))) ∧ (¬ ((M 29 6) ≤ x4) → (vp_in x4 5 ∧ ∀ x5_4 : Int32, x5_4 = M 37 x4.toNatClampNeg → X58 x1 x2 x3 x4 x5_4 (0 : Int32) M)))
def wp_Model_gift_58 (X37 : Int32 → Int32 → Int32 → Int32 → Mem → Prop) (X58 : Int32 → Int32 → Int32 → Int32 → Int32 → Int32 → Mem → Prop) (R : Int32 → Mem → Prop) (x1 : Int32) (x2 : Int32) (x3 : Int32) (x4 : Int32) (x5 : Int32) (x6 : Int32) (M : Mem) : Prop := (((6 : Int32) ≤ x6 → (vp_in x4 5 ∧ ∀ M7 : Mem, M7 = mset M 37 x4.toNatClampNeg x5 → ∀ x4_8 : Int32, x4_8 = x4 + (1 : Int32) → X37 x1 x2 x3 x4_8 M7)) ∧ (¬ ((6 : Int32) ≤ x6) → (vp_in x4 5 ∧ ∀ M10 : Mem, M10 = mset M 37 x4.toNatClampNeg (x5 ||| ((1 : Int32) <<< (x6 &&& (31 : Int32)))) → wp_Model_goAll M10 (fun M11 => wp_Model_throughNow M11 (fun r13 M12 => ((r13 ≤ x2 → wp_Model_gift_105 X37 X58 R x1 x2 x3 x4 x5 x6 M12) ∧ (¬ (r13 ≤ x2) → (wp_Model_throughNow M12 (fun r16 M15 => ∀ x3_17 : Int32, x3_17 = ((10 : Int32) * x4) + x6 → wp_Model_gift_105 X37 X58 R x1 r16 x3_17 x4 x5 x6 M15)))))))))
def wp_Model_gift (a1 : Int32) (M : Mem) (R : Int32 → Mem → Prop) : Prop := ∀ (X37 : Int32 → Int32 → Int32 → Int32 → Mem → Prop) (X58 : Int32 → Int32 → Int32 → Int32 → Int32 → Int32 → Mem → Prop), (∀ (x1 : Int32) (x2 : Int32) (x3 : Int32) (x4 : Int32) (M : Mem), wp_Model_gift_37 X37 X58 R x1 x2 x3 x4 M → X37 x1 x2 x3 x4 M) → (∀ (x1 : Int32) (x2 : Int32) (x3 : Int32) (x4 : Int32) (x5 : Int32) (x6 : Int32) (M : Mem), wp_Model_gift_58 X37 X58 R x1 x2 x3 x4 x5 x6 M → X58 x1 x2 x3 x4 x5 x6 M) → wp_Model_within a1 (0 : Int32) (1 : Int32) M (fun r20 M19 => ((¬ r20 = (0 : Int32) → (((¬ (M19 29 5) = (0 : Int32) → (wp_Model_goAll M19 (fun M23 => wp_Model_throughNow M23 (fun r25 M24 => X37 a1 r25 (-9 : Int32) (0 : Int32) M24)))) ∧ ((M19 29 5) = (0 : Int32) → (R (-3 : Int32) M19))))) ∧ (r20 = (0 : Int32) → (R (-2 : Int32) M19))))
def wp_Model_worst_64 (X31 : Int32 → Int32 → Int32 → Int32 → Mem → Prop) (R : Int32 → Mem → Prop) (x1 : Int32) (x2 : Int32) (x3 : Int32) (x4 : Int32) (M : Mem) : Prop := ∀ x4_11 : Int32, x4_11 = x4 + (1 : Int32) → X31 x1 x2 x3 x4_11 M
def wp_Model_worst_31 (X31 : Int32 → Int32 → Int32 → Int32 → Mem → Prop) (R : Int32 → Mem → Prop) (x1 : Int32) (x2 : Int32) (x3 : Int32) (x4 : Int32) (M : Mem) : Prop := (((6 : Int32) ≤ x4 → (∀ M2 : Mem, M2 = mset M 29 12 (6 : Int32) → ((¬ x1 = (0 : Int32) → R x2 M2) ∧ (x1 = (0 : Int32) → R x3 M2)))) ∧ (¬ ((6 : Int32) ≤ x4) → (∀ M4 : Mem, M4 = mset M 29 12 x4 → wp_Model_goAll M4 (fun M5 => wp_Model_throughNow M5 (fun r7 M6 => ((x2 ≤ r7 → wp_Model_worst_64 X31 R x1 x2 x3 x4 M6) ∧ (¬ (x2 ≤ r7) → (wp_Model_throughNow M6 (fun r10 M9 => wp_Model_worst_64 X31 R x1 r10 x4 x4 M9)))))))))
def wp_Model_worst (a1 : Int32) (M : Mem) (R : Int32 → Mem → Prop) : Prop := ∀ (X31 : Int32 → Int32 → Int32 → Int32 → Mem → Prop), (∀ (x1 : Int32) (x2 : Int32) (x3 : Int32) (x4 : Int32) (M : Mem), wp_Model_worst_31 X31 R x1 x2 x3 x4 M → X31 x1 x2 x3 x4 M) → wp_Model_within a1 (0 : Int32) (1 : Int32) M (fun r13 M12 => ((¬ r13 = (0 : Int32) → (((¬ (M12 29 5) = (0 : Int32) → (X31 a1 (6 : Int32) (-9 : Int32) (0 : Int32) M12)) ∧ ((M12 29 5) = (0 : Int32) → (R (-3 : Int32) M12))))) ∧ (r13 = (0 : Int32) → (R (-2 : Int32) M12))))
def wp_Model_reading_24 (R : Int32 → Mem → Prop) (x1 : Int32) (x2 : Int32) (M : Mem) : Prop := ((¬ (M 29 23) = (8 : Int32) → (vp_in (M 29 23) 8 ∧ ∀ M3 : Mem, M3 = mset M 44 (M 29 23).toNatClampNeg x1 → vp_in (M3 29 23) 8 ∧ ∀ M5 : Mem, M5 = mset M3 45 (M3 29 23).toNatClampNeg x2 → ∀ M6 : Mem, M6 = mset M5 29 23 ((M5 29 23) + (1 : Int32)) → R ((M6 29 23) - (1 : Int32)) M6)) ∧ ((M 29 23) = (8 : Int32) → (R (-4 : Int32) M)))
def wp_Model_reading (a1 : Int32) (a2 : Int32) (M : Mem) (R : Int32 → Mem → Prop) : Prop := wp_Model_isGuest a1 M (fun r8 M7 => ((r8 = (0 : Int32) → (R (-1 : Int32) M7)) ∧ (¬ (r8 = (0 : Int32)) → (((a2 = (-9 : Int32) → (wp_Model_reading_24  R a1 a2 M7)) ∧ (¬ (a2 = (-9 : Int32)) → (wp_Model_isHouse a2 M7 (fun r12 M11 => ((¬ r12 = (0 : Int32) → (wp_Model_reading_24  R a1 a2 M11)) ∧ (r12 = (0 : Int32) → (R (-1 : Int32) M11)))))))))))
def wp_Model_back (a1 : Int32) (M : Mem) (R : Int32 → Mem → Prop) : Prop := wp_Model_within a1 (0 : Int32) (M 29 23) M (fun r2 M1 => ((¬ r2 = (0 : Int32) → (∀ M4 : Mem, M4 = mset M1 29 23 ((M1 29 23) - a1) → R (M4 29 23) M4)) ∧ (r2 = (0 : Int32) → (R (-2 : Int32) M1))))
def wp_Model_areSo_6 (X6 : Int32 → Mem → Prop) (R : Int32 → Mem → Prop) (x1 : Int32) (M : Mem) : Prop := (((M 29 23) ≤ x1 → (R (1 : Int32) M)) ∧ (¬ ((M 29 23) ≤ x1) → (vp_in x1 8 ∧ vp_in (M 44 x1.toNatClampNeg) 5 ∧ vp_in x1 8 ∧ (((M 40 (M 44 x1.toNatClampNeg).toNatClampNeg) = (M 45 x1.toNatClampNeg) → (∀ x1_6 : Int32, x1_6 = x1 + (1 : Int32) → X6 x1_6 M)) ∧ (¬ ((M 40 (M 44 x1.toNatClampNeg).toNatClampNeg) = (M 45 x1.toNatClampNeg)) → (R (0 : Int32) M))))))
def wp_Model_areSo (M : Mem) (R : Int32 → Mem → Prop) : Prop := ∀ (X6 : Int32 → Mem → Prop), (∀ (x1 : Int32) (M : Mem), wp_Model_areSo_6 X6 R x1 M → X6 x1 M) → wp_Model_goAll M (fun M7 => X6 (0 : Int32) M7)
def wp_Model_had_78 (X39 : Int32 → Int32 → Int32 → Int32 → Int32 → Int32 → Mem → Prop) (R : Int32 → Mem → Prop) (x1 : Int32) (x2 : Int32) (x3 : Int32) (x4 : Int32) (x5 : Int32) (x6 : Int32) (M : Mem) : Prop := ∀ x6_12 : Int32, x6_12 = x6 + (1 : Int32) → X39 x1 x2 x3 x4 x5 x6_12 M
def wp_Model_had_73 (X39 : Int32 → Int32 → Int32 → Int32 → Int32 → Int32 → Mem → Prop) (R : Int32 → Mem → Prop) (x1 : Int32) (x2 : Int32) (x3 : Int32) (x4 : Int32) (x6 : Int32) (s0 : Int32) (M : Mem) : Prop := ∀ x4_11 : Int32, x4_11 = x4 + (1 : Int32) → wp_Model_had_78 X39 R x1 x2 x3 x4_11 s0 x6 M
def wp_Model_had_39 (X39 : Int32 → Int32 → Int32 → Int32 → Int32 → Int32 → Mem → Prop) (R : Int32 → Mem → Prop) (x1 : Int32) (x2 : Int32) (x3 : Int32) (x4 : Int32) (x5 : Int32) (x6 : Int32) (M : Mem) : Prop := (((63 : Int32) < x6 → (vp_in x1 5 ∧ ∀ M3 : Mem, M3 = mset M 37 x1.toNatClampNeg x3 → ((¬ x2 = (0 : Int32) → R x5 M3) ∧ (x2 = (0 : Int32) → R x4 M3)))) ∧ (¬ ((63 : Int32) < x6) → (vp_in x1 5 ∧ ∀ M6 : Mem, M6 = mset M 37 x1.toNatClampNeg x6 → wp_Model_areSo M6 (fun r8 M7 => ((r8 = (0 : Int32) → wp_Model_had_78 X39 R x1 x2 x3 x4 x5 x6 M7) ∧ (¬ (r8 = (0 : Int32)) → (((¬ x4 = (0 : Int32) → wp_Model_had_73 X39 R x1 x2 x3 x4 x6 x5 M7) ∧ (x4 = (0 : Int32) → wp_Model_had_73 X39 R x1 x2 x3 x4 x6 x6 M7)))))))))
def wp_Model_had (a1 : Int32) (a2 : Int32) (M : Mem) (R : Int32 → Mem → Prop) : Prop := ∀ (X39 : Int32 → Int32 → Int32 → Int32 → Int32 → Int32 → Mem → Prop), (∀ (x1 : Int32) (x2 : Int32) (x3 : Int32) (x4 : Int32) (x5 : Int32) (x6 : Int32) (M : Mem), wp_Model_had_39 X39 R x1 x2 x3 x4 x5 x6 M → X39 x1 x2 x3 x4 x5 x6 M) → wp_Model_isGuest a1 M (fun r14 M13 => ((¬ r14 = (0 : Int32) → (wp_Model_within a2 (0 : Int32) (1 : Int32) M13 (fun r17 M16 => ((¬ r17 = (0 : Int32) → (vp_in a1 5 ∧ ∀ x3_20 : Int32, x3_20 = M16 37 a1.toNatClampNeg → X39 a1 a2 x3_20 (0 : Int32) (-9 : Int32) (0 : Int32) M16)) ∧ (r17 = (0 : Int32) → (R (-2 : Int32) M16)))))) ∧ (r14 = (0 : Int32) → (R (-1 : Int32) M13))))
def wp_Model_kinds_52 (X22 : Int32 → Int32 → Int32 → Int32 → Mem → Prop) (R : Int32 → Mem → Prop) (x1 : Int32) (x2 : Int32) (x4 : Int32) (s0 : Int32) (s1 : Int32) (M : Mem) : Prop := ∀ x3_9 : Int32, x3_9 = s0 ||| s1 → ∀ x4_10 : Int32, x4_10 = x4 + (1 : Int32) → X22 x1 x2 x3_9 x4_10 M
def wp_Model_kinds_22 (X22 : Int32 → Int32 → Int32 → Int32 → Mem → Prop) (R : Int32 → Mem → Prop) (x1 : Int32) (x2 : Int32) (x3 : Int32) (x4 : Int32) (M : Mem) : Prop := (((3 : Int32) ≤ x4 → (vp_in x1 6 ∧ ∀ M3 : Mem, M3 = mset M 33 x1.toNatClampNeg x2 → R x3 M3)) ∧ (¬ ((3 : Int32) ≤ x4) → (vp_in x1 6 ∧ ∀ M5 : Mem, M5 = mset M 33 x1.toNatClampNeg x4 → wp_Model_areSo M5 (fun r7 M6 => ((r7 = (0 : Int32) → (wp_Model_kinds_52 X22 R x1 x2 x4 x3 (0 : Int32) M6)) ∧ (¬ (r7 = (0 : Int32)) → (wp_Model_kinds_52 X22 R x1 x2 x4 x3 ((1 : Int32) <<< (x4 &&& (31 : Int32))) M6)))))))
def wp_Model_kinds (a1 : Int32) (M : Mem) (R : Int32 → Mem → Prop) : Prop := ∀ (X22 : Int32 → Int32 → Int32 → Int32 → Mem → Prop), (∀ (x1 : Int32) (x2 : Int32) (x3 : Int32) (x4 : Int32) (M : Mem), wp_Model_kinds_22 X22 R x1 x2 x3 x4 M → X22 x1 x2 x3 x4 M) → wp_Model_isHouse a1 M (fun r12 M11 => ((¬ r12 = (0 : Int32) → (vp_in a1 6 ∧ ∀ x2_15 : Int32, x2_15 = M11 33 a1.toNatClampNeg → X22 a1 x2_15 (0 : Int32) (0 : Int32) M11)) ∧ (r12 = (0 : Int32) → (R (-1 : Int32) M11))))
def wp_Model_inLeastTerms_6 (X6 : Int64 → Int64 → Int32 → Int64 → Int64 → Mem → Prop) (R : Int64 → Mem → Prop) (x0 : Int64) (x2 : Int64) (x4 : Int32) (x5 : Int64) (x7 : Int64) (M : Mem) : Prop := (((lg_cmp x7 (0 : Int64)) = (0 : Int32) → (((¬ x4 = (0 : Int32) → (¬ x5 = (0 : Int64) ∧ R (x2 / x5) M)) ∧ (x4 = (0 : Int32) → (¬ x5 = (0 : Int64) ∧ R (x0 / x5) M))))) ∧ (¬ ((lg_cmp x7 (0 : Int64)) = (0 : Int32)) → (¬ x7 = (0 : Int64) ∧ ∀ x9_6 : Int64, x9_6 = x5 - x5 / x7 * x7 → X6 x0 x2 x4 x7 x9_6 M)))
def wp_Model_inLeastTerms (a0 : Int64) (a2 : Int64) (a4 : Int32) (M : Mem) (R : Int64 → Mem → Prop) : Prop := ∀ (X6 : Int64 → Int64 → Int32 → Int64 → Int64 → Mem → Prop), (∀ (x0 : Int64) (x2 : Int64) (x4 : Int32) (x5 : Int64) (x7 : Int64) (M : Mem), wp_Model_inLeastTerms_6 X6 R x0 x2 x4 x5 x7 M → X6 x0 x2 x4 x5 x7 M) → X6 a0 a2 a4 a0 a2 M
def wp_Model_odds_60 (X33 : Int32 → Int32 → Int32 → Int32 → Int32 → Mem → Prop) (R : Int64 → Mem → Prop) (x1 : Int32) (x2 : Int32) (x3 : Int32) (s0 : Int32) (s1 : Int32) (M : Mem) : Prop := ∀ x4_7 : Int32, x4_7 = s0 + s1 → ∀ x3_8 : Int32, x3_8 = x3 + (1 : Int32) → wp_Model_nextRow M (fun r10 M9 => X33 x1 x2 x3_8 x4_7 r10 M9)
def wp_Model_odds_33 (X33 : Int32 → Int32 → Int32 → Int32 → Int32 → Mem → Prop) (R : Int64 → Mem → Prop) (x1 : Int32) (x2 : Int32) (x3 : Int32) (x4 : Int32) (x5 : Int32) (M : Mem) : Prop := ((x5 = (0 : Int32) → (wp_Model_inLeastTerms x4.toInt64 x3.toInt64 x2 M (fun r3 M2 => R r3 M2))) ∧ (¬ (x5 = (0 : Int32)) → (wp_Model_goRow M (fun M4 => vp_in x1 5 ∧ ((¬ (M4 40 x1.toNatClampNeg) = (-9 : Int32) → (wp_Model_odds_60 X33 R x1 x2 x3 x4 (0 : Int32) M4)) ∧ ((M4 40 x1.toNatClampNeg) = (-9 : Int32) → (wp_Model_odds_60 X33 R x1 x2 x3 x4 (1 : Int32) M4)))))))
def wp_Model_odds (a1 : Int32) (a2 : Int32) (M : Mem) (R : Int64 → Mem → Prop) : Prop := ∀ (X33 : Int32 → Int32 → Int32 → Int32 → Int32 → Mem → Prop), (∀ (x1 : Int32) (x2 : Int32) (x3 : Int32) (x4 : Int32) (x5 : Int32) (M : Mem), wp_Model_odds_33 X33 R x1 x2 x3 x4 x5 M → X33 x1 x2 x3 x4 x5 M) → wp_Model_isGuest a1 M (fun r12 M11 => ((r12 = (0 : Int32) → (R (-9223372036854775808 : Int64) M11)) ∧ (¬ (r12 = (0 : Int32)) → (wp_Model_within a2 (0 : Int32) (1 : Int32) M11 (fun r15 M14 => ((¬ r15 = (0 : Int32) → (wp_Model_beginRows M14 (fun M17 => X33 a1 a2 (0 : Int32) (0 : Int32) (1 : Int32) M17))) ∧ (r15 = (0 : Int32) → (R (-9223372036854775808 : Int64) M14))))))))
def wp_Model_sheet_57 (X57 : Int32 → Int32 → Mem → Prop) (R : Int32 → Mem → Prop) (x1 : Int32) (x4 : Int32) (M : Mem) : Prop := (((60 : Int32) ≤ x4 → (R (1 : Int32) M)) ∧ (¬ ((60 : Int32) ≤ x4) → (vp_in (((60 : Int32) * x1) + x4) 240 ∧ ∀ M3 : Mem, M3 = mset M 32 (((60 : Int32) * x1) + x4).toNatClampNeg (0 : Int32) → ∀ x4_4 : Int32, x4_4 = x4 + (1 : Int32) → X57 x1 x4_4 M3)))
def wp_Model_sheet (a1 : Int32) (a2 : Int32) (a3 : Int32) (M : Mem) (R : Int32 → Mem → Prop) : Prop := ∀ (X57 : Int32 → Int32 → Mem → Prop), (∀ (x1 : Int32) (x4 : Int32) (M : Mem), wp_Model_sheet_57 X57 R x1 x4 M → X57 x1 x4 M) → ∀ M5 : Mem, M5 = mset M 29 0 (0 : Int32) → wp_Model_isSheet a1 M5 (fun r7 M6 => ((¬ r7 = (0 : Int32) → (wp_Model_isSort a2 M6 (fun r10 M9 => ((r10 = (0 : Int32) → (R (-2 : Int32) M9)) ∧ (¬ (r10 = (0 : Int32)) → (((a3 ≤ (60 : Int32) → ((((0 : Int32) ≤ a3 → (vp_in a1 4 ∧ ∀ M15 : Mem, M15 = mset M9 30 a1.toNatClampNeg a2 → vp_in a1 4 ∧ ∀ M17 : Mem, M17 = mset M15 31 a1.toNatClampNeg a3 → X57 a1 (0 : Int32) M17)) ∧ (¬ ((0 : Int32) ≤ a3) → (wp_Model_fails (4 : Int32) M9 (fun r19 M18 => R r19 M18)))))) ∧ (¬ (a3 ≤ (60 : Int32)) → (R (-2 : Int32) M9))))))))) ∧ (r7 = (0 : Int32) → (R (-1 : Int32) M6))))
def wp_Model_lose_25 (R : Int32 → Mem → Prop) (x1 : Int32) (s0 : Int32) (M : Mem) : Prop := vp_in x1 4 ∧ ∀ M2 : Mem, M2 = mset M 30 x1.toNatClampNeg (-9 : Int32) → R s0 M2
def wp_Model_lose (a1 : Int32) (M : Mem) (R : Int32 → Mem → Prop) : Prop := wp_Model_isSheet a1 M (fun r4 M3 => ((¬ r4 = (0 : Int32) → (vp_in a1 4 ∧ ((¬ (M3 30 a1.toNatClampNeg) = (-9 : Int32) → (wp_Model_lose_25  R a1 (1 : Int32) M3)) ∧ ((M3 30 a1.toNatClampNeg) = (-9 : Int32) → (wp_Model_lose_25  R a1 (0 : Int32) M3))))) ∧ (r4 = (0 : Int32) → (R (-1 : Int32) M3))))
def wp_Model_put (a1 : Int32) (a2 : Int32) (a3 : Int32) (M : Mem) (R : Int32 → Mem → Prop) : Prop := ∀ M1 : Mem, M1 = mset M 29 0 (0 : Int32) → wp_Model_isSheet a1 M1 (fun r3 M2 => ((¬ r3 = (0 : Int32) → (vp_in a1 4 ∧ ((¬ (M2 30 a1.toNatClampNeg) = (-9 : Int32) → (vp_in a1 4 ∧ wp_Model_within a2 (0 : Int32) ((M2 31 a1.toNatClampNeg) - (1 : Int32)) M2 (fun r9 M8 => ((¬ r9 = (0 : Int32) → (vp_in a1 4 ∧ ((¬ (M8 30 a1.toNatClampNeg) = (0 : Int32) → (vp_in a1 4 ∧ ((¬ (M8 30 a1.toNatClampNeg) = (1 : Int32) → (vp_in (((60 : Int32) * a1) + a2) 240 ∧ ∀ M16 : Mem, M16 = mset M8 32 (((60 : Int32) * a1) + a2).toNatClampNeg a3 → R (1 : Int32) M16)) ∧ ((M8 30 a1.toNatClampNeg) = (1 : Int32) → (vp_in (((60 : Int32) * a1) + a2) 240 ∧ ∀ M18 : Mem, M18 = mset M8 32 (((60 : Int32) * a1) + a2).toNatClampNeg a3.toInt16.toInt32 → R (1 : Int32) M18))))) ∧ ((M8 30 a1.toNatClampNeg) = (0 : Int32) → (vp_in (((60 : Int32) * a1) + a2) 240 ∧ ∀ M20 : Mem, M20 = mset M8 32 (((60 : Int32) * a1) + a2).toNatClampNeg a3.toInt8.toInt32 → R (1 : Int32) M20))))) ∧ (r9 = (0 : Int32) → (wp_Model_fails (3 : Int32) M8 (fun r22 M21 => R r22 M21))))))) ∧ ((M2 30 a1.toNatClampNeg) = (-9 : Int32) → (wp_Model_fails (1 : Int32) M2 (fun r24 M23 => R r24 M23)))))) ∧ (r3 = (0 : Int32) → (R (-1 : Int32) M2))))
def wp_Model_lost (a1 : Int32) (M : Mem) (R : Int64 → Mem → Prop) : Prop := ∀ M1 : Mem, M1 = mset M 29 0 a1 → R (-9223372036854775808 : Int64) M1
def wp_Model_cell_50 (R : Int64 → Mem → Prop) (x1 : Int32) (x2 : Int32) (M : Mem) : Prop := vp_in x1 4 ∧ ((¬ (M 30 x1.toNatClampNeg) = (-9 : Int32) → (vp_in x1 4 ∧ wp_Model_within x2 (0 : Int32) ((M 31 x1.toNatClampNeg) - (1 : Int32)) M (fun r5 M4 => ((¬ r5 = (0 : Int32) → (vp_in (((60 : Int32) * x1) + x2) 240 ∧ R ((M4 32 (((60 : Int32) * x1) + x2).toNatClampNeg).toInt64) M4)) ∧ (r5 = (0 : Int32) → (wp_Model_lost (3 : Int32) M4 (fun r9 M8 => R r9 M8))))))) ∧ ((M 30 x1.toNatClampNeg) = (-9 : Int32) → (wp_Model_lost (1 : Int32) M (fun r11 M10 => R r11 M10))))
def wp_Model_cell (a1 : Int32) (a2 : Int32) (a3 : Int32) (M : Mem) (R : Int64 → Mem → Prop) : Prop := ∀ M12 : Mem, M12 = mset M 29 0 (0 : Int32) → wp_Model_isSheet a1 M12 (fun r14 M13 => ((r14 = (0 : Int32) → (R (-9223372036854775808 : Int64) M13)) ∧ (¬ (r14 = (0 : Int32)) → (wp_Model_isSort a3 M13 (fun r17 M16 => ((¬ r17 = (0 : Int32) → (vp_in a1 4 ∧ (((M16 30 a1.toNatClampNeg) = (-9 : Int32) → (wp_Model_cell_50  R a1 a2 M16)) ∧ (¬ ((M16 30 a1.toNatClampNeg) = (-9 : Int32)) → (vp_in a1 4 ∧ (((M16 30 a1.toNatClampNeg) = a3 → (wp_Model_cell_50  R a1 a2 M16)) ∧ (¬ ((M16 30 a1.toNatClampNeg) = a3) → (wp_Model_lost (2 : Int32) M16 (fun r24 M23 => R r24 M23))))))))) ∧ (r17 = (0 : Int32) → (R (-9223372036854775808 : Int64) M16))))))))
def wp_Model_copy_190 (X166 : Int32 → Int32 → Int32 → Int32 → Int32 → Int32 → Int32 → Mem → Prop) (R : Int32 → Mem → Prop) (x1 : Int32) (x2 : Int32) (x3 : Int32) (x4 : Int32) (x5 : Int32) (x7 : Int32) (x8 : Int32) (s0 : Int32) (M : Mem) : Prop := vp_in ((((60 : Int32) * x1) + x2) + s0) 240 ∧ vp_in ((((60 : Int32) * x3) + x4) + s0) 240 ∧ ∀ M15 : Mem, M15 = mset M 32 ((((60 : Int32) * x3) + x4) + s0).toNatClampNeg (M 32 ((((60 : Int32) * x1) + x2) + s0).toNatClampNeg) → ∀ x8_16 : Int32, x8_16 = x8 + (1 : Int32) → X166 x1 x2 x3 x4 x5 x7 x8_16 M15
def wp_Model_copy_161 (X166 : Int32 → Int32 → Int32 → Int32 → Int32 → Int32 → Int32 → Mem → Prop) (R : Int32 → Mem → Prop) (x1 : Int32) (x2 : Int32) (x3 : Int32) (x4 : Int32) (x5 : Int32) (s0 : Int32) (M : Mem) : Prop := X166 x1 x2 x3 x4 x5 s0 (0 : Int32) M
def wp_Model_copy_144 (X166 : Int32 → Int32 → Int32 → Int32 → Int32 → Int32 → Int32 → Mem → Prop) (R : Int32 → Mem → Prop) (M : Mem) : Prop := wp_Model_fails (3 : Int32) M (fun r10 M9 => R r10 M9)
def wp_Model_copy_110 (X166 : Int32 → Int32 → Int32 → Int32 → Int32 → Int32 → Int32 → Mem → Prop) (R : Int32 → Mem → Prop) (x1 : Int32) (x2 : Int32) (x3 : Int32) (x4 : Int32) (x5 : Int32) (s0 : Int32) (M : Mem) : Prop := ((s0 = (0 : Int32) → wp_Model_copy_144 X166 R M) ∧ (¬ (s0 = (0 : Int32)) → (vp_in x1 4 ∧ ((((M 31 x1.toNatClampNeg) - x2) < x5 → wp_Model_copy_144 X166 R M) ∧ (¬ (((M 31 x1.toNatClampNeg) - x2) < x5) → (vp_in x3 4 ∧ ((x5 ≤ ((M 31 x3.toNatClampNeg) - x4) → (((x4 ≤ x2 → (wp_Model_copy_161 X166 R x1 x2 x3 x4 x5 (0 : Int32) M)) ∧ (¬ (x4 ≤ x2) → (wp_Model_copy_161 X166 R x1 x2 x3 x4 x5 (1 : Int32) M))))) ∧ (¬ (x5 ≤ ((M 31 x3.toNatClampNeg) - x4)) → wp_Model_copy_144 X166 R M))))))))
def wp_Model_copy_109 (X166 : Int32 → Int32 → Int32 → Int32 → Int32 → Int32 → Int32 → Mem → Prop) (R : Int32 → Mem → Prop) (x1 : Int32) (x2 : Int32) (x3 : Int32) (x4 : Int32) (x5 : Int32) (M : Mem) : Prop := wp_Model_copy_110 X166 R x1 x2 x3 x4 x5 (0 : Int32) M
def wp_Model_copy_43 (X166 : Int32 → Int32 → Int32 → Int32 → Int32 → Int32 → Int32 → Mem → Prop) (R : Int32 → Mem → Prop) (M : Mem) : Prop := wp_Model_fails (1 : Int32) M (fun r2 M1 => R r2 M1)
def wp_Model_copy_166 (X166 : Int32 → Int32 → Int32 → Int32 → Int32 → Int32 → Int32 → Mem → Prop) (R : Int32 → Mem → Prop) (x1 : Int32) (x2 : Int32) (x3 : Int32) (x4 : Int32) (x5 : Int32) (x7 : Int32) (x8 : Int32) (M : Mem) : Prop := ((x5 ≤ x8 → R x5 M) ∧ (¬ (x5 ≤ x8) → (((x7 = (0 : Int32) → wp_Model_copy_190 X166 R x1 x2 x3 x4 x5 x7 x8 x8 M) ∧ (¬ (x7 = (0 : Int32)) → (wp_Model_copy_190 X166 R x1 x2 x3 x4 x5 x7 x8 ((x5 - (1 : Int32)) - x8) M))))))
def wp_Model_copy (a1 : Int32) (a2 : Int32) (a3 : Int32) (a4 : Int32) (a5 : Int32) (M : Mem) (R : Int32 → Mem → Prop) : Prop := ∀ (X166 : Int32 → Int32 → Int32 → Int32 → Int32 → Int32 → Int32 → Mem → Prop), (∀ (x1 : Int32) (x2 : Int32) (x3 : Int32) (x4 : Int32) (x5 : Int32) (x7 : Int32) (x8 : Int32) (M : Mem), wp_Model_copy_166 X166 R x1 x2 x3 x4 x5 x7 x8 M → X166 x1 x2 x3 x4 x5 x7 x8 M) → ∀ M17 : Mem, M17 = mset M 29 0 (0 : Int32) → wp_Model_isSheet a1 M17 (fun r19 M18 => ((r19 = (0 : Int32) → (R (-1 : Int32) M18)) ∧ (¬ (r19 = (0 : Int32)) → (wp_Model_isSheet a3 M18 (fun r22 M21 => ((¬ r22 = (0 : Int32) → (vp_in a1 4 ∧ (((M21 30 a1.toNatClampNeg) = (-9 : Int32) → wp_Model_copy_43 X166 R M21) ∧ (¬ ((M21 30 a1.toNatClampNeg) = (-9 : Int32)) → (vp_in a3 4 ∧ ((¬ (M21 30 a3.toNatClampNeg) = (-9 : Int32) → (vp_in a1 4 ∧ vp_in a3 4 ∧ (((M21 30 a1.toNatClampNeg) = (M21 30 a3.toNatClampNeg) → (((a2 < (0 : Int32) → wp_Model_copy_109 X166 R a1 a2 a3 a4 a5 M21) ∧ (¬ (a2 < (0 : Int32)) → (((a4 < (0 : Int32) → wp_Model_copy_109 X166 R a1 a2 a3 a4 a5 M21) ∧ (¬ (a4 < (0 : Int32)) → (((a5 < (0 : Int32) → wp_Model_copy_109 X166 R a1 a2 a3 a4 a5 M21) ∧ (¬ (a5 < (0 : Int32)) → (vp_in a1 4 ∧ (((M21 31 a1.toNatClampNeg) < a2 → wp_Model_copy_109 X166 R a1 a2 a3 a4 a5 M21) ∧ (¬ ((M21 31 a1.toNatClampNeg) < a2) → (vp_in a3 4 ∧ (((M21 31 a3.toNatClampNeg) < a4 → wp_Model_copy_109 X166 R a1 a2 a3 a4 a5 M21) ∧ (¬ ((M21 31 a3.toNatClampNeg) < a4) → (wp_Model_copy_110 X166 R a1 a2 a3 a4 a5 (1 : Int32) M21))))))))))))))))) ∧ (¬ ((M21 30 a1.toNatClampNeg) = (M21 30 a3.toNatClampNeg)) → (wp_Model_fails (2 : Int32) M21 (fun r39 M38 => R r39 M38)))))) ∧ ((M21 30 a3.toNatClampNeg) = (-9 : Int32) → wp_Model_copy_43 X166 R M21))))))) ∧ (r22 = (0 : Int32) → (R (-1 : Int32) M21))))))))
def wp_Model_begins (a1 : Int32) (M : Mem) (R : Mem → Prop) : Prop := ∀ M1 : Mem, M1 = mset M 29 1 (((31 : Int32) * (M 29 1)) + a1) → R M1
def wp_Model_tell (a1 : Int32) (M : Mem) (R : Int32 → Mem → Prop) : Prop := wp_Model_isHouse a1 M (fun r2 M1 => ((¬ r2 = (0 : Int32) → (vp_in a1 6 ∧ ∀ x2_5 : Int32, x2_5 = M1 36 a1.toNatClampNeg → vp_in a1 6 ∧ (((M1 33 a1.toNatClampNeg) = (1 : Int32) → (wp_Model_begins (2 : Int32) M1 (fun M8 => wp_Model_begins (1 : Int32) M8 (fun M9 => R (x2_5 + (100 : Int32)) M9)))) ∧ (¬ ((M1 33 a1.toNatClampNeg) = (1 : Int32)) → (((M1 33 a1.toNatClampNeg) = (2 : Int32) → (wp_Model_begins (3 : Int32) M1 (fun M11 => wp_Model_begins (2 : Int32) M11 (fun M12 => wp_Model_begins (1 : Int32) M12 (fun M13 => wp_Model_begins (1 : Int32) M13 (fun M14 => R (((2 : Int32) * x2_5) + (100 : Int32)) M14)))))) ∧ (¬ ((M1 33 a1.toNatClampNeg) = (2 : Int32)) → (wp_Model_begins (1 : Int32) M1 (fun M15 => R x2_5 M15)))))))) ∧ (r2 = (0 : Int32) → (R (-1 : Int32) M1))))
def wp_Model_knock_26 (R : Int32 → Mem → Prop) (x1 : Int32) (s1 : Int32) (M : Mem) : Prop := wp_Model_begins s1 M (fun M1 => vp_in x1 6 ∧ ((¬ (M1 33 x1.toNatClampNeg) = (2 : Int32) → R x1 M1) ∧ ((M1 33 x1.toNatClampNeg) = (2 : Int32) → (R (80 : Int32) M1))))
def wp_Model_knock (a1 : Int32) (M : Mem) (R : Int32 → Mem → Prop) : Prop := wp_Model_isHouse a1 M (fun r5 M4 => ((¬ r5 = (0 : Int32) → (vp_in a1 6 ∧ ((¬ (M4 33 a1.toNatClampNeg) = (2 : Int32) → (wp_Model_knock_26  R a1 (4 : Int32) M4)) ∧ ((M4 33 a1.toNatClampNeg) = (2 : Int32) → (wp_Model_knock_26  R a1 (5 : Int32) M4))))) ∧ (r5 = (0 : Int32) → (R (-1 : Int32) M4))))
def wp_Model_as (a1 : Int32) (a2 : Int32) (M : Mem) (R : Int32 → Mem → Prop) : Prop := ∀ M1 : Mem, M1 = mset M 29 0 (0 : Int32) → wp_Model_isHouse a1 M1 (fun r3 M2 => ((¬ r3 = (0 : Int32) → (wp_Model_within a2 (0 : Int32) (2 : Int32) M2 (fun r6 M5 => ((¬ r6 = (0 : Int32) → (vp_in a1 6 ∧ (((M5 33 a1.toNatClampNeg) < a2 → (wp_Model_fails (2 : Int32) M5 (fun r11 M10 => R r11 M10))) ∧ (¬ ((M5 33 a1.toNatClampNeg) < a2) → (R (1 : Int32) M5))))) ∧ (r6 = (0 : Int32) → (R (-2 : Int32) M5)))))) ∧ (r3 = (0 : Int32) → (R (-1 : Int32) M2))))
def wp_Model_trace (M : Mem) (R : Int32 → Mem → Prop) : Prop := R (M 29 1) M
def wp_Model_fault (M : Mem) (R : Int32 → Mem → Prop) : Prop := R (M 29 0) M
def wp_Model_many (a1 : Int32) (M : Mem) (R : Int32 → Mem → Prop) : Prop := ((¬ a1 = (0 : Int32) → (((¬ a1 = (1 : Int32) → (((¬ a1 = (2 : Int32) → (R (-2 : Int32) M)) ∧ (a1 = (2 : Int32) → (R (M 29 23) M))))) ∧ (a1 = (1 : Int32) → (R (M 29 6) M))))) ∧ (a1 = (0 : Int32) → (R (M 29 5) M)))
end
section
theorem d_Main_isBelow_0 : decode b_Main_isBelow 0 = .ok (.iload_n 0, 1) := by decide +kernel
theorem d_Main_isBelow_1 : decode b_Main_isBelow 1 = .ok (.ifCond .lt 12, 3) := by decide +kernel
theorem d_Main_isBelow_4 : decode b_Main_isBelow 4 = .ok (.iload_n 0, 1) := by decide +kernel
theorem d_Main_isBelow_5 : decode b_Main_isBelow 5 = .ok (.iload_n 1, 1) := by decide +kernel
theorem d_Main_isBelow_6 : decode b_Main_isBelow 6 = .ok (.if_icmp .ge 7, 3) := by decide +kernel
theorem d_Main_isBelow_9 : decode b_Main_isBelow 9 = .ok (.iconst 1, 1) := by decide +kernel
theorem d_Main_isBelow_10 : decode b_Main_isBelow 10 = .ok (.goto 4, 3) := by decide +kernel
theorem d_Main_isBelow_13 : decode b_Main_isBelow 13 = .ok (.iconst 0, 1) := by decide +kernel
theorem d_Main_isBelow_14 : decode b_Main_isBelow 14 = .ok (.ireturn, 1) := by decide +kernel
set_option maxRecDepth 20000 in
theorem c_Main_isBelow {l : Launch} {g : GG} (hI : WI g) (a0 : Int32) (a1 : Int32) (M : Mem) (R : Int32 → Mem → Prop) (h : wp_Main_isBelow a0 a1 M R) : Met l y_Main_isBelow (wm y_Main_isBelow b_Main_isBelow 2 (some .boolean)) (RM 0 0) (PP g M [.int a0, .int a1]) (PQ g (RZ R)) 0 0 (AW g) := by
  refine m_of (own := N_Main) (by decide) rfl (Nat.le_of_ble_eq_true rfl) ?_
  intro p e s m below meth c ls C hr hlocks hW hP hS hl
  obtain ⟨hx, hb, hml, hown, hts⟩ := id C
  have hl : lv_has ls 2 [(0, .int a0), (1, .int a1)] := hl
  unfold wp_Main_isBelow at h
  have hk := h
  refine lv_iload_n hx hb d_Main_isBelow_0 rfl (lv_at hl 0 rfl) ?_
  refine lv_if_lt (tgt := 13) hx hb d_Main_isBelow_1 (by decide) (fun c1 => ?_) (fun c1 => ?_)
  · have hk := hk.1 c1
    refine lv_iconst (v := 0) hx hb d_Main_isBelow_13 (by decide) ?_
    exact r_zret rfl C hr hlocks hP hS hk d_Main_isBelow_14
  · have hk := hk.2 c1
    refine lv_iload_n hx hb d_Main_isBelow_4 rfl (lv_at hl 0 rfl) ?_
    refine lv_iload_n hx hb d_Main_isBelow_5 rfl (lv_at hl 1 rfl) ?_
    refine lv_icmp_ge (tgt := 13) hx hb d_Main_isBelow_6 (by decide) (fun c2 => ?_) (fun c2 => ?_)
    · have hk := hk.1 c2
      refine lv_iconst (v := 0) hx hb d_Main_isBelow_13 (by decide) ?_
      exact r_zret rfl C hr hlocks hP hS hk d_Main_isBelow_14
    · have hk := hk.2 c2
      refine lv_iconst (v := 1) hx hb d_Main_isBelow_9 (by decide) ?_
      refine lv_goto (tgt := 14) hx hb d_Main_isBelow_10 (by decide) ?_
      exact r_zret rfl C hr hlocks hP hS hk d_Main_isBelow_14
theorem d_Sheet_holds_0 : decode b_Sheet_holds 0 = .ok (.iload_n 1, 1) := by decide +kernel
theorem d_Sheet_holds_1 : decode b_Sheet_holds 1 = .ok (.ifCond .lt 29, 3) := by decide +kernel
theorem d_Sheet_holds_4 : decode b_Sheet_holds 4 = .ok (.iload_n 1, 1) := by decide +kernel
theorem d_Sheet_holds_5 : decode b_Sheet_holds 5 = .ok (.aload_n 0, 1) := by decide +kernel
theorem d_Sheet_holds_6 : decode b_Sheet_holds 6 = .ok (.getfield 23, 3) := by decide +kernel
theorem d_Sheet_holds_9 : decode b_Sheet_holds 9 = .ok (.if_icmp .gt 21, 3) := by decide +kernel
theorem d_Sheet_holds_12 : decode b_Sheet_holds 12 = .ok (.iload_n 2, 1) := by decide +kernel
theorem d_Sheet_holds_13 : decode b_Sheet_holds 13 = .ok (.ifCond .lt 17, 3) := by decide +kernel
theorem d_Sheet_holds_16 : decode b_Sheet_holds 16 = .ok (.iload_n 2, 1) := by decide +kernel
theorem d_Sheet_holds_17 : decode b_Sheet_holds 17 = .ok (.aload_n 0, 1) := by decide +kernel
theorem d_Sheet_holds_18 : decode b_Sheet_holds 18 = .ok (.getfield 23, 3) := by decide +kernel
theorem d_Sheet_holds_21 : decode b_Sheet_holds 21 = .ok (.iload_n 1, 1) := by decide +kernel
theorem d_Sheet_holds_22 : decode b_Sheet_holds 22 = .ok (.isub, 1) := by decide +kernel
theorem d_Sheet_holds_23 : decode b_Sheet_holds 23 = .ok (.if_icmp .gt 7, 3) := by decide +kernel
theorem d_Sheet_holds_26 : decode b_Sheet_holds 26 = .ok (.iconst 1, 1) := by decide +kernel
theorem d_Sheet_holds_27 : decode b_Sheet_holds 27 = .ok (.goto 4, 3) := by decide +kernel
theorem d_Sheet_holds_30 : decode b_Sheet_holds 30 = .ok (.iconst 0, 1) := by decide +kernel
theorem d_Sheet_holds_31 : decode b_Sheet_holds 31 = .ok (.ireturn, 1) := by decide +kernel
set_option maxRecDepth 20000 in
theorem c_Sheet_holds {l : Launch} {g : GG} {q0 : Nat} (hq0 : q0 < 4) (hI : WI g) (a1 : Int32) (a2 : Int32) (M : Mem) (R : Int32 → Mem → Prop) (h : wp_Sheet_holds q0 a1 a2 M R) : Met l y_Sheet_holds (wm y_Sheet_holds b_Sheet_holds 3 (some .boolean)) (RM 0 0) (PP g M [.ref (g.2.2.2 (2 + q0)), .int a1, .int a2]) (PQ g (RZ R)) 0 0 (AW g) := by
  refine m_of (own := N_Sheet) (by decide) rfl (Nat.le_of_ble_eq_true rfl) ?_
  intro p e s m below meth c ls C hr hlocks hW hP hS hl
  obtain ⟨hx, hb, hml, hown, hts⟩ := id C
  have hl : lv_has ls 3 [(0, .ref (g.2.2.2 (2 + q0))), (1, .int a1), (2, .int a2)] := hl
  unfold wp_Sheet_holds at h
  have hk := h
  refine lv_iload_n hx hb d_Sheet_holds_0 rfl (lv_at hl 1 rfl) ?_
  refine lv_if_lt (tgt := 30) hx hb d_Sheet_holds_1 (by decide) (fun c1 => ?_) (fun c1 => ?_)
  · have hk := hk.1 c1
    refine lv_iconst (v := 0) hx hb d_Sheet_holds_30 (by decide) ?_
    exact r_zret rfl C hr hlocks hP hS hk d_Sheet_holds_31
  · have hk := hk.2 c1
    refine lv_iload_n hx hb d_Sheet_holds_4 rfl (lv_at hl 1 rfl) ?_
    refine lv_aload_n hx hb d_Sheet_holds_5 rfl (lv_at hl 0 rfl) ?_
    refine gf_sh_3 hq0 C hW hP fl_Sheet_23 d_Sheet_holds_6 ?_
    refine lv_icmp_gt (tgt := 30) hx hb d_Sheet_holds_9 (by decide) (fun c2 => ?_) (fun c2 => ?_)
    · have hk := hk.1 c2
      refine lv_iconst (v := 0) hx hb d_Sheet_holds_30 (by decide) ?_
      exact r_zret rfl C hr hlocks hP hS hk d_Sheet_holds_31
    · have hk := hk.2 c2
      refine lv_iload_n hx hb d_Sheet_holds_12 rfl (lv_at hl 2 rfl) ?_
      refine lv_if_lt (tgt := 30) hx hb d_Sheet_holds_13 (by decide) (fun c3 => ?_) (fun c3 => ?_)
      · have hk := hk.1 c3
        refine lv_iconst (v := 0) hx hb d_Sheet_holds_30 (by decide) ?_
        exact r_zret rfl C hr hlocks hP hS hk d_Sheet_holds_31
      · have hk := hk.2 c3
        refine lv_iload_n hx hb d_Sheet_holds_16 rfl (lv_at hl 2 rfl) ?_
        refine lv_aload_n hx hb d_Sheet_holds_17 rfl (lv_at hl 0 rfl) ?_
        refine gf_sh_3 hq0 C hW hP fl_Sheet_23 d_Sheet_holds_18 ?_
        refine lv_iload_n hx hb d_Sheet_holds_21 rfl (lv_at hl 1 rfl) ?_
        refine lv_isub hx hb d_Sheet_holds_22 ?_
        refine lv_icmp_gt (tgt := 30) hx hb d_Sheet_holds_23 (by decide) (fun c4 => ?_) (fun c4 => ?_)
        · have hk := hk.1 c4
          refine lv_iconst (v := 0) hx hb d_Sheet_holds_30 (by decide) ?_
          exact r_zret rfl C hr hlocks hP hS hk d_Sheet_holds_31
        · have hk := hk.2 c4
          refine lv_iconst (v := 1) hx hb d_Sheet_holds_26 (by decide) ?_
          refine lv_goto (tgt := 31) hx hb d_Sheet_holds_27 (by decide) ?_
          exact r_zret rfl C hr hlocks hP hS hk d_Sheet_holds_31
theorem d_Sheet_faultOfTaking_0 : decode b_Sheet_faultOfTaking 0 = .ok (.aload_n 0, 1) := by decide +kernel
theorem d_Sheet_faultOfTaking_1 : decode b_Sheet_faultOfTaking 1 = .ok (.getfield 15, 3) := by decide +kernel
theorem d_Sheet_faultOfTaking_4 : decode b_Sheet_faultOfTaking 4 = .ok (.ifCond .ne 5, 3) := by decide +kernel
theorem d_Sheet_faultOfTaking_7 : decode b_Sheet_faultOfTaking 7 = .ok (.iconst 1, 1) := by decide +kernel
theorem d_Sheet_faultOfTaking_8 : decode b_Sheet_faultOfTaking 8 = .ok (.ireturn, 1) := by decide +kernel
theorem d_Sheet_faultOfTaking_9 : decode b_Sheet_faultOfTaking 9 = .ok (.aload_n 0, 1) := by decide +kernel
theorem d_Sheet_faultOfTaking_10 : decode b_Sheet_faultOfTaking 10 = .ok (.getfield 19, 3) := by decide +kernel
theorem d_Sheet_faultOfTaking_13 : decode b_Sheet_faultOfTaking 13 = .ok (.iload_n 1, 1) := by decide +kernel
theorem d_Sheet_faultOfTaking_14 : decode b_Sheet_faultOfTaking 14 = .ok (.if_icmp .eq 5, 3) := by decide +kernel
theorem d_Sheet_faultOfTaking_17 : decode b_Sheet_faultOfTaking 17 = .ok (.iconst 2, 1) := by decide +kernel
theorem d_Sheet_faultOfTaking_18 : decode b_Sheet_faultOfTaking 18 = .ok (.ireturn, 1) := by decide +kernel
theorem d_Sheet_faultOfTaking_19 : decode b_Sheet_faultOfTaking 19 = .ok (.iload_n 3, 1) := by decide +kernel
theorem d_Sheet_faultOfTaking_20 : decode b_Sheet_faultOfTaking 20 = .ok (.ifCond .ge 5, 3) := by decide +kernel
theorem d_Sheet_faultOfTaking_23 : decode b_Sheet_faultOfTaking 23 = .ok (.iconst 4, 1) := by decide +kernel
theorem d_Sheet_faultOfTaking_24 : decode b_Sheet_faultOfTaking 24 = .ok (.ireturn, 1) := by decide +kernel
theorem d_Sheet_faultOfTaking_25 : decode b_Sheet_faultOfTaking 25 = .ok (.aload_n 0, 1) := by decide +kernel
theorem d_Sheet_faultOfTaking_26 : decode b_Sheet_faultOfTaking 26 = .ok (.iload_n 2, 1) := by decide +kernel
theorem d_Sheet_faultOfTaking_27 : decode b_Sheet_faultOfTaking 27 = .ok (.iload_n 3, 1) := by decide +kernel
theorem d_Sheet_faultOfTaking_28 : decode b_Sheet_faultOfTaking 28 = .ok (.invokevirtual 32, 3) := by decide +kernel
theorem d_Sheet_faultOfTaking_31 : decode b_Sheet_faultOfTaking 31 = .ok (.ifCond .eq 7, 3) := by decide +kernel
theorem d_Sheet_faultOfTaking_34 : decode b_Sheet_faultOfTaking 34 = .ok (.iconst 0, 1) := by decide +kernel
theorem d_Sheet_faultOfTaking_35 : decode b_Sheet_faultOfTaking 35 = .ok (.goto 4, 3) := by decide +kernel
theorem d_Sheet_faultOfTaking_38 : decode b_Sheet_faultOfTaking 38 = .ok (.iconst 3, 1) := by decide +kernel
theorem d_Sheet_faultOfTaking_39 : decode b_Sheet_faultOfTaking 39 = .ok (.ireturn, 1) := by decide +kernel
set_option maxRecDepth 20000 in
theorem c_Sheet_faultOfTaking {l : Launch} {g : GG} {q0 : Nat} (hq0 : q0 < 4) (hI : WI g) (a1 : Int32) (a2 : Int32) (a3 : Int32) (M : Mem) (R : Int32 → Mem → Prop) (h : wp_Sheet_faultOfTaking q0 a1 a2 a3 M R) : Met l y_Sheet_faultOfTaking (wm y_Sheet_faultOfTaking b_Sheet_faultOfTaking 4 (some .int)) (RM 1 22) (PP g M [.ref (g.2.2.2 (2 + q0)), .int a1, .int a2, .int a3]) (PQ g (RI R)) 0 0 (AW g) := by
  refine m_of (own := N_Sheet) (by decide) rfl (Nat.le_of_ble_eq_true rfl) ?_
  intro p e s m below meth c ls C hr hlocks hW hP hS hl
  obtain ⟨hx, hb, hml, hown, hts⟩ := id C
  have hl : lv_has ls 4 [(0, .ref (g.2.2.2 (2 + q0))), (1, .int a1), (2, .int a2), (3, .int a3)] := hl
  unfold wp_Sheet_faultOfTaking at h
  have hk := h
  refine lv_aload_n hx hb d_Sheet_faultOfTaking_0 rfl (lv_at hl 0 rfl) ?_
  refine gf_sh_1 hq0 C hW hP fl_Sheet_15 d_Sheet_faultOfTaking_1 ?_
  refine lv_if_ne (tgt := 9) hx hb d_Sheet_faultOfTaking_4 (by decide) (fun c1 => ?_) (fun c1 => ?_)
  · have hk := hk.1 c1
    refine lv_aload_n hx hb d_Sheet_faultOfTaking_9 rfl (lv_at hl 0 rfl) ?_
    refine gf_sh_2 hq0 C hW hP fl_Sheet_19 d_Sheet_faultOfTaking_10 ?_
    refine lv_iload_n hx hb d_Sheet_faultOfTaking_13 rfl (lv_at hl 1 rfl) ?_
    refine lv_icmp_eq (tgt := 19) hx hb d_Sheet_faultOfTaking_14 (by decide) (fun c2 => ?_) (fun c2 => ?_)
    · have hk := hk.1 c2
      refine lv_iload_n hx hb d_Sheet_faultOfTaking_19 rfl (lv_at hl 3 rfl) ?_
      refine lv_if_ge (tgt := 25) hx hb d_Sheet_faultOfTaking_20 (by decide) (fun c3 => ?_) (fun c3 => ?_)
      · have hk := hk.1 c3
        refine lv_aload_n hx hb d_Sheet_faultOfTaking_25 rfl (lv_at hl 0 rfl) ?_
        refine lv_iload_n hx hb d_Sheet_faultOfTaking_26 rfl (lv_at hl 2 rfl) ?_
        refine lv_iload_n hx hb d_Sheet_faultOfTaking_27 rfl (lv_at hl 3 rfl) ?_
        refine r_runZ (k_V (As := [.int a2, .int a3]) (rest := []) C hW hP (c_Sheet_holds hq0 hI a2 a3 M _ hk) cb_Sheet_holds ml_Sheet_32 (io_sh q0 hq0 M) ⟨by decide, by decide⟩ rfl hl.1 rfl (Nat.le_of_ble_eq_true rfl) d_Sheet_faultOfTaking_28 ⟨by decide, by decide⟩) hS (fun r5 M4 H locs zr5 hk hP hS => ?_)
        refine lv_if_eq (tgt := 38) hx hb d_Sheet_faultOfTaking_31 (by decide) (fun c6 => ?_) (fun c6 => ?_)
        · have hk := hk.1 c6
          refine lv_iconst (v := 3) hx hb d_Sheet_faultOfTaking_38 (by decide) ?_
          exact r_iret C hr hlocks hP hS hk d_Sheet_faultOfTaking_39
        · have hk := hk.2 c6
          refine lv_iconst (v := 0) hx hb d_Sheet_faultOfTaking_34 (by decide) ?_
          refine lv_goto (tgt := 39) hx hb d_Sheet_faultOfTaking_35 (by decide) ?_
          exact r_iret C hr hlocks hP hS hk d_Sheet_faultOfTaking_39
      · have hk := hk.2 c3
        refine lv_iconst (v := 4) hx hb d_Sheet_faultOfTaking_23 (by decide) ?_
        exact r_iret C hr hlocks hP hS hk d_Sheet_faultOfTaking_24
    · have hk := hk.2 c2
      refine lv_iconst (v := 2) hx hb d_Sheet_faultOfTaking_17 (by decide) ?_
      exact r_iret C hr hlocks hP hS hk d_Sheet_faultOfTaking_18
  · have hk := hk.2 c1
    refine lv_iconst (v := 1) hx hb d_Sheet_faultOfTaking_7 (by decide) ?_
    exact r_iret C hr hlocks hP hS hk d_Sheet_faultOfTaking_8
theorem d_Sheet_cut_0 : decode b_Sheet_cut 0 = .ok (.aload_n 0, 1) := by decide +kernel
theorem d_Sheet_cut_1 : decode b_Sheet_cut 1 = .ok (.getfield 19, 3) := by decide +kernel
theorem d_Sheet_cut_4 : decode b_Sheet_cut 4 = .ok (.lookupswitch 34 #[(0, 28), (1, 31)], 28) := by decide +kernel
theorem d_Sheet_cut_32 : decode b_Sheet_cut 32 = .ok (.iload_n 1, 1) := by decide +kernel
theorem d_Sheet_cut_33 : decode b_Sheet_cut 33 = .ok (.i2b, 1) := by decide +kernel
theorem d_Sheet_cut_34 : decode b_Sheet_cut 34 = .ok (.ireturn, 1) := by decide +kernel
theorem d_Sheet_cut_35 : decode b_Sheet_cut 35 = .ok (.iload_n 1, 1) := by decide +kernel
theorem d_Sheet_cut_36 : decode b_Sheet_cut 36 = .ok (.i2s, 1) := by decide +kernel
theorem d_Sheet_cut_37 : decode b_Sheet_cut 37 = .ok (.ireturn, 1) := by decide +kernel
theorem d_Sheet_cut_38 : decode b_Sheet_cut 38 = .ok (.iload_n 1, 1) := by decide +kernel
theorem d_Sheet_cut_39 : decode b_Sheet_cut 39 = .ok (.ireturn, 1) := by decide +kernel
set_option maxRecDepth 20000 in
theorem c_Sheet_cut {l : Launch} {g : GG} {q0 : Nat} (hq0 : q0 < 4) (hI : WI g) (a1 : Int32) (M : Mem) (R : Int32 → Mem → Prop) (h : wp_Sheet_cut q0 a1 M R) : Met l y_Sheet_cut (wm y_Sheet_cut b_Sheet_cut 2 (some .int)) (RM 0 0) (PP g M [.ref (g.2.2.2 (2 + q0)), .int a1]) (PQ g (RI R)) 0 0 (AW g) := by
  refine m_of (own := N_Sheet) (by decide) rfl (Nat.le_of_ble_eq_true rfl) ?_
  intro p e s m below meth c ls C hr hlocks hW hP hS hl
  obtain ⟨hx, hb, hml, hown, hts⟩ := id C
  have hl : lv_has ls 2 [(0, .ref (g.2.2.2 (2 + q0))), (1, .int a1)] := hl
  unfold wp_Sheet_cut at h
  have hk := h
  refine lv_aload_n hx hb d_Sheet_cut_0 rfl (lv_at hl 0 rfl) ?_
  refine gf_sh_2 hq0 C hW hP fl_Sheet_19 d_Sheet_cut_1 ?_
  by_cases c1 : (M (2 + q0) 2) = (0 : Int32)
  · have hk := hk.1 c1
    refine lv_lookup (tgt := 32) hx hb d_Sheet_cut_4 (by decide) (by rw [c1] <;> rfl) (by decide) ?_
    refine lv_iload_n hx hb d_Sheet_cut_32 rfl (lv_at hl 1 rfl) ?_
    refine lv_i2b hx hb d_Sheet_cut_33 rfl ?_
    exact r_iret C hr hlocks hP hS hk d_Sheet_cut_34
  · have hk := hk.2 c1
    by_cases c2 : (M (2 + q0) 2) = (1 : Int32)
    · have hk := hk.1 c2
      refine lv_lookup (tgt := 35) hx hb d_Sheet_cut_4 (by decide) (by rw [c2] <;> rfl) (by decide) ?_
      refine lv_iload_n hx hb d_Sheet_cut_35 rfl (lv_at hl 1 rfl) ?_
      refine lv_i2s hx hb d_Sheet_cut_36 rfl ?_
      exact r_iret C hr hlocks hP hS hk d_Sheet_cut_37
    · have hk := hk.2 c2
      refine lv_lookup (tgt := 38) hx hb d_Sheet_cut_4 (by decide) (by simp [Op.lookupswitch.offset, sw_ne (k := 0) c1, sw_ne (k := 1) c2] <;> rfl) (by decide) ?_
      refine lv_iload_n hx hb d_Sheet_cut_38 rfl (lv_at hl 1 rfl) ?_
      exact r_iret C hr hlocks hP hS hk d_Sheet_cut_39
theorem d_Way_hasHouse_0 : decode b_Way_hasHouse 0 = .ok (.iload_n 1, 1) := by decide +kernel
theorem d_Way_hasHouse_1 : decode b_Way_hasHouse 1 = .ok (.aload_n 0, 1) := by decide +kernel
theorem d_Way_hasHouse_2 : decode b_Way_hasHouse 2 = .ok (.getfield 27, 3) := by decide +kernel
theorem d_Way_hasHouse_5 : decode b_Way_hasHouse 5 = .ok (.invokestatic 52, 3) := by decide +kernel
theorem d_Way_hasHouse_8 : decode b_Way_hasHouse 8 = .ok (.ireturn, 1) := by decide +kernel
set_option maxRecDepth 20000 in
theorem c_Way_hasHouse {l : Launch} {g : GG} (hI : WI g) (a1 : Int32) (M : Mem) (R : Int32 → Mem → Prop) (h : wp_Way_hasHouse a1 M R) : Met l y_Way_hasHouse (wm y_Way_hasHouse b_Way_hasHouse 2 (some .boolean)) (RM 1 21) (PP g M [.ref (g.2.2.2 12), .int a1]) (PQ g (RZ R)) 0 0 (AW g) := by
  refine m_of (own := N_Way) (by decide) rfl (Nat.le_of_ble_eq_true rfl) ?_
  intro p e s m below meth c ls C hr hlocks hW hP hS hl
  obtain ⟨hx, hb, hml, hown, hts⟩ := id C
  have hl : lv_has ls 2 [(0, .ref (g.2.2.2 12)), (1, .int a1)] := hl
  unfold wp_Way_hasHouse at h
  have hk := h
  refine lv_iload_n hx hb d_Way_hasHouse_0 rfl (lv_at hl 1 rfl) ?_
  refine lv_aload_n hx hb d_Way_hasHouse_1 rfl (lv_at hl 0 rfl) ?_
  refine gf_12_5 C hW hP fl_Way_27 d_Way_hasHouse_2 ?_
  refine r_runZ (k_N (As := [.int a1, .int (M 12 5)]) (rest := []) C hW hP (c_Main_isBelow hI a1 (M 12 5) M _ hk) cb_Main_isBelow hW.2.2 ⟨by decide, by decide⟩ rfl hl.1 rfl (Nat.le_of_ble_eq_true rfl) d_Way_hasHouse_5 ⟨by decide, by decide⟩) hS (fun r2 M1 H locs zr2 hk hP hS => ?_)
  exact r_zret zr2 C hr hlocks hP hS hk d_Way_hasHouse_8
theorem d_Way_gearOf_0 : decode b_Way_gearOf 0 = .ok (.iconst 0, 1) := by decide +kernel
theorem d_Way_gearOf_1 : decode b_Way_gearOf 1 = .ok (.istore_n 2, 1) := by decide +kernel
theorem d_Way_gearOf_2 : decode b_Way_gearOf 2 = .ok (.iconst 0, 1) := by decide +kernel
theorem d_Way_gearOf_3 : decode b_Way_gearOf 3 = .ok (.istore_n 3, 1) := by decide +kernel
theorem d_Way_gearOf_4 : decode b_Way_gearOf 4 = .ok (.iload_n 3, 1) := by decide +kernel
theorem d_Way_gearOf_5 : decode b_Way_gearOf 5 = .ok (.aload_n 0, 1) := by decide +kernel
theorem d_Way_gearOf_6 : decode b_Way_gearOf 6 = .ok (.getfield 31, 3) := by decide +kernel
theorem d_Way_gearOf_9 : decode b_Way_gearOf 9 = .ok (.if_icmp .ge 26, 3) := by decide +kernel
theorem d_Way_gearOf_12 : decode b_Way_gearOf 12 = .ok (.iload_n 1, 1) := by decide +kernel
theorem d_Way_gearOf_13 : decode b_Way_gearOf 13 = .ok (.iconst 1, 1) := by decide +kernel
theorem d_Way_gearOf_14 : decode b_Way_gearOf 14 = .ok (.iload_n 3, 1) := by decide +kernel
theorem d_Way_gearOf_15 : decode b_Way_gearOf 15 = .ok (.ishl, 1) := by decide +kernel
theorem d_Way_gearOf_16 : decode b_Way_gearOf 16 = .ok (.iand, 1) := by decide +kernel
theorem d_Way_gearOf_17 : decode b_Way_gearOf 17 = .ok (.ifCond .eq 12, 3) := by decide +kernel
theorem d_Way_gearOf_20 : decode b_Way_gearOf 20 = .ok (.iload_n 2, 1) := by decide +kernel
theorem d_Way_gearOf_21 : decode b_Way_gearOf 21 = .ok (.aload_n 0, 1) := by decide +kernel
theorem d_Way_gearOf_22 : decode b_Way_gearOf 22 = .ok (.getfield 24, 3) := by decide +kernel
theorem d_Way_gearOf_25 : decode b_Way_gearOf 25 = .ok (.iload_n 3, 1) := by decide +kernel
theorem d_Way_gearOf_26 : decode b_Way_gearOf 26 = .ok (.iaload, 1) := by decide +kernel
theorem d_Way_gearOf_27 : decode b_Way_gearOf 27 = .ok (.ior, 1) := by decide +kernel
theorem d_Way_gearOf_28 : decode b_Way_gearOf 28 = .ok (.istore_n 2, 1) := by decide +kernel
theorem d_Way_gearOf_29 : decode b_Way_gearOf 29 = .ok (.iinc 3 1, 3) := by decide +kernel
theorem d_Way_gearOf_32 : decode b_Way_gearOf 32 = .ok (.goto (-28), 3) := by decide +kernel
theorem d_Way_gearOf_35 : decode b_Way_gearOf 35 = .ok (.iload_n 2, 1) := by decide +kernel
theorem d_Way_gearOf_36 : decode b_Way_gearOf 36 = .ok (.ireturn, 1) := by decide +kernel
set_option maxRecDepth 20000 in
theorem c_Way_gearOf {l : Launch} {g : GG} (hI : WI g) (a1 : Int32) (M : Mem) (R : Int32 → Mem → Prop) (h : wp_Way_gearOf a1 M R) : Met l y_Way_gearOf (wm y_Way_gearOf b_Way_gearOf 4 (some .int)) (RM 0 0) (PP g M [.ref (g.2.2.2 12), .int a1]) (PQ g (RI R)) 0 0 (AW g) := by
  refine m_of (own := N_Way) (by decide) rfl (Nat.le_of_ble_eq_true rfl) ?_
  intro p e s m below meth c ls C hr hlocks hW hP hS hl
  obtain ⟨hx, hb, hml, hown, hts⟩ := id C
  have hl : lv_has ls 4 [(0, .ref (g.2.2.2 12)), (1, .int a1)] := hl
  unfold wp_Way_gearOf at h
  obtain ⟨X4, eX4⟩ : ∃ X : Int32 → Int32 → Int32 → Mem → Prop, ∀ (x1 : Int32) (x2 : Int32) (x3 : Int32) (M : Mem), X x1 x2 x3 M ↔ (∀ (H : Heap) (locs : List Loc) (ls : Array Slot), WP g M H → va_S (AW g) s.heap H locs → lv_has ls 4 [(0, .ref (g.2.2.2 12)), (1, .int x1), (2, .int x2), (3, .int x3)] → W p l e (RM 0 0) s m ([.ref (g.2.2.2 12), .int a1] : List Value).toArray below meth c H locs 0 0 (MQ below (PQ g (RI R)) ([.ref (g.2.2.2 12), .int a1] : List Value).toArray s 0 0 (AW g)) (F0 m 4 ls [])) := ⟨fun x1 x2 x3 M => _, fun _ _ _ _ => Iff.rfl⟩
  have J29 : ∀ (x1 : Int32) (x2 : Int32) (x3 : Int32) (M : Mem), wp_Way_gearOf_29 X4 R x1 x2 x3 M → ∀ (H : Heap) (locs : List Loc) (ls : Array Slot), WP g M H → va_S (AW g) s.heap H locs → lv_has ls 4 [(0, .ref (g.2.2.2 12)), (1, .int x1), (2, .int x2), (3, .int x3)] → W p l e (RM 0 0) s m ([.ref (g.2.2.2 12), .int a1] : List Value).toArray below meth c H locs 0 0 (MQ below (PQ g (RI R)) ([.ref (g.2.2.2 12), .int a1] : List Value).toArray s 0 0 (AW g)) (F0 m 29 ls []) := by
    intro x1 x2 x3 M hk H locs ls hP hS hl
    unfold wp_Way_gearOf_29 at hk
    obtain ⟨x3_5, ex3_5⟩ : ∃ y : Int32, y = x3 + (1 : Int32) := ⟨_, rfl⟩
    have hk := hk x3_5 ex3_5
    refine lv_iinc (v := x3_5) (lv' := [(3, .int x3_5), (0, .ref (g.2.2.2 12)), (1, .int x1), (2, .int x2)]) hx hb d_Way_gearOf_29 hl (k := 3) rfl (by rw [ex3_5]; rfl) (by decide) rfl (fun ls hl => ?_)
    refine lv_goto (tgt := 4) hx hb d_Way_gearOf_32 (by decide) ?_
    exact (eX4 x1 x2 x3_5 M).mp hk _ _ _ hP hS (lv_sub hl [1, 2, 3, 0] rfl)
  suffices hcl : (∀ (x1 : Int32) (x2 : Int32) (x3 : Int32) (M : Mem), wp_Way_gearOf_4 X4 R x1 x2 x3 M → X4 x1 x2 x3 M) by
    have hk := h X4 hcl
    refine lv_iconst (v := 0) hx hb d_Way_gearOf_0 (by decide) ?_
    refine lv_istore_n (lv' := [(2, .int (0 : Int32)), (0, .ref (g.2.2.2 12)), (1, .int a1)]) hx hb d_Way_gearOf_1 rfl hl (by decide) rfl (fun ls hl => ?_)
    refine lv_iconst (v := 0) hx hb d_Way_gearOf_2 (by decide) ?_
    refine lv_istore_n (lv' := [(3, .int (0 : Int32)), (2, .int (0 : Int32)), (0, .ref (g.2.2.2 12)), (1, .int a1)]) hx hb d_Way_gearOf_3 rfl hl (by decide) rfl (fun ls hl => ?_)
    exact (eX4 a1 (0 : Int32) (0 : Int32) M).mp hk _ _ _ hP hS (lv_sub hl [2, 3, 1, 0] rfl)
  · intro x1 x2 x3 M hk
    refine (eX4 x1 x2 x3 M).mpr ?_
    intro H locs ls hP hS hl
    unfold wp_Way_gearOf_4 at hk
    refine lv_iload_n hx hb d_Way_gearOf_4 rfl (lv_at hl 3 rfl) ?_
    refine lv_aload_n hx hb d_Way_gearOf_5 rfl (lv_at hl 0 rfl) ?_
    refine gf_12_6 C hW hP fl_Way_31 d_Way_gearOf_6 ?_
    refine lv_icmp_ge (tgt := 35) hx hb d_Way_gearOf_9 (by decide) (fun c1 => ?_) (fun c1 => ?_)
    · have hk := hk.1 c1
      refine lv_iload_n hx hb d_Way_gearOf_35 rfl (lv_at hl 2 rfl) ?_
      exact r_iret C hr hlocks hP hS hk d_Way_gearOf_36
    · have hk := hk.2 c1
      refine lv_iload_n hx hb d_Way_gearOf_12 rfl (lv_at hl 1 rfl) ?_
      refine lv_iconst (v := 1) hx hb d_Way_gearOf_13 (by decide) ?_
      refine lv_iload_n hx hb d_Way_gearOf_14 rfl (lv_at hl 3 rfl) ?_
      refine lv_ishl hx hb d_Way_gearOf_15 ?_
      refine lv_iand hx hb d_Way_gearOf_16 ?_
      refine lv_if_eq (tgt := 29) hx hb d_Way_gearOf_17 (by decide) (fun c2 => ?_) (fun c2 => ?_)
      · have hk := hk.1 c2
        exact J29 x1 x2 x3 M hk _ _ _ hP hS (lv_sub hl [0, 1, 2, 3] rfl)
      · have hk := hk.2 c2
        refine lv_iload_n hx hb d_Way_gearOf_20 rfl (lv_at hl 2 rfl) ?_
        refine lv_aload_n hx hb d_Way_gearOf_21 rfl (lv_at hl 0 rfl) ?_
        refine gf_12_4 C hW hP fl_Way_24 d_Way_gearOf_22 ?_
        refine lv_iload_n hx hb d_Way_gearOf_25 rfl (lv_at hl 3 rfl) ?_
        obtain ⟨h3, hk⟩ := hk
        refine al_17 C hW hP h3 d_Way_gearOf_26 ?_
        refine lv_ior hx hb d_Way_gearOf_27 ?_
        refine lv_topi (fun x2_4 ex2_4 => ?_)
        have hk := hk x2_4 ex2_4
        refine lv_istore_n (lv' := [(2, .int x2_4), (0, .ref (g.2.2.2 12)), (1, .int x1), (3, .int x3)]) hx hb d_Way_gearOf_28 rfl hl (by decide) rfl (fun ls hl => ?_)
        exact J29 x1 x2_4 x3 M hk _ _ _ hP hS (lv_sub hl [1, 2, 0, 3] rfl)
theorem d_Way_usedIn_0 : decode b_Way_usedIn 0 = .ok (.iload_n 2, 1) := by decide +kernel
theorem d_Way_usedIn_1 : decode b_Way_usedIn 1 = .ok (.iload_n 3, 1) := by decide +kernel
theorem d_Way_usedIn_2 : decode b_Way_usedIn 2 = .ok (.iconst (-1), 1) := by decide +kernel
theorem d_Way_usedIn_3 : decode b_Way_usedIn 3 = .ok (.ixor, 1) := by decide +kernel
theorem d_Way_usedIn_4 : decode b_Way_usedIn 4 = .ok (.iand, 1) := by decide +kernel
theorem d_Way_usedIn_5 : decode b_Way_usedIn 5 = .ok (.iconst 1, 1) := by decide +kernel
theorem d_Way_usedIn_6 : decode b_Way_usedIn 6 = .ok (.aload_n 0, 1) := by decide +kernel
theorem d_Way_usedIn_7 : decode b_Way_usedIn 7 = .ok (.getfield 21, 3) := by decide +kernel
theorem d_Way_usedIn_10 : decode b_Way_usedIn 10 = .ok (.iload_n 1, 1) := by decide +kernel
theorem d_Way_usedIn_11 : decode b_Way_usedIn 11 = .ok (.iaload, 1) := by decide +kernel
theorem d_Way_usedIn_12 : decode b_Way_usedIn 12 = .ok (.ishl, 1) := by decide +kernel
theorem d_Way_usedIn_13 : decode b_Way_usedIn 13 = .ok (.iconst (-1), 1) := by decide +kernel
theorem d_Way_usedIn_14 : decode b_Way_usedIn 14 = .ok (.ixor, 1) := by decide +kernel
theorem d_Way_usedIn_15 : decode b_Way_usedIn 15 = .ok (.iand, 1) := by decide +kernel
theorem d_Way_usedIn_16 : decode b_Way_usedIn 16 = .ok (.iconst 1, 1) := by decide +kernel
theorem d_Way_usedIn_17 : decode b_Way_usedIn 17 = .ok (.aload_n 0, 1) := by decide +kernel
theorem d_Way_usedIn_18 : decode b_Way_usedIn 18 = .ok (.getfield 34, 3) := by decide +kernel
theorem d_Way_usedIn_21 : decode b_Way_usedIn 21 = .ok (.ishl, 1) := by decide +kernel
theorem d_Way_usedIn_22 : decode b_Way_usedIn 22 = .ok (.iconst (-1), 1) := by decide +kernel
theorem d_Way_usedIn_23 : decode b_Way_usedIn 23 = .ok (.ixor, 1) := by decide +kernel
theorem d_Way_usedIn_24 : decode b_Way_usedIn 24 = .ok (.iand, 1) := by decide +kernel
theorem d_Way_usedIn_25 : decode b_Way_usedIn 25 = .ok (.istore 4, 2) := by decide +kernel
theorem d_Way_usedIn_27 : decode b_Way_usedIn 27 = .ok (.iconst 1, 1) := by decide +kernel
theorem d_Way_usedIn_28 : decode b_Way_usedIn 28 = .ok (.aload_n 0, 1) := by decide +kernel
theorem d_Way_usedIn_29 : decode b_Way_usedIn 29 = .ok (.getfield 15, 3) := by decide +kernel
theorem d_Way_usedIn_32 : decode b_Way_usedIn 32 = .ok (.iload_n 1, 1) := by decide +kernel
theorem d_Way_usedIn_33 : decode b_Way_usedIn 33 = .ok (.iaload, 1) := by decide +kernel
theorem d_Way_usedIn_34 : decode b_Way_usedIn 34 = .ok (.ishl, 1) := by decide +kernel
theorem d_Way_usedIn_35 : decode b_Way_usedIn 35 = .ok (.istore 5, 2) := by decide +kernel
theorem d_Way_usedIn_37 : decode b_Way_usedIn 37 = .ok (.iconst 1, 1) := by decide +kernel
theorem d_Way_usedIn_38 : decode b_Way_usedIn 38 = .ok (.aload_n 0, 1) := by decide +kernel
theorem d_Way_usedIn_39 : decode b_Way_usedIn 39 = .ok (.getfield 18, 3) := by decide +kernel
theorem d_Way_usedIn_42 : decode b_Way_usedIn 42 = .ok (.iload_n 1, 1) := by decide +kernel
theorem d_Way_usedIn_43 : decode b_Way_usedIn 43 = .ok (.iaload, 1) := by decide +kernel
theorem d_Way_usedIn_44 : decode b_Way_usedIn 44 = .ok (.ishl, 1) := by decide +kernel
theorem d_Way_usedIn_45 : decode b_Way_usedIn 45 = .ok (.istore 6, 2) := by decide +kernel
theorem d_Way_usedIn_47 : decode b_Way_usedIn 47 = .ok (.aload_n 0, 1) := by decide +kernel
theorem d_Way_usedIn_48 : decode b_Way_usedIn 48 = .ok (.getfield 9, 3) := by decide +kernel
theorem d_Way_usedIn_51 : decode b_Way_usedIn 51 = .ok (.iload_n 1, 1) := by decide +kernel
theorem d_Way_usedIn_52 : decode b_Way_usedIn 52 = .ok (.iaload, 1) := by decide +kernel
theorem d_Way_usedIn_53 : decode b_Way_usedIn 53 = .ok (.iconst 1, 1) := by decide +kernel
theorem d_Way_usedIn_54 : decode b_Way_usedIn 54 = .ok (.if_icmp .ne 28, 3) := by decide +kernel
theorem d_Way_usedIn_57 : decode b_Way_usedIn 57 = .ok (.iload 5, 2) := by decide +kernel
theorem d_Way_usedIn_59 : decode b_Way_usedIn 59 = .ok (.iload 6, 2) := by decide +kernel
theorem d_Way_usedIn_61 : decode b_Way_usedIn 61 = .ok (.ior, 1) := by decide +kernel
theorem d_Way_usedIn_62 : decode b_Way_usedIn 62 = .ok (.istore 7, 2) := by decide +kernel
theorem d_Way_usedIn_64 : decode b_Way_usedIn 64 = .ok (.iload 4, 2) := by decide +kernel
theorem d_Way_usedIn_66 : decode b_Way_usedIn 66 = .ok (.iload 7, 2) := by decide +kernel
theorem d_Way_usedIn_68 : decode b_Way_usedIn 68 = .ok (.iand, 1) := by decide +kernel
theorem d_Way_usedIn_69 : decode b_Way_usedIn 69 = .ok (.iload 7, 2) := by decide +kernel
theorem d_Way_usedIn_71 : decode b_Way_usedIn 71 = .ok (.if_icmp .ne 8, 3) := by decide +kernel
theorem d_Way_usedIn_74 : decode b_Way_usedIn 74 = .ok (.iload 7, 2) := by decide +kernel
theorem d_Way_usedIn_76 : decode b_Way_usedIn 76 = .ok (.goto 5, 3) := by decide +kernel
theorem d_Way_usedIn_79 : decode b_Way_usedIn 79 = .ok (.bipush (-9), 2) := by decide +kernel
theorem d_Way_usedIn_81 : decode b_Way_usedIn 81 = .ok (.ireturn, 1) := by decide +kernel
theorem d_Way_usedIn_82 : decode b_Way_usedIn 82 = .ok (.iload 4, 2) := by decide +kernel
theorem d_Way_usedIn_84 : decode b_Way_usedIn 84 = .ok (.iload 5, 2) := by decide +kernel
theorem d_Way_usedIn_86 : decode b_Way_usedIn 86 = .ok (.iand, 1) := by decide +kernel
theorem d_Way_usedIn_87 : decode b_Way_usedIn 87 = .ok (.ifCond .eq 6, 3) := by decide +kernel
theorem d_Way_usedIn_90 : decode b_Way_usedIn 90 = .ok (.iload 5, 2) := by decide +kernel
theorem d_Way_usedIn_92 : decode b_Way_usedIn 92 = .ok (.ireturn, 1) := by decide +kernel
theorem d_Way_usedIn_93 : decode b_Way_usedIn 93 = .ok (.iload 4, 2) := by decide +kernel
theorem d_Way_usedIn_95 : decode b_Way_usedIn 95 = .ok (.iload 6, 2) := by decide +kernel
theorem d_Way_usedIn_97 : decode b_Way_usedIn 97 = .ok (.iand, 1) := by decide +kernel
theorem d_Way_usedIn_98 : decode b_Way_usedIn 98 = .ok (.ifCond .eq 8, 3) := by decide +kernel
theorem d_Way_usedIn_101 : decode b_Way_usedIn 101 = .ok (.iload 6, 2) := by decide +kernel
theorem d_Way_usedIn_103 : decode b_Way_usedIn 103 = .ok (.goto 5, 3) := by decide +kernel
theorem d_Way_usedIn_106 : decode b_Way_usedIn 106 = .ok (.bipush (-9), 2) := by decide +kernel
theorem d_Way_usedIn_108 : decode b_Way_usedIn 108 = .ok (.ireturn, 1) := by decide +kernel
set_option maxRecDepth 20000 in
theorem c_Way_usedIn {l : Launch} {g : GG} (hI : WI g) (a1 : Int32) (a2 : Int32) (a3 : Int32) (M : Mem) (R : Int32 → Mem → Prop) (h : wp_Way_usedIn a1 a2 a3 M R) : Met l y_Way_usedIn (wm y_Way_usedIn b_Way_usedIn 8 (some .int)) (RM 0 0) (PP g M [.ref (g.2.2.2 12), .int a1, .int a2, .int a3]) (PQ g (RI R)) 0 0 (AW g) := by
  refine m_of (own := N_Way) (by decide) rfl (Nat.le_of_ble_eq_true rfl) ?_
  intro p e s m below meth c ls C hr hlocks hW hP hS hl
  obtain ⟨hx, hb, hml, hown, hts⟩ := id C
  have hl : lv_has ls 8 [(0, .ref (g.2.2.2 12)), (1, .int a1), (2, .int a2), (3, .int a3)] := hl
  unfold wp_Way_usedIn at h
  have hk := h
  refine lv_iload_n hx hb d_Way_usedIn_0 rfl (lv_at hl 2 rfl) ?_
  refine lv_iload_n hx hb d_Way_usedIn_1 rfl (lv_at hl 3 rfl) ?_
  refine lv_iconst (v := -1) hx hb d_Way_usedIn_2 (by decide) ?_
  refine lv_ixor hx hb d_Way_usedIn_3 ?_
  refine lv_iand hx hb d_Way_usedIn_4 ?_
  refine lv_iconst (v := 1) hx hb d_Way_usedIn_5 (by decide) ?_
  refine lv_aload_n hx hb d_Way_usedIn_6 rfl (lv_at hl 0 rfl) ?_
  refine gf_12_3 C hW hP fl_Way_21 d_Way_usedIn_7 ?_
  refine lv_iload_n hx hb d_Way_usedIn_10 rfl (lv_at hl 1 rfl) ?_
  obtain ⟨h1, hk⟩ := hk
  refine al_16 C hW hP h1 d_Way_usedIn_11 ?_
  refine lv_ishl hx hb d_Way_usedIn_12 ?_
  refine lv_iconst (v := -1) hx hb d_Way_usedIn_13 (by decide) ?_
  refine lv_ixor hx hb d_Way_usedIn_14 ?_
  refine lv_iand hx hb d_Way_usedIn_15 ?_
  refine lv_iconst (v := 1) hx hb d_Way_usedIn_16 (by decide) ?_
  refine lv_aload_n hx hb d_Way_usedIn_17 rfl (lv_at hl 0 rfl) ?_
  refine gf_12_7 C hW hP fl_Way_34 d_Way_usedIn_18 ?_
  refine lv_ishl hx hb d_Way_usedIn_21 ?_
  refine lv_iconst (v := -1) hx hb d_Way_usedIn_22 (by decide) ?_
  refine lv_ixor hx hb d_Way_usedIn_23 ?_
  refine lv_iand hx hb d_Way_usedIn_24 ?_
  refine lv_topi (fun x4_2 ex4_2 => ?_)
  have hk := hk x4_2 ex4_2
  refine lv_istore (lv' := [(4, .int x4_2), (0, .ref (g.2.2.2 12)), (1, .int a1), (2, .int a2), (3, .int a3)]) hx hb d_Way_usedIn_25 hl (by decide) rfl (fun ls hl => ?_)
  refine lv_iconst (v := 1) hx hb d_Way_usedIn_27 (by decide) ?_
  refine lv_aload_n hx hb d_Way_usedIn_28 rfl (lv_at hl 1 rfl) ?_
  refine gf_12_1 C hW hP fl_Way_15 d_Way_usedIn_29 ?_
  refine lv_iload_n hx hb d_Way_usedIn_32 rfl (lv_at hl 2 rfl) ?_
  obtain ⟨h3, hk⟩ := hk
  refine al_14 C hW hP h3 d_Way_usedIn_33 ?_
  refine lv_ishl hx hb d_Way_usedIn_34 ?_
  refine lv_topi (fun x5_4 ex5_4 => ?_)
  have hk := hk x5_4 ex5_4
  refine lv_istore (lv' := [(5, .int x5_4), (4, .int x4_2), (0, .ref (g.2.2.2 12)), (1, .int a1), (2, .int a2), (3, .int a3)]) hx hb d_Way_usedIn_35 hl (by decide) rfl (fun ls hl => ?_)
  refine lv_iconst (v := 1) hx hb d_Way_usedIn_37 (by decide) ?_
  refine lv_aload_n hx hb d_Way_usedIn_38 rfl (lv_at hl 2 rfl) ?_
  refine gf_12_2 C hW hP fl_Way_18 d_Way_usedIn_39 ?_
  refine lv_iload_n hx hb d_Way_usedIn_42 rfl (lv_at hl 3 rfl) ?_
  obtain ⟨h5, hk⟩ := hk
  refine al_15 C hW hP h5 d_Way_usedIn_43 ?_
  refine lv_ishl hx hb d_Way_usedIn_44 ?_
  refine lv_topi (fun x6_6 ex6_6 => ?_)
  have hk := hk x6_6 ex6_6
  refine lv_istore (lv' := [(6, .int x6_6), (5, .int x5_4), (4, .int x4_2), (0, .ref (g.2.2.2 12)), (1, .int a1), (2, .int a2), (3, .int a3)]) hx hb d_Way_usedIn_45 hl (by decide) rfl (fun ls hl => ?_)
  refine lv_aload_n hx hb d_Way_usedIn_47 rfl (lv_at hl 3 rfl) ?_
  refine gf_12_0 C hW hP fl_Way_9 d_Way_usedIn_48 ?_
  refine lv_iload_n hx hb d_Way_usedIn_51 rfl (lv_at hl 4 rfl) ?_
  obtain ⟨h7, hk⟩ := hk
  refine al_13 C hW hP h7 d_Way_usedIn_52 ?_
  refine lv_iconst (v := 1) hx hb d_Way_usedIn_53 (by decide) ?_
  refine lv_icmp_ne (tgt := 82) hx hb d_Way_usedIn_54 (by decide) (fun c8 => ?_) (fun c8 => ?_)
  · have hk := hk.1 c8
    refine lv_iload hx hb d_Way_usedIn_82 (lv_at hl 2 rfl) ?_
    refine lv_iload hx hb d_Way_usedIn_84 (lv_at hl 1 rfl) ?_
    refine lv_iand hx hb d_Way_usedIn_86 ?_
    refine lv_if_eq (tgt := 93) hx hb d_Way_usedIn_87 (by decide) (fun c9 => ?_) (fun c9 => ?_)
    · have hk := hk.1 c9
      refine lv_iload hx hb d_Way_usedIn_93 (lv_at hl 2 rfl) ?_
      refine lv_iload hx hb d_Way_usedIn_95 (lv_at hl 0 rfl) ?_
      refine lv_iand hx hb d_Way_usedIn_97 ?_
      refine lv_if_eq (tgt := 106) hx hb d_Way_usedIn_98 (by decide) (fun c10 => ?_) (fun c10 => ?_)
      · have hk := hk.1 c10
        refine lv_bipush (v := -9) hx hb d_Way_usedIn_106 (by decide) ?_
        exact r_iret C hr hlocks hP hS hk d_Way_usedIn_108
      · have hk := hk.2 c10
        refine lv_iload hx hb d_Way_usedIn_101 (lv_at hl 0 rfl) ?_
        refine lv_goto (tgt := 108) hx hb d_Way_usedIn_103 (by decide) ?_
        exact r_iret C hr hlocks hP hS hk d_Way_usedIn_108
    · have hk := hk.2 c9
      refine lv_iload hx hb d_Way_usedIn_90 (lv_at hl 1 rfl) ?_
      exact r_iret C hr hlocks hP hS hk d_Way_usedIn_92
  · have hk := hk.2 c8
    refine lv_iload hx hb d_Way_usedIn_57 (lv_at hl 1 rfl) ?_
    refine lv_iload hx hb d_Way_usedIn_59 (lv_at hl 0 rfl) ?_
    refine lv_ior hx hb d_Way_usedIn_61 ?_
    refine lv_topi (fun x7_11 ex7_11 => ?_)
    have hk := hk x7_11 ex7_11
    refine lv_istore (lv' := [(7, .int x7_11), (6, .int x6_6), (5, .int x5_4), (4, .int x4_2), (0, .ref (g.2.2.2 12)), (1, .int a1), (2, .int a2), (3, .int a3)]) hx hb d_Way_usedIn_62 hl (by decide) rfl (fun ls hl => ?_)
    refine lv_iload hx hb d_Way_usedIn_64 (lv_at hl 3 rfl) ?_
    refine lv_iload hx hb d_Way_usedIn_66 (lv_at hl 0 rfl) ?_
    refine lv_iand hx hb d_Way_usedIn_68 ?_
    refine lv_iload hx hb d_Way_usedIn_69 (lv_at hl 0 rfl) ?_
    refine lv_icmp_ne (tgt := 79) hx hb d_Way_usedIn_71 (by decide) (fun c12 => ?_) (fun c12 => ?_)
    · have hk := hk.1 c12
      refine lv_bipush (v := -9) hx hb d_Way_usedIn_79 (by decide) ?_
      exact r_iret C hr hlocks hP hS hk d_Way_usedIn_81
    · have hk := hk.2 c12
      refine lv_iload hx hb d_Way_usedIn_74 (lv_at hl 0 rfl) ?_
      refine lv_goto (tgt := 81) hx hb d_Way_usedIn_76 (by decide) ?_
      exact r_iret C hr hlocks hP hS hk d_Way_usedIn_81
theorem d_Int_bitCount_0 : decode b_Int_bitCount 0 = .ok (.iload_n 0, 1) := by decide +kernel
theorem d_Int_bitCount_1 : decode b_Int_bitCount 1 = .ok (.iload_n 0, 1) := by decide +kernel
theorem d_Int_bitCount_2 : decode b_Int_bitCount 2 = .ok (.iconst 1, 1) := by decide +kernel
theorem d_Int_bitCount_3 : decode b_Int_bitCount 3 = .ok (.iushr, 1) := by decide +kernel
theorem d_Int_bitCount_4 : decode b_Int_bitCount 4 = .ok (.ldc_w 265, 3) := by decide +kernel
theorem d_Int_bitCount_7 : decode b_Int_bitCount 7 = .ok (.iand, 1) := by decide +kernel
theorem d_Int_bitCount_8 : decode b_Int_bitCount 8 = .ok (.isub, 1) := by decide +kernel
theorem d_Int_bitCount_9 : decode b_Int_bitCount 9 = .ok (.istore_n 0, 1) := by decide +kernel
theorem d_Int_bitCount_10 : decode b_Int_bitCount 10 = .ok (.iload_n 0, 1) := by decide +kernel
theorem d_Int_bitCount_11 : decode b_Int_bitCount 11 = .ok (.ldc_w 266, 3) := by decide +kernel
theorem d_Int_bitCount_14 : decode b_Int_bitCount 14 = .ok (.iand, 1) := by decide +kernel
theorem d_Int_bitCount_15 : decode b_Int_bitCount 15 = .ok (.iload_n 0, 1) := by decide +kernel
theorem d_Int_bitCount_16 : decode b_Int_bitCount 16 = .ok (.iconst 2, 1) := by decide +kernel
theorem d_Int_bitCount_17 : decode b_Int_bitCount 17 = .ok (.iushr, 1) := by decide +kernel
theorem d_Int_bitCount_18 : decode b_Int_bitCount 18 = .ok (.ldc_w 266, 3) := by decide +kernel
theorem d_Int_bitCount_21 : decode b_Int_bitCount 21 = .ok (.iand, 1) := by decide +kernel
theorem d_Int_bitCount_22 : decode b_Int_bitCount 22 = .ok (.iadd, 1) := by decide +kernel
theorem d_Int_bitCount_23 : decode b_Int_bitCount 23 = .ok (.istore_n 0, 1) := by decide +kernel
theorem d_Int_bitCount_24 : decode b_Int_bitCount 24 = .ok (.iload_n 0, 1) := by decide +kernel
theorem d_Int_bitCount_25 : decode b_Int_bitCount 25 = .ok (.iload_n 0, 1) := by decide +kernel
theorem d_Int_bitCount_26 : decode b_Int_bitCount 26 = .ok (.iconst 4, 1) := by decide +kernel
theorem d_Int_bitCount_27 : decode b_Int_bitCount 27 = .ok (.iushr, 1) := by decide +kernel
theorem d_Int_bitCount_28 : decode b_Int_bitCount 28 = .ok (.iadd, 1) := by decide +kernel
theorem d_Int_bitCount_29 : decode b_Int_bitCount 29 = .ok (.ldc_w 267, 3) := by decide +kernel
theorem d_Int_bitCount_32 : decode b_Int_bitCount 32 = .ok (.iand, 1) := by decide +kernel
theorem d_Int_bitCount_33 : decode b_Int_bitCount 33 = .ok (.istore_n 0, 1) := by decide +kernel
theorem d_Int_bitCount_34 : decode b_Int_bitCount 34 = .ok (.iload_n 0, 1) := by decide +kernel
theorem d_Int_bitCount_35 : decode b_Int_bitCount 35 = .ok (.iload_n 0, 1) := by decide +kernel
theorem d_Int_bitCount_36 : decode b_Int_bitCount 36 = .ok (.bipush 8, 2) := by decide +kernel
theorem d_Int_bitCount_38 : decode b_Int_bitCount 38 = .ok (.iushr, 1) := by decide +kernel
theorem d_Int_bitCount_39 : decode b_Int_bitCount 39 = .ok (.iadd, 1) := by decide +kernel
theorem d_Int_bitCount_40 : decode b_Int_bitCount 40 = .ok (.istore_n 0, 1) := by decide +kernel
theorem d_Int_bitCount_41 : decode b_Int_bitCount 41 = .ok (.iload_n 0, 1) := by decide +kernel
theorem d_Int_bitCount_42 : decode b_Int_bitCount 42 = .ok (.iload_n 0, 1) := by decide +kernel
theorem d_Int_bitCount_43 : decode b_Int_bitCount 43 = .ok (.bipush 16, 2) := by decide +kernel
theorem d_Int_bitCount_45 : decode b_Int_bitCount 45 = .ok (.iushr, 1) := by decide +kernel
theorem d_Int_bitCount_46 : decode b_Int_bitCount 46 = .ok (.iadd, 1) := by decide +kernel
theorem d_Int_bitCount_47 : decode b_Int_bitCount 47 = .ok (.istore_n 0, 1) := by decide +kernel
theorem d_Int_bitCount_48 : decode b_Int_bitCount 48 = .ok (.iload_n 0, 1) := by decide +kernel
theorem d_Int_bitCount_49 : decode b_Int_bitCount 49 = .ok (.bipush 63, 2) := by decide +kernel
theorem d_Int_bitCount_51 : decode b_Int_bitCount 51 = .ok (.iand, 1) := by decide +kernel
theorem d_Int_bitCount_52 : decode b_Int_bitCount 52 = .ok (.ireturn, 1) := by decide +kernel
set_option maxRecDepth 20000 in
theorem c_Int_bitCount {l : Launch} {g : GG} (hI : WI g) (a0 : Int32) (M : Mem) (R : Int32 → Mem → Prop) (h : wp_Int_bitCount a0 M R) : Met l y_Int_bitCount (wm y_Int_bitCount b_Int_bitCount 1 (some .int)) (RM 0 0) (PP g M [.int a0]) (PQ g (RI R)) 0 0 (AW g) := by
  refine m_of (own := N_Int) (by decide) rfl (Nat.le_of_ble_eq_true rfl) ?_
  intro p e s m below meth c ls C hr hlocks hW hP hS hl
  obtain ⟨hx, hb, hml, hown, hts⟩ := id C
  have hl : lv_has ls 1 [(0, .int a0)] := hl
  unfold wp_Int_bitCount at h
  have hk := h
  refine lv_iload_n hx hb d_Int_bitCount_0 rfl (lv_at hl 0 rfl) ?_
  refine lv_iload_n hx hb d_Int_bitCount_1 rfl (lv_at hl 0 rfl) ?_
  refine lv_iconst (v := 1) hx hb d_Int_bitCount_2 (by decide) ?_
  refine lv_iushr hx hb d_Int_bitCount_3 rfl ?_
  refine lv_ldcw (v := 1431655765) hx hb hown (C.2.2.2.2 _ kc_Int_265) d_Int_bitCount_4 ?_
  refine lv_iand hx hb d_Int_bitCount_7 ?_
  refine lv_isub hx hb d_Int_bitCount_8 ?_
  refine lv_topi (fun x0_1 ex0_1 => ?_)
  have hk := hk x0_1 ex0_1
  refine lv_istore_n (lv' := [(0, .int x0_1)]) hx hb d_Int_bitCount_9 rfl hl (by decide) rfl (fun ls hl => ?_)
  refine lv_iload_n hx hb d_Int_bitCount_10 rfl (lv_at hl 0 rfl) ?_
  refine lv_ldcw (v := 858993459) hx hb hown (C.2.2.2.2 _ kc_Int_266) d_Int_bitCount_11 ?_
  refine lv_iand hx hb d_Int_bitCount_14 ?_
  refine lv_iload_n hx hb d_Int_bitCount_15 rfl (lv_at hl 0 rfl) ?_
  refine lv_iconst (v := 2) hx hb d_Int_bitCount_16 (by decide) ?_
  refine lv_iushr hx hb d_Int_bitCount_17 rfl ?_
  refine lv_ldcw (v := 858993459) hx hb hown (C.2.2.2.2 _ kc_Int_266) d_Int_bitCount_18 ?_
  refine lv_iand hx hb d_Int_bitCount_21 ?_
  refine lv_iadd hx hb d_Int_bitCount_22 ?_
  refine lv_topi (fun x0_2 ex0_2 => ?_)
  have hk := hk x0_2 ex0_2
  refine lv_istore_n (lv' := [(0, .int x0_2)]) hx hb d_Int_bitCount_23 rfl hl (by decide) rfl (fun ls hl => ?_)
  refine lv_iload_n hx hb d_Int_bitCount_24 rfl (lv_at hl 0 rfl) ?_
  refine lv_iload_n hx hb d_Int_bitCount_25 rfl (lv_at hl 0 rfl) ?_
  refine lv_iconst (v := 4) hx hb d_Int_bitCount_26 (by decide) ?_
  refine lv_iushr hx hb d_Int_bitCount_27 rfl ?_
  refine lv_iadd hx hb d_Int_bitCount_28 ?_
  refine lv_ldcw (v := 252645135) hx hb hown (C.2.2.2.2 _ kc_Int_267) d_Int_bitCount_29 ?_
  refine lv_iand hx hb d_Int_bitCount_32 ?_
  refine lv_topi (fun x0_3 ex0_3 => ?_)
  have hk := hk x0_3 ex0_3
  refine lv_istore_n (lv' := [(0, .int x0_3)]) hx hb d_Int_bitCount_33 rfl hl (by decide) rfl (fun ls hl => ?_)
  refine lv_iload_n hx hb d_Int_bitCount_34 rfl (lv_at hl 0 rfl) ?_
  refine lv_iload_n hx hb d_Int_bitCount_35 rfl (lv_at hl 0 rfl) ?_
  refine lv_bipush (v := 8) hx hb d_Int_bitCount_36 (by decide) ?_
  refine lv_iushr hx hb d_Int_bitCount_38 rfl ?_
  refine lv_iadd hx hb d_Int_bitCount_39 ?_
  refine lv_topi (fun x0_4 ex0_4 => ?_)
  have hk := hk x0_4 ex0_4
  refine lv_istore_n (lv' := [(0, .int x0_4)]) hx hb d_Int_bitCount_40 rfl hl (by decide) rfl (fun ls hl => ?_)
  refine lv_iload_n hx hb d_Int_bitCount_41 rfl (lv_at hl 0 rfl) ?_
  refine lv_iload_n hx hb d_Int_bitCount_42 rfl (lv_at hl 0 rfl) ?_
  refine lv_bipush (v := 16) hx hb d_Int_bitCount_43 (by decide) ?_
  refine lv_iushr hx hb d_Int_bitCount_45 rfl ?_
  refine lv_iadd hx hb d_Int_bitCount_46 ?_
  refine lv_topi (fun x0_5 ex0_5 => ?_)
  have hk := hk x0_5 ex0_5
  refine lv_istore_n (lv' := [(0, .int x0_5)]) hx hb d_Int_bitCount_47 rfl hl (by decide) rfl (fun ls hl => ?_)
  refine lv_iload_n hx hb d_Int_bitCount_48 rfl (lv_at hl 0 rfl) ?_
  refine lv_bipush (v := 63) hx hb d_Int_bitCount_49 (by decide) ?_
  refine lv_iand hx hb d_Int_bitCount_51 ?_
  exact r_iret C hr hlocks hP hS hk d_Int_bitCount_52
theorem d_Walk_enter_0 : decode b_Walk_enter 0 = .ok (.aload_n 0, 1) := by decide +kernel
theorem d_Walk_enter_1 : decode b_Walk_enter 1 = .ok (.getfield 9, 3) := by decide +kernel
theorem d_Walk_enter_4 : decode b_Walk_enter 4 = .ok (.iload_n 1, 1) := by decide +kernel
theorem d_Walk_enter_5 : decode b_Walk_enter 5 = .ok (.iload_n 2, 1) := by decide +kernel
theorem d_Walk_enter_6 : decode b_Walk_enter 6 = .ok (.aload_n 0, 1) := by decide +kernel
theorem d_Walk_enter_7 : decode b_Walk_enter 7 = .ok (.getfield 15, 3) := by decide +kernel
theorem d_Walk_enter_10 : decode b_Walk_enter 10 = .ok (.iload_n 1, 1) := by decide +kernel
theorem d_Walk_enter_11 : decode b_Walk_enter 11 = .ok (.iaload, 1) := by decide +kernel
theorem d_Walk_enter_12 : decode b_Walk_enter 12 = .ok (.invokevirtual 69, 3) := by decide +kernel
theorem d_Walk_enter_15 : decode b_Walk_enter 15 = .ok (.istore_n 3, 1) := by decide +kernel
theorem d_Walk_enter_16 : decode b_Walk_enter 16 = .ok (.iload_n 3, 1) := by decide +kernel
theorem d_Walk_enter_17 : decode b_Walk_enter 17 = .ok (.bipush (-9), 2) := by decide +kernel
theorem d_Walk_enter_19 : decode b_Walk_enter 19 = .ok (.if_icmp .eq 26, 3) := by decide +kernel
theorem d_Walk_enter_22 : decode b_Walk_enter 22 = .ok (.aload_n 0, 1) := by decide +kernel
theorem d_Walk_enter_23 : decode b_Walk_enter 23 = .ok (.getfield 9, 3) := by decide +kernel
theorem d_Walk_enter_26 : decode b_Walk_enter 26 = .ok (.getfield 73, 3) := by decide +kernel
theorem d_Walk_enter_29 : decode b_Walk_enter 29 = .ok (.iload_n 1, 1) := by decide +kernel
theorem d_Walk_enter_30 : decode b_Walk_enter 30 = .ok (.iaload, 1) := by decide +kernel
theorem d_Walk_enter_31 : decode b_Walk_enter 31 = .ok (.iconst 2, 1) := by decide +kernel
theorem d_Walk_enter_32 : decode b_Walk_enter 32 = .ok (.if_icmp .ne 13, 3) := by decide +kernel
theorem d_Walk_enter_35 : decode b_Walk_enter 35 = .ok (.aload_n 0, 1) := by decide +kernel
theorem d_Walk_enter_36 : decode b_Walk_enter 36 = .ok (.getfield 15, 3) := by decide +kernel
theorem d_Walk_enter_39 : decode b_Walk_enter 39 = .ok (.iload_n 1, 1) := by decide +kernel
theorem d_Walk_enter_40 : decode b_Walk_enter 40 = .ok (.dup2, 1) := by decide +kernel
theorem d_Walk_enter_41 : decode b_Walk_enter 41 = .ok (.iaload, 1) := by decide +kernel
theorem d_Walk_enter_42 : decode b_Walk_enter 42 = .ok (.iload_n 3, 1) := by decide +kernel
theorem d_Walk_enter_43 : decode b_Walk_enter 43 = .ok (.ior, 1) := by decide +kernel
theorem d_Walk_enter_44 : decode b_Walk_enter 44 = .ok (.iastore, 1) := by decide +kernel
theorem d_Walk_enter_45 : decode b_Walk_enter 45 = .ok (.iload_n 3, 1) := by decide +kernel
theorem d_Walk_enter_46 : decode b_Walk_enter 46 = .ok (.bipush (-9), 2) := by decide +kernel
theorem d_Walk_enter_48 : decode b_Walk_enter 48 = .ok (.if_icmp .eq 7, 3) := by decide +kernel
theorem d_Walk_enter_51 : decode b_Walk_enter 51 = .ok (.iconst 1, 1) := by decide +kernel
theorem d_Walk_enter_52 : decode b_Walk_enter 52 = .ok (.goto 4, 3) := by decide +kernel
theorem d_Walk_enter_55 : decode b_Walk_enter 55 = .ok (.iconst 0, 1) := by decide +kernel
theorem d_Walk_enter_56 : decode b_Walk_enter 56 = .ok (.ireturn, 1) := by decide +kernel
set_option maxRecDepth 20000 in
theorem c_Walk_enter {l : Launch} {g : GG} (hI : WI g) (a1 : Int32) (a2 : Int32) (M : Mem) (R : Int32 → Mem → Prop) (h : wp_Walk_enter a1 a2 M R) : Met l y_Walk_enter (wm y_Walk_enter b_Walk_enter 4 (some .boolean)) (RM 1 27) (PP g M [.ref (g.2.2.2 18), .int a1, .int a2]) (PQ g (RZ R)) 0 0 (AW g) := by
  refine m_of (own := N_Walk) (by decide) rfl (Nat.le_of_ble_eq_true rfl) ?_
  intro p e s m below meth c ls C hr hlocks hW hP hS hl
  obtain ⟨hx, hb, hml, hown, hts⟩ := id C
  have hl : lv_has ls 4 [(0, .ref (g.2.2.2 18)), (1, .int a1), (2, .int a2)] := hl
  unfold wp_Walk_enter at h
  have J45 : ∀ (x3 : Int32) (M : Mem), wp_Walk_enter_45  R x3 M → ∀ (H : Heap) (locs : List Loc) (ls : Array Slot), WP g M H → va_S (AW g) s.heap H locs → lv_has ls 4 [(3, .int x3)] → W p l e (RM 1 27) s m ([.ref (g.2.2.2 18), .int a1, .int a2] : List Value).toArray below meth c H locs 0 0 (MQ below (PQ g (RZ R)) ([.ref (g.2.2.2 18), .int a1, .int a2] : List Value).toArray s 0 0 (AW g)) (F0 m 45 ls []) := by
    intro x3 M hk H locs ls hP hS hl
    unfold wp_Walk_enter_45 at hk
    refine lv_iload_n hx hb d_Walk_enter_45 rfl (lv_at hl 0 rfl) ?_
    refine lv_bipush (v := -9) hx hb d_Walk_enter_46 (by decide) ?_
    refine lv_icmp_eq (tgt := 55) hx hb d_Walk_enter_48 (by decide) (fun c1 => ?_) (fun c1 => ?_)
    · have hk := hk.1 c1
      refine lv_iconst (v := 0) hx hb d_Walk_enter_55 (by decide) ?_
      exact r_zret rfl C hr hlocks hP hS hk d_Walk_enter_56
    · have hk := hk.2 c1
      refine lv_iconst (v := 1) hx hb d_Walk_enter_51 (by decide) ?_
      refine lv_goto (tgt := 56) hx hb d_Walk_enter_52 (by decide) ?_
      exact r_zret rfl C hr hlocks hP hS hk d_Walk_enter_56
  have hk := h
  refine lv_aload_n hx hb d_Walk_enter_0 rfl (lv_at hl 0 rfl) ?_
  refine gf_18_0 C hW hP fl_Walk_9 d_Walk_enter_1 ?_
  refine lv_iload_n hx hb d_Walk_enter_4 rfl (lv_at hl 1 rfl) ?_
  refine lv_iload_n hx hb d_Walk_enter_5 rfl (lv_at hl 2 rfl) ?_
  refine lv_aload_n hx hb d_Walk_enter_6 rfl (lv_at hl 0 rfl) ?_
  refine gf_18_1 C hW hP fl_Walk_15 d_Walk_enter_7 ?_
  refine lv_iload_n hx hb d_Walk_enter_10 rfl (lv_at hl 1 rfl) ?_
  obtain ⟨h2, hk⟩ := hk
  refine al_19 C hW hP h2 d_Walk_enter_11 ?_
  refine r_runI (k_V (As := [.int a1, .int a2, .int (M 19 a1.toNatClampNeg)]) (rest := []) C hW hP (c_Way_usedIn hI a1 a2 (M 19 a1.toNatClampNeg) M _ hk) cb_Way_usedIn ml_Walk_69 (io_12 g M) ⟨by decide, by decide⟩ rfl hl.1 rfl (Nat.le_of_ble_eq_true rfl) d_Walk_enter_12 ⟨by decide, by decide⟩) hS (fun r4 M3 H locs hk hP hS => ?_)
  refine lv_istore_n (lv' := [(3, .int r4), (0, .ref (g.2.2.2 18)), (1, .int a1), (2, .int a2)]) hx hb d_Walk_enter_15 rfl hl (by decide) rfl (fun ls hl => ?_)
  refine lv_iload_n hx hb d_Walk_enter_16 rfl (lv_at hl 0 rfl) ?_
  refine lv_bipush (v := -9) hx hb d_Walk_enter_17 (by decide) ?_
  refine lv_icmp_eq (tgt := 45) hx hb d_Walk_enter_19 (by decide) (fun c5 => ?_) (fun c5 => ?_)
  · have hk := hk.1 c5
    exact J45 r4 M3 hk _ _ _ hP hS (lv_sub hl [0] rfl)
  · have hk := hk.2 c5
    refine lv_aload_n hx hb d_Walk_enter_22 rfl (lv_at hl 1 rfl) ?_
    refine gf_18_0 C hW hP fl_Walk_9 d_Walk_enter_23 ?_
    refine gf_12_0 C hW hP fl_Walk_73 d_Walk_enter_26 ?_
    refine lv_iload_n hx hb d_Walk_enter_29 rfl (lv_at hl 2 rfl) ?_
    obtain ⟨h6, hk⟩ := hk
    refine al_13 C hW hP h6 d_Walk_enter_30 ?_
    refine lv_iconst (v := 2) hx hb d_Walk_enter_31 (by decide) ?_
    refine lv_icmp_ne (tgt := 45) hx hb d_Walk_enter_32 (by decide) (fun c7 => ?_) (fun c7 => ?_)
    · have hk := hk.1 c7
      exact J45 r4 M3 hk _ _ _ hP hS (lv_sub hl [0] rfl)
    · have hk := hk.2 c7
      refine lv_aload_n hx hb d_Walk_enter_35 rfl (lv_at hl 1 rfl) ?_
      refine gf_18_1 C hW hP fl_Walk_15 d_Walk_enter_36 ?_
      refine lv_iload_n hx hb d_Walk_enter_39 rfl (lv_at hl 2 rfl) ?_
      refine lv_dup2_11 hx hb d_Walk_enter_40 rfl rfl ?_
      obtain ⟨h8, hk⟩ := hk
      refine al_19 C hW hP h8 d_Walk_enter_41 ?_
      refine lv_iload_n hx hb d_Walk_enter_42 rfl (lv_at hl 0 rfl) ?_
      refine lv_ior hx hb d_Walk_enter_43 ?_
      obtain ⟨h9, hk⟩ := hk
      refine as_19 hI C hW hP hS h9 d_Walk_enter_44 (fun M10 eM10 H locs hP hS => ?_)
      have hk := hk M10 eM10
      exact J45 r4 M10 hk _ _ _ hP hS (lv_sub hl [0] rfl)
end
