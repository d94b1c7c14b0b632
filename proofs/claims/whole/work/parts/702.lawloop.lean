theorem lw_gt {L i : Nat} (hL : L ≤ 384) (h2 : i ≤ L) (q : L < i + 6) : Int32.ofNat L - 6 < nI i := by
  show nI L - 6 < nI i
  rw [Int32.lt_iff_toInt_lt]
  have e1 : (nI L - nI 6).toInt = (L : Int) - 6 := pk_sub_toInt (by omega) (by omega)
  have e2 : (nI L - 6).toInt = (L : Int) - 6 := e1
  rw [e2, nI_toInt (by omega)]
  omega
set_option maxRecDepth 20000 in
theorem law_loop {p : Program} {l : Launch} {e : Env} {s : State} {m : MethodId} {below : List Frame} {meth : Method} {c : Code} {b L : Nat} {xs : Nat → Int32} {g : GG} {Iv : Mem → Prop} (hL : L ≤ 384) (C0 : lw_At p s m meth c b L xs) (hI : WI g) (hW : WK g s) (hAW : ∀ q, AW g q → LwA s q) (hst : StAll Iv) : ∀ (n i : Nat), L + 1 ≤ i + n → i ≤ L → ∀ (M : Mem) (H : Heap) (locs : List Loc) (ls : Array Slot), Iv M → WP g M H → va_S (LwA s) s.heap H locs → LwL g b i ls → W p l e room_1 s m #[Value.ref b] below meth c H locs 600000 7302250 (lw_Z below #[Value.ref b] s) (F0 m 18 ls []) := by
  obtain ⟨hx, hb, hr, hml, hown, hts, hX, hbl, hlocks, hgv⟩ := id C0
  have hbA : ¬ LwA s b := Nat.not_le.mpr hbl
  intro n
  induction n with
  | zero => intro i h1 h2; omega
  | succ n ih =>
    intro i h1 h2 M H locs ls hM hP hS hl0
    have hl : lv_has ls 4 [(0, .ref b), (1, .ref (g.2.2.2 0)), (2, .ref (g.2.2.2 29)), (3, .int (nI i))] := hl0
    refine lv_iload_n hx hb d_law_18 rfl (lv_at hl 3 rfl) ?_
    refine lv_aload_n hx hb d_law_19 rfl (lv_at hl 0 rfl) ?_
    refine va_slen hx hb hX hbl hbA hS d_law_20 ?_
    refine lv_bipush (v := 6) hx hb d_law_21 (by decide) ?_
    refine lv_isub hx hb d_law_23 ?_
    refine lv_icmp_gt (tgt := 1126) hx hb d_law_24 (by decide) (fun c1 => ?_) (fun c1 => ?_)
    · refine lv_iconst (v := 1) hx hb d_law_1126 (by decide) ?_
      refine va_forget (fun q hq => hS.2.2 q hq) ?_
      exact lw_ret hx hb hr hlocks d_law_1127
    · have hi : i + 6 ≤ L := by
        rcases Nat.lt_or_ge L (i + 6) with q | q
        · exact absurd (lw_gt hL h2 q) c1
        · exact q
      have kk : ∀ (M2 : Mem) (H2 : Heap) (locs2 : List Loc), Iv M2 → WP g M2 H2 → va_S (LwA s) s.heap H2 locs2 → W p l e room_1 s m #[Value.ref b] below meth c H2 locs2 600000 7302250 (lw_Z below #[Value.ref b] s) (F0 m 1120 ls []) := by
        intro M2 H2 locs2 hM2 hP2 hS2
        refine lv_iinc (v := nI (i + 6)) (lv' := [(3, .int (nI (i + 6))), (0, .ref b), (1, .ref (g.2.2.2 0)), (2, .ref (g.2.2.2 29))]) hx hb d_law_1120 hl (k := 3) rfl (nI_add i 6) (by decide) rfl (fun ls hl => ?_)
        refine lv_goto (tgt := 18) hx hb d_law_1123 (by decide) ?_
        exact ih (i + 6) (by omega) hi M2 H2 locs2 ls hM2 hP2 hS2 (lv_sub hl [1, 2, 3, 0] rfl)
      refine lv_aload_n hx hb d_law_27 rfl (lv_at hl 0 rfl) ?_
      refine lv_iload_n hx hb d_law_28 rfl (lv_at hl 3 rfl) ?_
      refine va_sld hx hb hX hbl hbA hS (vp_in_nI (by omega) (by omega)) d_law_29 ?_
      refine lv_bipush (v := 31) hx hb d_law_30 (by decide) ?_
      refine lv_iand hx hb d_law_32 ?_
      generalize (xs (nI i).toNatClampNeg &&& 31) = op
      unfold StAll at hst
      obtain ⟨s_way, s_ofHouse, s_gear, s_give, s_bar, s_passes, s_visits, s_going, s_least, s_hard, s_best, s_twos, s_gift, s_worst, s_reading, s_back, s_had, s_kinds, s_odds, s_sheet, s_lose, s_put, s_cell, s_copy, s_tell, s_knock, s_as, s_trace, s_fault, s_many⟩ := hst
      by_cases c_0 : op = (0 : Int32)
      · refine lv_tableIn (tgt := 168) hx hb d_law_33 (by rw [c_0]; decide) (by rw [c_0]; decide) (by rw [c_0] <;> rfl) (by decide) ?_
        exact law_case_way hL C0 hI hW hAW s_way hi hM hP hS hl0 kk
      by_cases c_1 : op = (1 : Int32)
      · refine lv_tableIn (tgt := 221) hx hb d_law_33 (by rw [c_1]; decide) (by rw [c_1]; decide) (by rw [c_1] <;> rfl) (by decide) ?_
        exact law_case_ofHouse hL C0 hI hW hAW s_ofHouse hi hM hP hS hl0 kk
      by_cases c_2 : op = (2 : Int32)
      · refine lv_tableIn (tgt := 254) hx hb d_law_33 (by rw [c_2]; decide) (by rw [c_2]; decide) (by rw [c_2] <;> rfl) (by decide) ?_
        exact law_case_gear hL C0 hI hW hAW s_gear hi hM hP hS hl0 kk
      by_cases c_3 : op = (3 : Int32)
      · refine lv_tableIn (tgt := 277) hx hb d_law_33 (by rw [c_3]; decide) (by rw [c_3]; decide) (by rw [c_3] <;> rfl) (by decide) ?_
        exact law_case_give hL C0 hI hW hAW s_give hi hM hP hS hl0 kk
      by_cases c_4 : op = (4 : Int32)
      · refine lv_tableIn (tgt := 310) hx hb d_law_33 (by rw [c_4]; decide) (by rw [c_4]; decide) (by rw [c_4] <;> rfl) (by decide) ?_
        exact law_case_bar hL C0 hI hW hAW s_bar hi hM hP hS hl0 kk
      by_cases c_5 : op = (5 : Int32)
      · refine lv_tableIn (tgt := 343) hx hb d_law_33 (by rw [c_5]; decide) (by rw [c_5]; decide) (by rw [c_5] <;> rfl) (by decide) ?_
        exact law_case_passes hL C0 hI hW hAW s_passes hi hM hP hS hl0 kk
      by_cases c_6 : op = (6 : Int32)
      · refine lv_tableIn (tgt := 386) hx hb d_law_33 (by rw [c_6]; decide) (by rw [c_6]; decide) (by rw [c_6] <;> rfl) (by decide) ?_
        exact law_case_visits hL C0 hI hW hAW s_visits hi hM hP hS hl0 kk
      by_cases c_7 : op = (7 : Int32)
      · refine lv_tableIn (tgt := 449) hx hb d_law_33 (by rw [c_7]; decide) (by rw [c_7]; decide) (by rw [c_7] <;> rfl) (by decide) ?_
        exact law_case_going hL C0 hI hW hAW s_going hi hM hP hS hl0 kk
      by_cases c_8 : op = (8 : Int32)
      · refine lv_tableIn (tgt := 512) hx hb d_law_33 (by rw [c_8]; decide) (by rw [c_8]; decide) (by rw [c_8] <;> rfl) (by decide) ?_
        exact law_case_least hL C0 hI hW hAW s_least hi hM hP hS hl0 kk
      by_cases c_9 : op = (9 : Int32)
      · refine lv_tableIn (tgt := 525) hx hb d_law_33 (by rw [c_9]; decide) (by rw [c_9]; decide) (by rw [c_9] <;> rfl) (by decide) ?_
        exact law_case_hard hL C0 hI hW hAW s_hard hi hM hP hS hl0 kk
      by_cases c_10 : op = (10 : Int32)
      · refine lv_tableIn (tgt := 538) hx hb d_law_33 (by rw [c_10]; decide) (by rw [c_10]; decide) (by rw [c_10] <;> rfl) (by decide) ?_
        exact law_case_best hL C0 hI hW hAW s_best hi hM hP hS hl0 kk
      by_cases c_11 : op = (11 : Int32)
      · refine lv_tableIn (tgt := 561) hx hb d_law_33 (by rw [c_11]; decide) (by rw [c_11]; decide) (by rw [c_11] <;> rfl) (by decide) ?_
        exact law_case_twos hL C0 hI hW hAW s_twos hi hM hP hS hl0 kk
      by_cases c_12 : op = (12 : Int32)
      · refine lv_tableIn (tgt := 584) hx hb d_law_33 (by rw [c_12]; decide) (by rw [c_12]; decide) (by rw [c_12] <;> rfl) (by decide) ?_
        exact law_case_gift hL C0 hI hW hAW s_gift hi hM hP hS hl0 kk
      by_cases c_13 : op = (13 : Int32)
      · refine lv_tableIn (tgt := 607) hx hb d_law_33 (by rw [c_13]; decide) (by rw [c_13]; decide) (by rw [c_13] <;> rfl) (by decide) ?_
        exact law_case_worst hL C0 hI hW hAW s_worst hi hM hP hS hl0 kk
      by_cases c_14 : op = (14 : Int32)
      · refine lv_tableIn (tgt := 630) hx hb d_law_33 (by rw [c_14]; decide) (by rw [c_14]; decide) (by rw [c_14] <;> rfl) (by decide) ?_
        exact law_case_reading hL C0 hI hW hAW s_reading hi hM hP hS hl0 kk
      by_cases c_15 : op = (15 : Int32)
      · refine lv_tableIn (tgt := 663) hx hb d_law_33 (by rw [c_15]; decide) (by rw [c_15]; decide) (by rw [c_15] <;> rfl) (by decide) ?_
        exact law_case_back hL C0 hI hW hAW s_back hi hM hP hS hl0 kk
      by_cases c_16 : op = (16 : Int32)
      · refine lv_tableIn (tgt := 686) hx hb d_law_33 (by rw [c_16]; decide) (by rw [c_16]; decide) (by rw [c_16] <;> rfl) (by decide) ?_
        exact law_case_had hL C0 hI hW hAW s_had hi hM hP hS hl0 kk
      by_cases c_17 : op = (17 : Int32)
      · refine lv_tableIn (tgt := 719) hx hb d_law_33 (by rw [c_17]; decide) (by rw [c_17]; decide) (by rw [c_17] <;> rfl) (by decide) ?_
        exact law_case_kinds hL C0 hI hW hAW s_kinds hi hM hP hS hl0 kk
      by_cases c_18 : op = (18 : Int32)
      · refine lv_tableIn (tgt := 742) hx hb d_law_33 (by rw [c_18]; decide) (by rw [c_18]; decide) (by rw [c_18] <;> rfl) (by decide) ?_
        exact law_case_odds hL C0 hI hW hAW s_odds hi hM hP hS hl0 kk
      by_cases c_19 : op = (19 : Int32)
      · refine lv_tableIn (tgt := 776) hx hb d_law_33 (by rw [c_19]; decide) (by rw [c_19]; decide) (by rw [c_19] <;> rfl) (by decide) ?_
        exact law_case_sheet hL C0 hI hW hAW s_sheet hi hM hP hS hl0 kk
      by_cases c_20 : op = (20 : Int32)
      · refine lv_tableIn (tgt := 819) hx hb d_law_33 (by rw [c_20]; decide) (by rw [c_20]; decide) (by rw [c_20] <;> rfl) (by decide) ?_
        exact law_case_lose hL C0 hI hW hAW s_lose hi hM hP hS hl0 kk
      by_cases c_21 : op = (21 : Int32)
      · refine lv_tableIn (tgt := 842) hx hb d_law_33 (by rw [c_21]; decide) (by rw [c_21]; decide) (by rw [c_21] <;> rfl) (by decide) ?_
        exact law_case_put hL C0 hI hW hAW s_put hi hM hP hS hl0 kk
      by_cases c_22 : op = (22 : Int32)
      · refine lv_tableIn (tgt := 885) hx hb d_law_33 (by rw [c_22]; decide) (by rw [c_22]; decide) (by rw [c_22] <;> rfl) (by decide) ?_
        exact law_case_cell hL C0 hI hW hAW s_cell hi hM hP hS hl0 kk
      by_cases c_23 : op = (23 : Int32)
      · refine lv_tableIn (tgt := 929) hx hb d_law_33 (by rw [c_23]; decide) (by rw [c_23]; decide) (by rw [c_23] <;> rfl) (by decide) ?_
        exact law_case_copy hL C0 hI hW hAW s_copy hi hM hP hS hl0 kk
      by_cases c_24 : op = (24 : Int32)
      · refine lv_tableIn (tgt := 992) hx hb d_law_33 (by rw [c_24]; decide) (by rw [c_24]; decide) (by rw [c_24] <;> rfl) (by decide) ?_
        exact law_case_tell hL C0 hI hW hAW s_tell hi hM hP hS hl0 kk
      by_cases c_25 : op = (25 : Int32)
      · refine lv_tableIn (tgt := 1015) hx hb d_law_33 (by rw [c_25]; decide) (by rw [c_25]; decide) (by rw [c_25] <;> rfl) (by decide) ?_
        exact law_case_knock hL C0 hI hW hAW s_knock hi hM hP hS hl0 kk
      by_cases c_26 : op = (26 : Int32)
      · refine lv_tableIn (tgt := 1038) hx hb d_law_33 (by rw [c_26]; decide) (by rw [c_26]; decide) (by rw [c_26] <;> rfl) (by decide) ?_
        exact law_case_as hL C0 hI hW hAW s_as hi hM hP hS hl0 kk
      by_cases c_27 : op = (27 : Int32)
      · refine lv_tableIn (tgt := 1071) hx hb d_law_33 (by rw [c_27]; decide) (by rw [c_27]; decide) (by rw [c_27] <;> rfl) (by decide) ?_
        exact law_case_trace hL C0 hI hW hAW s_trace hi hM hP hS hl0 kk
      by_cases c_28 : op = (28 : Int32)
      · refine lv_tableIn (tgt := 1084) hx hb d_law_33 (by rw [c_28]; decide) (by rw [c_28]; decide) (by rw [c_28] <;> rfl) (by decide) ?_
        exact law_case_fault hL C0 hI hW hAW s_fault hi hM hP hS hl0 kk
      by_cases c_29 : op = (29 : Int32)
      · refine lv_tableIn (tgt := 1097) hx hb d_law_33 (by rw [c_29]; decide) (by rw [c_29]; decide) (by rw [c_29] <;> rfl) (by decide) ?_
        exact law_case_many hL C0 hI hW hAW s_many hi hM hP hS hl0 kk
      refine lv_tableOut (tgt := 1120) hx hb d_law_33 (by have n0 := sw_ne (k := 0) c_0; have n1 := sw_ne (k := 1) c_1; have n2 := sw_ne (k := 2) c_2; have n3 := sw_ne (k := 3) c_3; have n4 := sw_ne (k := 4) c_4; have n5 := sw_ne (k := 5) c_5; have n6 := sw_ne (k := 6) c_6; have n7 := sw_ne (k := 7) c_7; have n8 := sw_ne (k := 8) c_8; have n9 := sw_ne (k := 9) c_9; have n10 := sw_ne (k := 10) c_10; have n11 := sw_ne (k := 11) c_11; have n12 := sw_ne (k := 12) c_12; have n13 := sw_ne (k := 13) c_13; have n14 := sw_ne (k := 14) c_14; have n15 := sw_ne (k := 15) c_15; have n16 := sw_ne (k := 16) c_16; have n17 := sw_ne (k := 17) c_17; have n18 := sw_ne (k := 18) c_18; have n19 := sw_ne (k := 19) c_19; have n20 := sw_ne (k := 20) c_20; have n21 := sw_ne (k := 21) c_21; have n22 := sw_ne (k := 22) c_22; have n23 := sw_ne (k := 23) c_23; have n24 := sw_ne (k := 24) c_24; have n25 := sw_ne (k := 25) c_25; have n26 := sw_ne (k := 26) c_26; have n27 := sw_ne (k := 27) c_27; have n28 := sw_ne (k := 28) c_28; have n29 := sw_ne (k := 29) c_29; omega) (by decide) ?_
      exact kk M H locs hM hP hS
