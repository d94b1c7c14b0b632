theorem d_Main_isBelow_0 : decode b_Main_isBelow 0 = .ok (.iload_n 0, 1) := by decide +kernel
theorem d_Main_isBelow_1 : decode b_Main_isBelow 1 = .ok (.ifCond .lt 12, 3) := by decide +kernel
theorem d_Main_isBelow_4 : decode b_Main_isBelow 4 = .ok (.iload_n 0, 1) := by decide +kernel
theorem d_Main_isBelow_5 : decode b_Main_isBelow 5 = .ok (.iload_n 1, 1) := by decide +kernel
theorem d_Main_isBelow_6 : decode b_Main_isBelow 6 = .ok (.if_icmp .ge 7, 3) := by decide +kernel
theorem d_Main_isBelow_9 : decode b_Main_isBelow 9 = .ok (.iconst 1, 1) := by decide +kernel
theorem d_Main_isBelow_10 : decode b_Main_isBelow 10 = .ok (.goto 4, 3) := by decide +kernel
theorem d_Main_isBelow_13 : decode b_Main_isBelow 13 = .ok (.iconst 0, 1) := by decide +kernel
theorem d_Main_isBelow_14 : decode b_Main_isBelow 14 = .ok (.ireturn, 1) := by decide +kernel
set_option maxRecDepth 20000 in
theorem c_Main_isBelow {l : Launch} {g : GG} (hI : WI g) (a0 : Int32) (a1 : Int32) (M : Mem) (R : Int32 → Mem → Prop) (h : wp_Main_isBelow a0 a1 M R) : Met l y_Main_isBelow (wm y_Main_isBelow b_Main_isBelow 2 (some .boolean)) (RM 0 0) (PP g M [.int a0, .int a1]) (PQ g (RZ R)) 0 0 (AW g) := by
  refine m_of (own := N_Main) (by decide) rfl (Nat.le_of_ble_eq_true rfl) ?_
  intro p e s m below meth c ls C hr hlocks hW hP hS hl
  obtain ⟨hx, hb, hml, hown, hts⟩ := id C
  have hl : lv_has ls 2 [(0, .int a0), (1, .int a1)] := hl
  unfold wp_Main_isBelow at h
  have hk := h
  refine lv_iload_n hx hb d_Main_isBelow_0 rfl (lv_at hl 0 rfl) ?_
  refine lv_if_lt (tgt := 13) hx hb d_Main_isBelow_1 (by decide) (fun c1 => ?_) (fun c1 => ?_)
  · have hk := hk.1 c1
    refine lv_iconst (v := 0) hx hb d_Main_isBelow_13 (by decide) ?_
    exact r_zret rfl C hr hlocks hP hS hk d_Main_isBelow_14
  · have hk := hk.2 c1
    refine lv_iload_n hx hb d_Main_isBelow_4 rfl (lv_at hl 0 rfl) ?_
    refine lv_iload_n hx hb d_Main_isBelow_5 rfl (lv_at hl 1 rfl) ?_
    refine lv_icmp_ge (tgt := 13) hx hb d_Main_isBelow_6 (by decide) (fun c2 => ?_) (fun c2 => ?_)
    · have hk := hk.1 c2
      refine lv_iconst (v := 0) hx hb d_Main_isBelow_13 (by decide) ?_
      exact r_zret rfl C hr hlocks hP hS hk d_Main_isBelow_14
    · have hk := hk.2 c2
      refine lv_iconst (v := 1) hx hb d_Main_isBelow_9 (by decide) ?_
      refine lv_goto (tgt := 14) hx hb d_Main_isBelow_10 (by decide) ?_
      exact r_zret rfl C hr hlocks hP hS hk d_Main_isBelow_14
theorem d_Main_sheetOf_0 : decode b_Main_sheetOf 0 = .ok (.iload_n 1, 1) := by decide +kernel
theorem d_Main_sheetOf_1 : decode b_Main_sheetOf 1 = .ok (.iconst 4, 1) := by decide +kernel
theorem d_Main_sheetOf_2 : decode b_Main_sheetOf 2 = .ok (.invokestatic 75, 3) := by decide +kernel
theorem d_Main_sheetOf_5 : decode b_Main_sheetOf 5 = .ok (.ifCond .eq 12, 3) := by decide +kernel
theorem d_Main_sheetOf_8 : decode b_Main_sheetOf 8 = .ok (.aload_n 0, 1) := by decide +kernel
theorem d_Main_sheetOf_9 : decode b_Main_sheetOf 9 = .ok (.getfield 13, 3) := by decide +kernel
theorem d_Main_sheetOf_12 : decode b_Main_sheetOf 12 = .ok (.iload_n 1, 1) := by decide +kernel
theorem d_Main_sheetOf_13 : decode b_Main_sheetOf 13 = .ok (.aaload, 1) := by decide +kernel
theorem d_Main_sheetOf_14 : decode b_Main_sheetOf 14 = .ok (.goto 4, 3) := by decide +kernel
theorem d_Main_sheetOf_17 : decode b_Main_sheetOf 17 = .ok (.aconst_null, 1) := by decide +kernel
theorem d_Main_sheetOf_18 : decode b_Main_sheetOf 18 = .ok (.areturn, 1) := by decide +kernel
theorem c_Main_sheetOf {l : Launch} {g : GG} (hI : WI g) (a1 : Int32) (M : Mem) (R : Option Nat → Mem → Prop) (h : wp_Main_sheetOf a1 M R) : Met l y_Main_sheetOf (wm y_Main_sheetOf b_Main_sheetOf 2 (some (.object "TrickHouses$Sheet"))) (RM 1 21) (PP g M [.ref (g.2.2.2 0), .int a1]) (PQ g (RO g R)) 0 0 (AW g) := by
  refine m_of (own := N_Main) (by decide) rfl (Nat.le_of_ble_eq_true rfl) ?_
  intro p e s m below meth c ls C hr hlocks hW hP hS hl
  obtain ⟨hx, hb, hml, hown, hts⟩ := id C
  have hl : lv_has ls 2 [(0, .ref (g.2.2.2 0)), (1, .int a1)] := hl
  unfold wp_Main_sheetOf at h
  have hk := h
  refine lv_iload_n hx hb d_Main_sheetOf_0 rfl (lv_at hl 1 rfl) ?_
  refine lv_iconst (v := 4) hx hb d_Main_sheetOf_1 (by decide) ?_
  refine r_runZ (k_S (As := [.int a1, .int 4]) (rest := []) C hW hP (c_Main_isBelow hI a1 (4 : Int32) M _ hk) cb_Main_isBelow ml_Main_75 ⟨by decide, by decide⟩ rfl hl.1 rfl (Nat.le_of_ble_eq_true rfl) d_Main_sheetOf_2 ⟨by decide, by decide⟩) hS (fun r M1 H locs z hk hP hS => ?_)
  refine lv_if_eq (tgt := 17) hx hb d_Main_sheetOf_5 (by decide) (fun c1 => ?_) (fun c1 => ?_)
  · have hk := hk.1 c1
    refine lv_null hx hb d_Main_sheetOf_17 ?_
    exact r_aret (Or.inl rfl) C hr hlocks hP hS (Or.inl ⟨rfl, hk⟩) d_Main_sheetOf_18
  · obtain ⟨h1, hk⟩ := hk.2 c1
    refine lv_aload_n hx hb d_Main_sheetOf_8 rfl (lv_at hl 0 rfl) ?_
    refine gf_0_0 C hW hP fl_Main_13 d_Main_sheetOf_9 ?_
    refine lv_iload_n hx hb d_Main_sheetOf_12 rfl (lv_at hl 1 rfl) ?_
    refine al_1 C hW hP h1 d_Main_sheetOf_13 ?_
    refine lv_goto (tgt := 18) hx hb d_Main_sheetOf_14 (by decide) ?_
    exact r_aret (Or.inr ⟨_, rfl⟩) C hr hlocks hP hS (Or.inr ⟨a1.toNatClampNeg, Nat.not_le.mp fun q => h1 (Or.inr q), rfl, hk⟩) d_Main_sheetOf_18
theorem d_Sheet_holds_0 : decode b_Sheet_holds 0 = .ok (.iload_n 1, 1) := by decide +kernel
theorem d_Sheet_holds_1 : decode b_Sheet_holds 1 = .ok (.ifCond .lt 29, 3) := by decide +kernel
theorem d_Sheet_holds_4 : decode b_Sheet_holds 4 = .ok (.iload_n 1, 1) := by decide +kernel
theorem d_Sheet_holds_5 : decode b_Sheet_holds 5 = .ok (.aload_n 0, 1) := by decide +kernel
theorem d_Sheet_holds_6 : decode b_Sheet_holds 6 = .ok (.getfield 23, 3) := by decide +kernel
theorem d_Sheet_holds_9 : decode b_Sheet_holds 9 = .ok (.if_icmp .gt 21, 3) := by decide +kernel
theorem d_Sheet_holds_12 : decode b_Sheet_holds 12 = .ok (.iload_n 2, 1) := by decide +kernel
theorem d_Sheet_holds_13 : decode b_Sheet_holds 13 = .ok (.ifCond .lt 17, 3) := by decide +kernel
theorem d_Sheet_holds_16 : decode b_Sheet_holds 16 = .ok (.iload_n 2, 1) := by decide +kernel
theorem d_Sheet_holds_17 : decode b_Sheet_holds 17 = .ok (.aload_n 0, 1) := by decide +kernel
theorem d_Sheet_holds_18 : decode b_Sheet_holds 18 = .ok (.getfield 23, 3) := by decide +kernel
theorem d_Sheet_holds_21 : decode b_Sheet_holds 21 = .ok (.iload_n 1, 1) := by decide +kernel
theorem d_Sheet_holds_22 : decode b_Sheet_holds 22 = .ok (.isub, 1) := by decide +kernel
theorem d_Sheet_holds_23 : decode b_Sheet_holds 23 = .ok (.if_icmp .gt 7, 3) := by decide +kernel
theorem d_Sheet_holds_26 : decode b_Sheet_holds 26 = .ok (.iconst 1, 1) := by decide +kernel
theorem d_Sheet_holds_27 : decode b_Sheet_holds 27 = .ok (.goto 4, 3) := by decide +kernel
theorem d_Sheet_holds_30 : decode b_Sheet_holds 30 = .ok (.iconst 0, 1) := by decide +kernel
theorem d_Sheet_holds_31 : decode b_Sheet_holds 31 = .ok (.ireturn, 1) := by decide +kernel
set_option maxRecDepth 20000 in
theorem c_Sheet_holds {l : Launch} {g : GG} {q0 : Nat} (hq0 : q0 < 4) (hI : WI g) (a1 : Int32) (a2 : Int32) (M : Mem) (R : Int32 → Mem → Prop) (h : wp_Sheet_holds q0 a1 a2 M R) : Met l y_Sheet_holds (wm y_Sheet_holds b_Sheet_holds 3 (some .boolean)) (RM 0 0) (PP g M [.ref (g.2.2.2 (2 + q0)), .int a1, .int a2]) (PQ g (RZ R)) 0 0 (AW g) := by
  refine m_of (own := N_Sheet) (by decide) rfl (Nat.le_of_ble_eq_true rfl) ?_
  intro p e s m below meth c ls C hr hlocks hW hP hS hl
  obtain ⟨hx, hb, hml, hown, hts⟩ := id C
  have hl : lv_has ls 3 [(0, .ref (g.2.2.2 (2 + q0))), (1, .int a1), (2, .int a2)] := hl
  unfold wp_Sheet_holds at h
  have hk := h
  refine lv_iload_n hx hb d_Sheet_holds_0 rfl (lv_at hl 1 rfl) ?_
  refine lv_if_lt (tgt := 30) hx hb d_Sheet_holds_1 (by decide) (fun c1 => ?_) (fun c1 => ?_)
  · have hk := hk.1 c1
    refine lv_iconst (v := 0) hx hb d_Sheet_holds_30 (by decide) ?_
    exact r_zret rfl C hr hlocks hP hS hk d_Sheet_holds_31
  · have hk := hk.2 c1
    refine lv_iload_n hx hb d_Sheet_holds_4 rfl (lv_at hl 1 rfl) ?_
    refine lv_aload_n hx hb d_Sheet_holds_5 rfl (lv_at hl 0 rfl) ?_
    refine gf_sh_3 hq0 C hW hP fl_Sheet_23 d_Sheet_holds_6 ?_
    refine lv_icmp_gt (tgt := 30) hx hb d_Sheet_holds_9 (by decide) (fun c2 => ?_) (fun c2 => ?_)
    · have hk := hk.1 c2
      refine lv_iconst (v := 0) hx hb d_Sheet_holds_30 (by decide) ?_
      exact r_zret rfl C hr hlocks hP hS hk d_Sheet_holds_31
    · have hk := hk.2 c2
      refine lv_iload_n hx hb d_Sheet_holds_12 rfl (lv_at hl 2 rfl) ?_
      refine lv_if_lt (tgt := 30) hx hb d_Sheet_holds_13 (by decide) (fun c3 => ?_) (fun c3 => ?_)
      · have hk := hk.1 c3
        refine lv_iconst (v := 0) hx hb d_Sheet_holds_30 (by decide) ?_
        exact r_zret rfl C hr hlocks hP hS hk d_Sheet_holds_31
      · have hk := hk.2 c3
        refine lv_iload_n hx hb d_Sheet_holds_16 rfl (lv_at hl 2 rfl) ?_
        refine lv_aload_n hx hb d_Sheet_holds_17 rfl (lv_at hl 0 rfl) ?_
        refine gf_sh_3 hq0 C hW hP fl_Sheet_23 d_Sheet_holds_18 ?_
        refine lv_iload_n hx hb d_Sheet_holds_21 rfl (lv_at hl 1 rfl) ?_
        refine lv_isub hx hb d_Sheet_holds_22 ?_
        refine lv_icmp_gt (tgt := 30) hx hb d_Sheet_holds_23 (by decide) (fun c4 => ?_) (fun c4 => ?_)
        · have hk := hk.1 c4
          refine lv_iconst (v := 0) hx hb d_Sheet_holds_30 (by decide) ?_
          exact r_zret rfl C hr hlocks hP hS hk d_Sheet_holds_31
        · have hk := hk.2 c4
          refine lv_iconst (v := 1) hx hb d_Sheet_holds_26 (by decide) ?_
          refine lv_goto (tgt := 31) hx hb d_Sheet_holds_27 (by decide) ?_
          exact r_zret rfl C hr hlocks hP hS hk d_Sheet_holds_31
theorem d_Sheet_faultOfTaking_0 : decode b_Sheet_faultOfTaking 0 = .ok (.aload_n 0, 1) := by decide +kernel
theorem d_Sheet_faultOfTaking_1 : decode b_Sheet_faultOfTaking 1 = .ok (.getfield 15, 3) := by decide +kernel
theorem d_Sheet_faultOfTaking_4 : decode b_Sheet_faultOfTaking 4 = .ok (.ifCond .ne 5, 3) := by decide +kernel
theorem d_Sheet_faultOfTaking_7 : decode b_Sheet_faultOfTaking 7 = .ok (.iconst 1, 1) := by decide +kernel
theorem d_Sheet_faultOfTaking_8 : decode b_Sheet_faultOfTaking 8 = .ok (.ireturn, 1) := by decide +kernel
theorem d_Sheet_faultOfTaking_9 : decode b_Sheet_faultOfTaking 9 = .ok (.aload_n 0, 1) := by decide +kernel
theorem d_Sheet_faultOfTaking_10 : decode b_Sheet_faultOfTaking 10 = .ok (.getfield 19, 3) := by decide +kernel
theorem d_Sheet_faultOfTaking_13 : decode b_Sheet_faultOfTaking 13 = .ok (.iload_n 1, 1) := by decide +kernel
theorem d_Sheet_faultOfTaking_14 : decode b_Sheet_faultOfTaking 14 = .ok (.if_icmp .eq 5, 3) := by decide +kernel
theorem d_Sheet_faultOfTaking_17 : decode b_Sheet_faultOfTaking 17 = .ok (.iconst 2, 1) := by decide +kernel
theorem d_Sheet_faultOfTaking_18 : decode b_Sheet_faultOfTaking 18 = .ok (.ireturn, 1) := by decide +kernel
theorem d_Sheet_faultOfTaking_19 : decode b_Sheet_faultOfTaking 19 = .ok (.iload_n 3, 1) := by decide +kernel
theorem d_Sheet_faultOfTaking_20 : decode b_Sheet_faultOfTaking 20 = .ok (.ifCond .ge 5, 3) := by decide +kernel
theorem d_Sheet_faultOfTaking_23 : decode b_Sheet_faultOfTaking 23 = .ok (.iconst 4, 1) := by decide +kernel
theorem d_Sheet_faultOfTaking_24 : decode b_Sheet_faultOfTaking 24 = .ok (.ireturn, 1) := by decide +kernel
theorem d_Sheet_faultOfTaking_25 : decode b_Sheet_faultOfTaking 25 = .ok (.aload_n 0, 1) := by decide +kernel
theorem d_Sheet_faultOfTaking_26 : decode b_Sheet_faultOfTaking 26 = .ok (.iload_n 2, 1) := by decide +kernel
theorem d_Sheet_faultOfTaking_27 : decode b_Sheet_faultOfTaking 27 = .ok (.iload_n 3, 1) := by decide +kernel
theorem d_Sheet_faultOfTaking_28 : decode b_Sheet_faultOfTaking 28 = .ok (.invokevirtual 32, 3) := by decide +kernel
theorem d_Sheet_faultOfTaking_31 : decode b_Sheet_faultOfTaking 31 = .ok (.ifCond .eq 7, 3) := by decide +kernel
theorem d_Sheet_faultOfTaking_34 : decode b_Sheet_faultOfTaking 34 = .ok (.iconst 0, 1) := by decide +kernel
theorem d_Sheet_faultOfTaking_35 : decode b_Sheet_faultOfTaking 35 = .ok (.goto 4, 3) := by decide +kernel
theorem d_Sheet_faultOfTaking_38 : decode b_Sheet_faultOfTaking 38 = .ok (.iconst 3, 1) := by decide +kernel
theorem d_Sheet_faultOfTaking_39 : decode b_Sheet_faultOfTaking 39 = .ok (.ireturn, 1) := by decide +kernel
set_option maxRecDepth 20000 in
theorem c_Sheet_faultOfTaking {l : Launch} {g : GG} {q0 : Nat} (hq0 : q0 < 4) (hI : WI g) (a1 : Int32) (a2 : Int32) (a3 : Int32) (M : Mem) (R : Int32 → Mem → Prop) (h : wp_Sheet_faultOfTaking q0 a1 a2 a3 M R) : Met l y_Sheet_faultOfTaking (wm y_Sheet_faultOfTaking b_Sheet_faultOfTaking 4 (some .int)) (RM 1 22) (PP g M [.ref (g.2.2.2 (2 + q0)), .int a1, .int a2, .int a3]) (PQ g (RI R)) 0 0 (AW g) := by
  refine m_of (own := N_Sheet) (by decide) rfl (Nat.le_of_ble_eq_true rfl) ?_
  intro p e s m below meth c ls C hr hlocks hW hP hS hl
  obtain ⟨hx, hb, hml, hown, hts⟩ := id C
  have hl : lv_has ls 4 [(0, .ref (g.2.2.2 (2 + q0))), (1, .int a1), (2, .int a2), (3, .int a3)] := hl
  unfold wp_Sheet_faultOfTaking at h
  have hk := h
  refine lv_aload_n hx hb d_Sheet_faultOfTaking_0 rfl (lv_at hl 0 rfl) ?_
  refine gf_sh_1 hq0 C hW hP fl_Sheet_15 d_Sheet_faultOfTaking_1 ?_
  refine lv_if_ne (tgt := 9) hx hb d_Sheet_faultOfTaking_4 (by decide) (fun c1 => ?_) (fun c1 => ?_)
  · have hk := hk.1 c1
    refine lv_aload_n hx hb d_Sheet_faultOfTaking_9 rfl (lv_at hl 0 rfl) ?_
    refine gf_sh_2 hq0 C hW hP fl_Sheet_19 d_Sheet_faultOfTaking_10 ?_
    refine lv_iload_n hx hb d_Sheet_faultOfTaking_13 rfl (lv_at hl 1 rfl) ?_
    refine lv_icmp_eq (tgt := 19) hx hb d_Sheet_faultOfTaking_14 (by decide) (fun c2 => ?_) (fun c2 => ?_)
    · have hk := hk.1 c2
      refine lv_iload_n hx hb d_Sheet_faultOfTaking_19 rfl (lv_at hl 3 rfl) ?_
      refine lv_if_ge (tgt := 25) hx hb d_Sheet_faultOfTaking_20 (by decide) (fun c3 => ?_) (fun c3 => ?_)
      · have hk := hk.1 c3
        refine lv_aload_n hx hb d_Sheet_faultOfTaking_25 rfl (lv_at hl 0 rfl) ?_
        refine lv_iload_n hx hb d_Sheet_faultOfTaking_26 rfl (lv_at hl 2 rfl) ?_
        refine lv_iload_n hx hb d_Sheet_faultOfTaking_27 rfl (lv_at hl 3 rfl) ?_
        refine r_runZ (k_V (As := [.int a2, .int a3]) (rest := []) C hW hP (c_Sheet_holds hq0 hI a2 a3 M _ hk) cb_Sheet_holds ml_Sheet_32 (io_sh q0 hq0 M) ⟨by decide, by decide⟩ rfl hl.1 rfl (Nat.le_of_ble_eq_true rfl) d_Sheet_faultOfTaking_28 ⟨by decide, by decide⟩) hS (fun r5 M4 H locs zr5 hk hP hS => ?_)
        refine lv_if_eq (tgt := 38) hx hb d_Sheet_faultOfTaking_31 (by decide) (fun c6 => ?_) (fun c6 => ?_)
        · have hk := hk.1 c6
          refine lv_iconst (v := 3) hx hb d_Sheet_faultOfTaking_38 (by decide) ?_
          exact r_iret C hr hlocks hP hS hk d_Sheet_faultOfTaking_39
        · have hk := hk.2 c6
          refine lv_iconst (v := 0) hx hb d_Sheet_faultOfTaking_34 (by decide) ?_
          refine lv_goto (tgt := 39) hx hb d_Sheet_faultOfTaking_35 (by decide) ?_
          exact r_iret C hr hlocks hP hS hk d_Sheet_faultOfTaking_39
      · have hk := hk.2 c3
        refine lv_iconst (v := 4) hx hb d_Sheet_faultOfTaking_23 (by decide) ?_
        exact r_iret C hr hlocks hP hS hk d_Sheet_faultOfTaking_24
    · have hk := hk.2 c2
      refine lv_iconst (v := 2) hx hb d_Sheet_faultOfTaking_17 (by decide) ?_
      exact r_iret C hr hlocks hP hS hk d_Sheet_faultOfTaking_18
  · have hk := hk.2 c1
    refine lv_iconst (v := 1) hx hb d_Sheet_faultOfTaking_7 (by decide) ?_
    exact r_iret C hr hlocks hP hS hk d_Sheet_faultOfTaking_8
theorem d_Main_failed_0 : decode b_Main_failed 0 = .ok (.aload_n 0, 1) := by decide +kernel
theorem d_Main_failed_1 : decode b_Main_failed 1 = .ok (.iload_n 1, 1) := by decide +kernel
theorem d_Main_failed_2 : decode b_Main_failed 2 = .ok (.putfield 68, 3) := by decide +kernel
theorem d_Main_failed_5 : decode b_Main_failed 5 = .ok (.bipush (-10), 2) := by decide +kernel
theorem d_Main_failed_7 : decode b_Main_failed 7 = .ok (.iload_n 1, 1) := by decide +kernel
theorem d_Main_failed_8 : decode b_Main_failed 8 = .ok (.isub, 1) := by decide +kernel
theorem d_Main_failed_9 : decode b_Main_failed 9 = .ok (.ireturn, 1) := by decide +kernel
set_option maxRecDepth 20000 in
theorem c_Main_failed {l : Launch} {g : GG} (hI : WI g) (a1 : Int32) (M : Mem) (R : Int32 → Mem → Prop) (h : wp_Main_failed a1 M R) : Met l y_Main_failed (wm y_Main_failed b_Main_failed 2 (some .int)) (RM 0 0) (PP g M [.ref (g.2.2.2 0), .int a1]) (PQ g (RI R)) 0 0 (AW g) := by
  refine m_of (own := N_Main) (by decide) rfl (Nat.le_of_ble_eq_true rfl) ?_
  intro p e s m below meth c ls C hr hlocks hW hP hS hl
  obtain ⟨hx, hb, hml, hown, hts⟩ := id C
  have hl : lv_has ls 2 [(0, .ref (g.2.2.2 0)), (1, .int a1)] := hl
  unfold wp_Main_failed at h
  have hk := h
  refine lv_aload_n hx hb d_Main_failed_0 rfl (lv_at hl 0 rfl) ?_
  refine lv_iload_n hx hb d_Main_failed_1 rfl (lv_at hl 1 rfl) ?_
  refine pf_0_8 hI C hW hP hS fl_Main_68 d_Main_failed_2 (fun M1 eM1 H locs hP hS => ?_)
  have hk := hk M1 eM1
  refine lv_bipush (v := -10) hx hb d_Main_failed_5 (by decide) ?_
  refine lv_iload_n hx hb d_Main_failed_7 rfl (lv_at hl 1 rfl) ?_
  refine lv_isub hx hb d_Main_failed_8 ?_
  exact r_iret C hr hlocks hP hS hk d_Main_failed_9
theorem d_Text_read_0 : decode b_Text_read 0 = .ok (.aload_n 1, 1) := by decide +kernel
theorem d_Text_read_1 : decode b_Text_read 1 = .ok (.getfield 25, 3) := by decide +kernel
theorem d_Text_read_4 : decode b_Text_read 4 = .ok (.iload_n 2, 1) := by decide +kernel
theorem d_Text_read_5 : decode b_Text_read 5 = .ok (.aload_n 0, 1) := by decide +kernel
theorem d_Text_read_6 : decode b_Text_read 6 = .ok (.getfield 9, 3) := by decide +kernel
theorem d_Text_read_9 : decode b_Text_read 9 = .ok (.iconst 0, 1) := by decide +kernel
theorem d_Text_read_10 : decode b_Text_read 10 = .ok (.iload_n 3, 1) := by decide +kernel
theorem d_Text_read_11 : decode b_Text_read 11 = .ok (.invokestatic 30, 3) := by decide +kernel
theorem d_Text_read_14 : decode b_Text_read 14 = .ok (.aload_n 0, 1) := by decide +kernel
theorem d_Text_read_15 : decode b_Text_read 15 = .ok (.iload_n 3, 1) := by decide +kernel
theorem d_Text_read_16 : decode b_Text_read 16 = .ok (.putfield 15, 3) := by decide +kernel
theorem d_Text_read_19 : decode b_Text_read 19 = .ok (.return_, 1) := by decide +kernel
set_option maxRecDepth 20000 in
theorem c_Text_read {l : Launch} {g : GG} {q1 : Nat} (hq1 : q1 < 4) (hI : WI g) (a2 : Int32) (a3 : Int32) (M : Mem) (R : Mem → Prop) (h : wp_Text_read q1 a2 a3 M R) : Met l y_Text_read (wm y_Text_read b_Text_read 4 none) (RM 1 26) (PP g M [.ref (g.2.2.2 10), .ref (g.2.2.2 (2 + q1)), .int a2, .int a3]) (PQ g (RV R)) 0 0 (AW g) := by
  refine m_of (own := N_Text) (by decide) rfl (Nat.le_of_ble_eq_true rfl) ?_
  intro p e s m below meth c ls C hr hlocks hW hP hS hl
  obtain ⟨hx, hb, hml, hown, hts⟩ := id C
  have hl : lv_has ls 4 [(0, .ref (g.2.2.2 10)), (1, .ref (g.2.2.2 (2 + q1))), (2, .int a2), (3, .int a3)] := hl
  unfold wp_Text_read at h
  have hk := h
  refine lv_aload_n hx hb d_Text_read_0 rfl (lv_at hl 1 rfl) ?_
  refine gf_sh_0 hq1 C hW hP fl_Text_25 d_Text_read_1 ?_
  refine lv_iload_n hx hb d_Text_read_4 rfl (lv_at hl 2 rfl) ?_
  refine lv_aload_n hx hb d_Text_read_5 rfl (lv_at hl 0 rfl) ?_
  refine gf_10_0 C hW hP fl_Text_9 d_Text_read_6 ?_
  refine lv_iconst (v := 0) hx hb d_Text_read_9 (by decide) ?_
  refine lv_iload_n hx hb d_Text_read_10 rfl (lv_at hl 3 rfl) ?_
  obtain ⟨h1, h2, h3, h4, h5, hk⟩ := hk
  refine r_copy (6 + q1) 11 (ar_sh_lt hq1) (ar_sh hq1) (by decide) (fun _ => rfl) hI C hW hP hS (hl.1) ml_Text_30 h1 h2 h3 h4 h5 (by decide) (Nat.le_of_ble_eq_true rfl) d_Text_read_11 (fun M6 eM6 H locs hP hS => ?_)
  have hk := hk M6 eM6
  refine lv_aload_n hx hb d_Text_read_14 rfl (lv_at hl 0 rfl) ?_
  refine lv_iload_n hx hb d_Text_read_15 rfl (lv_at hl 3 rfl) ?_
  refine pf_10_1 hI C hW hP hS fl_Text_15 d_Text_read_16 (fun M7 eM7 H locs hP hS => ?_)
  have hk := hk M7 eM7
  exact r_vret C hr hlocks hP hS hk d_Text_read_19
theorem d_Text_codeAt_0 : decode b_Text_codeAt 0 = .ok (.iload_n 1, 1) := by decide +kernel
theorem d_Text_codeAt_1 : decode b_Text_codeAt 1 = .ok (.aload_n 0, 1) := by decide +kernel
theorem d_Text_codeAt_2 : decode b_Text_codeAt 2 = .ok (.getfield 15, 3) := by decide +kernel
theorem d_Text_codeAt_5 : decode b_Text_codeAt 5 = .ok (.invokestatic 55, 3) := by decide +kernel
theorem d_Text_codeAt_8 : decode b_Text_codeAt 8 = .ok (.ifCond .eq 12, 3) := by decide +kernel
theorem d_Text_codeAt_11 : decode b_Text_codeAt 11 = .ok (.aload_n 0, 1) := by decide +kernel
theorem d_Text_codeAt_12 : decode b_Text_codeAt 12 = .ok (.getfield 9, 3) := by decide +kernel
theorem d_Text_codeAt_15 : decode b_Text_codeAt 15 = .ok (.iload_n 1, 1) := by decide +kernel
theorem d_Text_codeAt_16 : decode b_Text_codeAt 16 = .ok (.iaload, 1) := by decide +kernel
theorem d_Text_codeAt_17 : decode b_Text_codeAt 17 = .ok (.goto 4, 3) := by decide +kernel
theorem d_Text_codeAt_20 : decode b_Text_codeAt 20 = .ok (.iconst (-1), 1) := by decide +kernel
theorem d_Text_codeAt_21 : decode b_Text_codeAt 21 = .ok (.ireturn, 1) := by decide +kernel
set_option maxRecDepth 20000 in
theorem c_Text_codeAt {l : Launch} {g : GG} (hI : WI g) (a1 : Int32) (M : Mem) (R : Int32 → Mem → Prop) (h : wp_Text_codeAt a1 M R) : Met l y_Text_codeAt (wm y_Text_codeAt b_Text_codeAt 2 (some .int)) (RM 1 21) (PP g M [.ref (g.2.2.2 10), .int a1]) (PQ g (RI R)) 0 0 (AW g) := by
  refine m_of (own := N_Text) (by decide) rfl (Nat.le_of_ble_eq_true rfl) ?_
  intro p e s m below meth c ls C hr hlocks hW hP hS hl
  obtain ⟨hx, hb, hml, hown, hts⟩ := id C
  have hl : lv_has ls 2 [(0, .ref (g.2.2.2 10)), (1, .int a1)] := hl
  unfold wp_Text_codeAt at h
  have hk := h
  refine lv_iload_n hx hb d_Text_codeAt_0 rfl (lv_at hl 1 rfl) ?_
  refine lv_aload_n hx hb d_Text_codeAt_1 rfl (lv_at hl 0 rfl) ?_
  refine gf_10_1 C hW hP fl_Text_15 d_Text_codeAt_2 ?_
  refine r_runZ (k_N (As := [.int a1, .int (M 10 1)]) (rest := []) C hW hP (c_Main_isBelow hI a1 (M 10 1) M _ hk) cb_Main_isBelow hW.2.1 ⟨by decide, by decide⟩ rfl hl.1 rfl (Nat.le_of_ble_eq_true rfl) d_Text_codeAt_5 ⟨by decide, by decide⟩) hS (fun r2 M1 H locs zr2 hk hP hS => ?_)
  refine lv_if_eq (tgt := 20) hx hb d_Text_codeAt_8 (by decide) (fun c3 => ?_) (fun c3 => ?_)
  · have hk := hk.1 c3
    refine lv_iconst (v := -1) hx hb d_Text_codeAt_20 (by decide) ?_
    exact r_iret C hr hlocks hP hS hk d_Text_codeAt_21
  · have hk := hk.2 c3
    refine lv_aload_n hx hb d_Text_codeAt_11 rfl (lv_at hl 0 rfl) ?_
    refine gf_10_0 C hW hP fl_Text_9 d_Text_codeAt_12 ?_
    refine lv_iload_n hx hb d_Text_codeAt_15 rfl (lv_at hl 1 rfl) ?_
    obtain ⟨h4, hk⟩ := hk
    refine al_11 C hW hP h4 d_Text_codeAt_16 ?_
    refine lv_goto (tgt := 21) hx hb d_Text_codeAt_17 (by decide) ?_
    exact r_iret C hr hlocks hP hS hk d_Text_codeAt_21
theorem d_Text_kindAt_0 : decode b_Text_kindAt 0 = .ok (.aload_n 0, 1) := by decide +kernel
theorem d_Text_kindAt_1 : decode b_Text_kindAt 1 = .ok (.iload_n 1, 1) := by decide +kernel
theorem d_Text_kindAt_2 : decode b_Text_kindAt 2 = .ok (.invokevirtual 36, 3) := by decide +kernel
theorem d_Text_kindAt_5 : decode b_Text_kindAt 5 = .ok (.lookupswitch 41 #[(100, 37), (104, 35), (108, 39)], 35) := by decide +kernel
theorem d_Text_kindAt_40 : decode b_Text_kindAt 40 = .ok (.iconst 0, 1) := by decide +kernel
theorem d_Text_kindAt_41 : decode b_Text_kindAt 41 = .ok (.ireturn, 1) := by decide +kernel
theorem d_Text_kindAt_42 : decode b_Text_kindAt 42 = .ok (.iconst 1, 1) := by decide +kernel
theorem d_Text_kindAt_43 : decode b_Text_kindAt 43 = .ok (.ireturn, 1) := by decide +kernel
theorem d_Text_kindAt_44 : decode b_Text_kindAt 44 = .ok (.iconst 2, 1) := by decide +kernel
theorem d_Text_kindAt_45 : decode b_Text_kindAt 45 = .ok (.ireturn, 1) := by decide +kernel
theorem d_Text_kindAt_46 : decode b_Text_kindAt 46 = .ok (.bipush (-9), 2) := by decide +kernel
theorem d_Text_kindAt_48 : decode b_Text_kindAt 48 = .ok (.ireturn, 1) := by decide +kernel
set_option maxRecDepth 20000 in
theorem c_Text_kindAt {l : Launch} {g : GG} (hI : WI g) (a1 : Int32) (M : Mem) (R : Int32 → Mem → Prop) (h : wp_Text_kindAt a1 M R) : Met l y_Text_kindAt (wm y_Text_kindAt b_Text_kindAt 2 (some .int)) (RM 2 42) (PP g M [.ref (g.2.2.2 10), .int a1]) (PQ g (RI R)) 0 0 (AW g) := by
  refine m_of (own := N_Text) (by decide) rfl (Nat.le_of_ble_eq_true rfl) ?_
  intro p e s m below meth c ls C hr hlocks hW hP hS hl
  obtain ⟨hx, hb, hml, hown, hts⟩ := id C
  have hl : lv_has ls 2 [(0, .ref (g.2.2.2 10)), (1, .int a1)] := hl
  unfold wp_Text_kindAt at h
  have hk := h
  refine lv_aload_n hx hb d_Text_kindAt_0 rfl (lv_at hl 0 rfl) ?_
  refine lv_iload_n hx hb d_Text_kindAt_1 rfl (lv_at hl 1 rfl) ?_
  refine r_runI (k_V (As := [.int a1]) (rest := []) C hW hP (c_Text_codeAt hI a1 M _ hk) cb_Text_codeAt ml_Text_36 (io_10 g M) ⟨by decide, by decide⟩ rfl hl.1 rfl (Nat.le_of_ble_eq_true rfl) d_Text_kindAt_2 ⟨by decide, by decide⟩) hS (fun r2 M1 H locs hk hP hS => ?_)
  by_cases c3 : r2 = (100 : Int32)
  · have hk := hk.1 c3
    refine lv_lookup (tgt := 42) hx hb d_Text_kindAt_5 (by decide) (by rw [c3] <;> rfl) (by decide) ?_
    refine lv_iconst (v := 1) hx hb d_Text_kindAt_42 (by decide) ?_
    exact r_iret C hr hlocks hP hS hk d_Text_kindAt_43
  · have hk := hk.2 c3
    by_cases c4 : r2 = (104 : Int32)
    · have hk := hk.1 c4
      refine lv_lookup (tgt := 40) hx hb d_Text_kindAt_5 (by decide) (by rw [c4] <;> rfl) (by decide) ?_
      refine lv_iconst (v := 0) hx hb d_Text_kindAt_40 (by decide) ?_
      exact r_iret C hr hlocks hP hS hk d_Text_kindAt_41
    · have hk := hk.2 c4
      by_cases c5 : r2 = (108 : Int32)
      · have hk := hk.1 c5
        refine lv_lookup (tgt := 44) hx hb d_Text_kindAt_5 (by decide) (by rw [c5] <;> rfl) (by decide) ?_
        refine lv_iconst (v := 2) hx hb d_Text_kindAt_44 (by decide) ?_
        exact r_iret C hr hlocks hP hS hk d_Text_kindAt_45
      · have hk := hk.2 c5
        refine lv_lookup (tgt := 46) hx hb d_Text_kindAt_5 (by decide) (by simp [Op.lookupswitch.offset, sw_ne (k := 100) c3, sw_ne (k := 104) c4, sw_ne (k := 108) c5] <;> rfl) (by decide) ?_
        refine lv_bipush (v := -9) hx hb d_Text_kindAt_46 (by decide) ?_
        exact r_iret C hr hlocks hP hS hk d_Text_kindAt_48
theorem d_Text_digitAt_0 : decode b_Text_digitAt 0 = .ok (.aload_n 0, 1) := by decide +kernel
theorem d_Text_digitAt_1 : decode b_Text_digitAt 1 = .ok (.iload_n 1, 1) := by decide +kernel
theorem d_Text_digitAt_2 : decode b_Text_digitAt 2 = .ok (.invokevirtual 36, 3) := by decide +kernel
theorem d_Text_digitAt_5 : decode b_Text_digitAt 5 = .ok (.bipush 48, 2) := by decide +kernel
theorem d_Text_digitAt_7 : decode b_Text_digitAt 7 = .ok (.isub, 1) := by decide +kernel
theorem d_Text_digitAt_8 : decode b_Text_digitAt 8 = .ok (.ireturn, 1) := by decide +kernel
set_option maxRecDepth 20000 in
theorem c_Text_digitAt {l : Launch} {g : GG} (hI : WI g) (a1 : Int32) (M : Mem) (R : Int32 → Mem → Prop) (h : wp_Text_digitAt a1 M R) : Met l y_Text_digitAt (wm y_Text_digitAt b_Text_digitAt 2 (some .int)) (RM 2 42) (PP g M [.ref (g.2.2.2 10), .int a1]) (PQ g (RI R)) 0 0 (AW g) := by
  refine m_of (own := N_Text) (by decide) rfl (Nat.le_of_ble_eq_true rfl) ?_
  intro p e s m below meth c ls C hr hlocks hW hP hS hl
  obtain ⟨hx, hb, hml, hown, hts⟩ := id C
  have hl : lv_has ls 2 [(0, .ref (g.2.2.2 10)), (1, .int a1)] := hl
  unfold wp_Text_digitAt at h
  have hk := h
  refine lv_aload_n hx hb d_Text_digitAt_0 rfl (lv_at hl 0 rfl) ?_
  refine lv_iload_n hx hb d_Text_digitAt_1 rfl (lv_at hl 1 rfl) ?_
  refine r_runI (k_V (As := [.int a1]) (rest := []) C hW hP (c_Text_codeAt hI a1 M _ hk) cb_Text_codeAt ml_Text_36 (io_10 g M) ⟨by decide, by decide⟩ rfl hl.1 rfl (Nat.le_of_ble_eq_true rfl) d_Text_digitAt_2 ⟨by decide, by decide⟩) hS (fun r2 M1 H locs hk hP hS => ?_)
  refine lv_bipush (v := 48) hx hb d_Text_digitAt_5 (by decide) ?_
  refine lv_isub hx hb d_Text_digitAt_7 ?_
  exact r_iret C hr hlocks hP hS hk d_Text_digitAt_8
theorem d_Text_goodOfHouse_0 : decode b_Text_goodOfHouse 0 = .ok (.aload_n 0, 1) := by decide +kernel
theorem d_Text_goodOfHouse_1 : decode b_Text_goodOfHouse 1 = .ok (.iload_n 1, 1) := by decide +kernel
theorem d_Text_goodOfHouse_2 : decode b_Text_goodOfHouse 2 = .ok (.iconst 1, 1) := by decide +kernel
theorem d_Text_goodOfHouse_3 : decode b_Text_goodOfHouse 3 = .ok (.iadd, 1) := by decide +kernel
theorem d_Text_goodOfHouse_4 : decode b_Text_goodOfHouse 4 = .ok (.invokevirtual 49, 3) := by decide +kernel
theorem d_Text_goodOfHouse_7 : decode b_Text_goodOfHouse 7 = .ok (.bipush (-9), 2) := by decide +kernel
theorem d_Text_goodOfHouse_9 : decode b_Text_goodOfHouse 9 = .ok (.if_icmp .ne 5, 3) := by decide +kernel
theorem d_Text_goodOfHouse_12 : decode b_Text_goodOfHouse 12 = .ok (.iconst 1, 1) := by decide +kernel
theorem d_Text_goodOfHouse_13 : decode b_Text_goodOfHouse 13 = .ok (.ireturn, 1) := by decide +kernel
theorem d_Text_goodOfHouse_14 : decode b_Text_goodOfHouse 14 = .ok (.aload_n 0, 1) := by decide +kernel
theorem d_Text_goodOfHouse_15 : decode b_Text_goodOfHouse 15 = .ok (.iload_n 1, 1) := by decide +kernel
theorem d_Text_goodOfHouse_16 : decode b_Text_goodOfHouse 16 = .ok (.iconst 2, 1) := by decide +kernel
theorem d_Text_goodOfHouse_17 : decode b_Text_goodOfHouse 17 = .ok (.iadd, 1) := by decide +kernel
theorem d_Text_goodOfHouse_18 : decode b_Text_goodOfHouse 18 = .ok (.invokevirtual 52, 3) := by decide +kernel
theorem d_Text_goodOfHouse_21 : decode b_Text_goodOfHouse 21 = .ok (.bipush 6, 2) := by decide +kernel
theorem d_Text_goodOfHouse_23 : decode b_Text_goodOfHouse 23 = .ok (.invokestatic 55, 3) := by decide +kernel
theorem d_Text_goodOfHouse_26 : decode b_Text_goodOfHouse 26 = .ok (.ifCond .ne 5, 3) := by decide +kernel
theorem d_Text_goodOfHouse_29 : decode b_Text_goodOfHouse 29 = .ok (.iconst 2, 1) := by decide +kernel
theorem d_Text_goodOfHouse_30 : decode b_Text_goodOfHouse 30 = .ok (.ireturn, 1) := by decide +kernel
theorem d_Text_goodOfHouse_31 : decode b_Text_goodOfHouse 31 = .ok (.aload_n 0, 1) := by decide +kernel
theorem d_Text_goodOfHouse_32 : decode b_Text_goodOfHouse 32 = .ok (.iload_n 1, 1) := by decide +kernel
theorem d_Text_goodOfHouse_33 : decode b_Text_goodOfHouse 33 = .ok (.iconst 3, 1) := by decide +kernel
theorem d_Text_goodOfHouse_34 : decode b_Text_goodOfHouse 34 = .ok (.iadd, 1) := by decide +kernel
theorem d_Text_goodOfHouse_35 : decode b_Text_goodOfHouse 35 = .ok (.invokevirtual 52, 3) := by decide +kernel
theorem d_Text_goodOfHouse_38 : decode b_Text_goodOfHouse 38 = .ok (.bipush 6, 2) := by decide +kernel
theorem d_Text_goodOfHouse_40 : decode b_Text_goodOfHouse 40 = .ok (.invokestatic 55, 3) := by decide +kernel
theorem d_Text_goodOfHouse_43 : decode b_Text_goodOfHouse 43 = .ok (.ifCond .ne 5, 3) := by decide +kernel
theorem d_Text_goodOfHouse_46 : decode b_Text_goodOfHouse 46 = .ok (.iconst 3, 1) := by decide +kernel
theorem d_Text_goodOfHouse_47 : decode b_Text_goodOfHouse 47 = .ok (.ireturn, 1) := by decide +kernel
theorem d_Text_goodOfHouse_48 : decode b_Text_goodOfHouse 48 = .ok (.aload_n 0, 1) := by decide +kernel
theorem d_Text_goodOfHouse_49 : decode b_Text_goodOfHouse 49 = .ok (.iload_n 1, 1) := by decide +kernel
theorem d_Text_goodOfHouse_50 : decode b_Text_goodOfHouse 50 = .ok (.iconst 4, 1) := by decide +kernel
theorem d_Text_goodOfHouse_51 : decode b_Text_goodOfHouse 51 = .ok (.iadd, 1) := by decide +kernel
theorem d_Text_goodOfHouse_52 : decode b_Text_goodOfHouse 52 = .ok (.invokevirtual 52, 3) := by decide +kernel
theorem d_Text_goodOfHouse_55 : decode b_Text_goodOfHouse 55 = .ok (.bipush 7, 2) := by decide +kernel
theorem d_Text_goodOfHouse_57 : decode b_Text_goodOfHouse 57 = .ok (.invokestatic 55, 3) := by decide +kernel
theorem d_Text_goodOfHouse_60 : decode b_Text_goodOfHouse 60 = .ok (.ifCond .eq 7, 3) := by decide +kernel
theorem d_Text_goodOfHouse_63 : decode b_Text_goodOfHouse 63 = .ok (.iconst 5, 1) := by decide +kernel
theorem d_Text_goodOfHouse_64 : decode b_Text_goodOfHouse 64 = .ok (.goto 4, 3) := by decide +kernel
theorem d_Text_goodOfHouse_67 : decode b_Text_goodOfHouse 67 = .ok (.iconst 4, 1) := by decide +kernel
theorem d_Text_goodOfHouse_68 : decode b_Text_goodOfHouse 68 = .ok (.ireturn, 1) := by decide +kernel
set_option maxRecDepth 20000 in
theorem c_Text_goodOfHouse {l : Launch} {g : GG} (hI : WI g) (a1 : Int32) (M : Mem) (R : Int32 → Mem → Prop) (h : wp_Text_goodOfHouse a1 M R) : Met l y_Text_goodOfHouse (wm y_Text_goodOfHouse b_Text_goodOfHouse 2 (some .int)) (RM 3 63) (PP g M [.ref (g.2.2.2 10), .int a1]) (PQ g (RI R)) 0 0 (AW g) := by
  refine m_of (own := N_Text) (by decide) rfl (Nat.le_of_ble_eq_true rfl) ?_
  intro p e s m below meth c ls C hr hlocks hW hP hS hl
  obtain ⟨hx, hb, hml, hown, hts⟩ := id C
  have hl : lv_has ls 2 [(0, .ref (g.2.2.2 10)), (1, .int a1)] := hl
  unfold wp_Text_goodOfHouse at h
  have hk := h
  refine lv_aload_n hx hb d_Text_goodOfHouse_0 rfl (lv_at hl 0 rfl) ?_
  refine lv_iload_n hx hb d_Text_goodOfHouse_1 rfl (lv_at hl 1 rfl) ?_
  refine lv_iconst (v := 1) hx hb d_Text_goodOfHouse_2 (by decide) ?_
  refine lv_iadd hx hb d_Text_goodOfHouse_3 ?_
  refine r_runI (k_V (As := [.int (a1 + (1 : Int32))]) (rest := []) C hW hP (c_Text_kindAt hI (a1 + (1 : Int32)) M _ hk) cb_Text_kindAt ml_Text_49 (io_10 g M) ⟨by decide, by decide⟩ rfl hl.1 rfl (Nat.le_of_ble_eq_true rfl) d_Text_goodOfHouse_4 ⟨by decide, by decide⟩) hS (fun r2 M1 H locs hk hP hS => ?_)
  refine lv_bipush (v := -9) hx hb d_Text_goodOfHouse_7 (by decide) ?_
  refine lv_icmp_ne (tgt := 14) hx hb d_Text_goodOfHouse_9 (by decide) (fun c3 => ?_) (fun c3 => ?_)
  · have hk := hk.1 c3
    refine lv_aload_n hx hb d_Text_goodOfHouse_14 rfl (lv_at hl 0 rfl) ?_
    refine lv_iload_n hx hb d_Text_goodOfHouse_15 rfl (lv_at hl 1 rfl) ?_
    refine lv_iconst (v := 2) hx hb d_Text_goodOfHouse_16 (by decide) ?_
    refine lv_iadd hx hb d_Text_goodOfHouse_17 ?_
    refine r_runI (k_V (As := [.int (a1 + (2 : Int32))]) (rest := []) C hW hP (c_Text_digitAt hI (a1 + (2 : Int32)) M1 _ hk) cb_Text_digitAt ml_Text_52 (io_10 g M1) ⟨by decide, by decide⟩ rfl hl.1 rfl (Nat.le_of_ble_eq_true rfl) d_Text_goodOfHouse_18 ⟨by decide, by decide⟩) hS (fun r5 M4 H locs hk hP hS => ?_)
    refine lv_bipush (v := 6) hx hb d_Text_goodOfHouse_21 (by decide) ?_
    refine r_runZ (k_N (As := [.int r5, .int (6 : Int32)]) (rest := []) C hW hP (c_Main_isBelow hI r5 (6 : Int32) M4 _ hk) cb_Main_isBelow hW.2.1 ⟨by decide, by decide⟩ rfl hl.1 rfl (Nat.le_of_ble_eq_true rfl) d_Text_goodOfHouse_23 ⟨by decide, by decide⟩) hS (fun r7 M6 H locs zr7 hk hP hS => ?_)
    refine lv_if_ne (tgt := 31) hx hb d_Text_goodOfHouse_26 (by decide) (fun c8 => ?_) (fun c8 => ?_)
    · have hk := hk.1 c8
      refine lv_aload_n hx hb d_Text_goodOfHouse_31 rfl (lv_at hl 0 rfl) ?_
      refine lv_iload_n hx hb d_Text_goodOfHouse_32 rfl (lv_at hl 1 rfl) ?_
      refine lv_iconst (v := 3) hx hb d_Text_goodOfHouse_33 (by decide) ?_
      refine lv_iadd hx hb d_Text_goodOfHouse_34 ?_
      refine r_runI (k_V (As := [.int (a1 + (3 : Int32))]) (rest := []) C hW hP (c_Text_digitAt hI (a1 + (3 : Int32)) M6 _ hk) cb_Text_digitAt ml_Text_52 (io_10 g M6) ⟨by decide, by decide⟩ rfl hl.1 rfl (Nat.le_of_ble_eq_true rfl) d_Text_goodOfHouse_35 ⟨by decide, by decide⟩) hS (fun r10 M9 H locs hk hP hS => ?_)
      refine lv_bipush (v := 6) hx hb d_Text_goodOfHouse_38 (by decide) ?_
      refine r_runZ (k_N (As := [.int r10, .int (6 : Int32)]) (rest := []) C hW hP (c_Main_isBelow hI r10 (6 : Int32) M9 _ hk) cb_Main_isBelow hW.2.1 ⟨by decide, by decide⟩ rfl hl.1 rfl (Nat.le_of_ble_eq_true rfl) d_Text_goodOfHouse_40 ⟨by decide, by decide⟩) hS (fun r12 M11 H locs zr12 hk hP hS => ?_)
      refine lv_if_ne (tgt := 48) hx hb d_Text_goodOfHouse_43 (by decide) (fun c13 => ?_) (fun c13 => ?_)
      · have hk := hk.1 c13
        refine lv_aload_n hx hb d_Text_goodOfHouse_48 rfl (lv_at hl 0 rfl) ?_
        refine lv_iload_n hx hb d_Text_goodOfHouse_49 rfl (lv_at hl 1 rfl) ?_
        refine lv_iconst (v := 4) hx hb d_Text_goodOfHouse_50 (by decide) ?_
        refine lv_iadd hx hb d_Text_goodOfHouse_51 ?_
        refine r_runI (k_V (As := [.int (a1 + (4 : Int32))]) (rest := []) C hW hP (c_Text_digitAt hI (a1 + (4 : Int32)) M11 _ hk) cb_Text_digitAt ml_Text_52 (io_10 g M11) ⟨by decide, by decide⟩ rfl hl.1 rfl (Nat.le_of_ble_eq_true rfl) d_Text_goodOfHouse_52 ⟨by decide, by decide⟩) hS (fun r15 M14 H locs hk hP hS => ?_)
        refine lv_bipush (v := 7) hx hb d_Text_goodOfHouse_55 (by decide) ?_
        refine r_runZ (k_N (As := [.int r15, .int (7 : Int32)]) (rest := []) C hW hP (c_Main_isBelow hI r15 (7 : Int32) M14 _ hk) cb_Main_isBelow hW.2.1 ⟨by decide, by decide⟩ rfl hl.1 rfl (Nat.le_of_ble_eq_true rfl) d_Text_goodOfHouse_57 ⟨by decide, by decide⟩) hS (fun r17 M16 H locs zr17 hk hP hS => ?_)
        refine lv_if_eq (tgt := 67) hx hb d_Text_goodOfHouse_60 (by decide) (fun c18 => ?_) (fun c18 => ?_)
        · have hk := hk.1 c18
          refine lv_iconst (v := 4) hx hb d_Text_goodOfHouse_67 (by decide) ?_
          exact r_iret C hr hlocks hP hS hk d_Text_goodOfHouse_68
        · have hk := hk.2 c18
          refine lv_iconst (v := 5) hx hb d_Text_goodOfHouse_63 (by decide) ?_
          refine lv_goto (tgt := 68) hx hb d_Text_goodOfHouse_64 (by decide) ?_
          exact r_iret C hr hlocks hP hS hk d_Text_goodOfHouse_68
      · have hk := hk.2 c13
        refine lv_iconst (v := 3) hx hb d_Text_goodOfHouse_46 (by decide) ?_
        exact r_iret C hr hlocks hP hS hk d_Text_goodOfHouse_47
    · have hk := hk.2 c8
      refine lv_iconst (v := 2) hx hb d_Text_goodOfHouse_29 (by decide) ?_
      exact r_iret C hr hlocks hP hS hk d_Text_goodOfHouse_30
  · have hk := hk.2 c3
    refine lv_iconst (v := 1) hx hb d_Text_goodOfHouse_12 (by decide) ?_
    exact r_iret C hr hlocks hP hS hk d_Text_goodOfHouse_13
theorem d_Text_goodOfGuest_0 : decode b_Text_goodOfGuest 0 = .ok (.aload_n 0, 1) := by decide +kernel
theorem d_Text_goodOfGuest_1 : decode b_Text_goodOfGuest 1 = .ok (.iload_n 1, 1) := by decide +kernel
theorem d_Text_goodOfGuest_2 : decode b_Text_goodOfGuest 2 = .ok (.iconst 1, 1) := by decide +kernel
theorem d_Text_goodOfGuest_3 : decode b_Text_goodOfGuest 3 = .ok (.iadd, 1) := by decide +kernel
theorem d_Text_goodOfGuest_4 : decode b_Text_goodOfGuest 4 = .ok (.invokevirtual 52, 3) := by decide +kernel
theorem d_Text_goodOfGuest_7 : decode b_Text_goodOfGuest 7 = .ok (.istore_n 2, 1) := by decide +kernel
theorem d_Text_goodOfGuest_8 : decode b_Text_goodOfGuest 8 = .ok (.aload_n 0, 1) := by decide +kernel
theorem d_Text_goodOfGuest_9 : decode b_Text_goodOfGuest 9 = .ok (.iload_n 1, 1) := by decide +kernel
theorem d_Text_goodOfGuest_10 : decode b_Text_goodOfGuest 10 = .ok (.iconst 2, 1) := by decide +kernel
theorem d_Text_goodOfGuest_11 : decode b_Text_goodOfGuest 11 = .ok (.iadd, 1) := by decide +kernel
theorem d_Text_goodOfGuest_12 : decode b_Text_goodOfGuest 12 = .ok (.invokevirtual 52, 3) := by decide +kernel
theorem d_Text_goodOfGuest_15 : decode b_Text_goodOfGuest 15 = .ok (.istore_n 3, 1) := by decide +kernel
theorem d_Text_goodOfGuest_16 : decode b_Text_goodOfGuest 16 = .ok (.iload_n 2, 1) := by decide +kernel
theorem d_Text_goodOfGuest_17 : decode b_Text_goodOfGuest 17 = .ok (.bipush 7, 2) := by decide +kernel
theorem d_Text_goodOfGuest_19 : decode b_Text_goodOfGuest 19 = .ok (.invokestatic 55, 3) := by decide +kernel
theorem d_Text_goodOfGuest_22 : decode b_Text_goodOfGuest 22 = .ok (.ifCond .ne 5, 3) := by decide +kernel
theorem d_Text_goodOfGuest_25 : decode b_Text_goodOfGuest 25 = .ok (.iconst 1, 1) := by decide +kernel
theorem d_Text_goodOfGuest_26 : decode b_Text_goodOfGuest 26 = .ok (.ireturn, 1) := by decide +kernel
theorem d_Text_goodOfGuest_27 : decode b_Text_goodOfGuest 27 = .ok (.iload_n 3, 1) := by decide +kernel
theorem d_Text_goodOfGuest_28 : decode b_Text_goodOfGuest 28 = .ok (.bipush 10, 2) := by decide +kernel
theorem d_Text_goodOfGuest_30 : decode b_Text_goodOfGuest 30 = .ok (.invokestatic 55, 3) := by decide +kernel
theorem d_Text_goodOfGuest_33 : decode b_Text_goodOfGuest 33 = .ok (.ifCond .eq 18, 3) := by decide +kernel
theorem d_Text_goodOfGuest_36 : decode b_Text_goodOfGuest 36 = .ok (.bipush 10, 2) := by decide +kernel
theorem d_Text_goodOfGuest_38 : decode b_Text_goodOfGuest 38 = .ok (.iload_n 2, 1) := by decide +kernel
theorem d_Text_goodOfGuest_39 : decode b_Text_goodOfGuest 39 = .ok (.imul, 1) := by decide +kernel
theorem d_Text_goodOfGuest_40 : decode b_Text_goodOfGuest 40 = .ok (.iload_n 3, 1) := by decide +kernel
theorem d_Text_goodOfGuest_41 : decode b_Text_goodOfGuest 41 = .ok (.iadd, 1) := by decide +kernel
theorem d_Text_goodOfGuest_42 : decode b_Text_goodOfGuest 42 = .ok (.bipush 64, 2) := by decide +kernel
theorem d_Text_goodOfGuest_44 : decode b_Text_goodOfGuest 44 = .ok (.if_icmp .ge 7, 3) := by decide +kernel
theorem d_Text_goodOfGuest_47 : decode b_Text_goodOfGuest 47 = .ok (.iconst 3, 1) := by decide +kernel
theorem d_Text_goodOfGuest_48 : decode b_Text_goodOfGuest 48 = .ok (.goto 4, 3) := by decide +kernel
theorem d_Text_goodOfGuest_51 : decode b_Text_goodOfGuest 51 = .ok (.iconst 2, 1) := by decide +kernel
theorem d_Text_goodOfGuest_52 : decode b_Text_goodOfGuest 52 = .ok (.ireturn, 1) := by decide +kernel
set_option maxRecDepth 20000 in
theorem c_Text_goodOfGuest {l : Launch} {g : GG} (hI : WI g) (a1 : Int32) (M : Mem) (R : Int32 → Mem → Prop) (h : wp_Text_goodOfGuest a1 M R) : Met l y_Text_goodOfGuest (wm y_Text_goodOfGuest b_Text_goodOfGuest 4 (some .int)) (RM 3 63) (PP g M [.ref (g.2.2.2 10), .int a1]) (PQ g (RI R)) 0 0 (AW g) := by
  refine m_of (own := N_Text) (by decide) rfl (Nat.le_of_ble_eq_true rfl) ?_
  intro p e s m below meth c ls C hr hlocks hW hP hS hl
  obtain ⟨hx, hb, hml, hown, hts⟩ := id C
  have hl : lv_has ls 4 [(0, .ref (g.2.2.2 10)), (1, .int a1)] := hl
  unfold wp_Text_goodOfGuest at h
  have hk := h
  refine lv_aload_n hx hb d_Text_goodOfGuest_0 rfl (lv_at hl 0 rfl) ?_
  refine lv_iload_n hx hb d_Text_goodOfGuest_1 rfl (lv_at hl 1 rfl) ?_
  refine lv_iconst (v := 1) hx hb d_Text_goodOfGuest_2 (by decide) ?_
  refine lv_iadd hx hb d_Text_goodOfGuest_3 ?_
  refine r_runI (k_V (As := [.int (a1 + (1 : Int32))]) (rest := []) C hW hP (c_Text_digitAt hI (a1 + (1 : Int32)) M _ hk) cb_Text_digitAt ml_Text_52 (io_10 g M) ⟨by decide, by decide⟩ rfl hl.1 rfl (Nat.le_of_ble_eq_true rfl) d_Text_goodOfGuest_4 ⟨by decide, by decide⟩) hS (fun r2 M1 H locs hk hP hS => ?_)
  refine lv_istore_n (lv' := [(2, .int r2), (0, .ref (g.2.2.2 10)), (1, .int a1)]) hx hb d_Text_goodOfGuest_7 rfl hl (by decide) rfl (fun ls hl => ?_)
  refine lv_aload_n hx hb d_Text_goodOfGuest_8 rfl (lv_at hl 1 rfl) ?_
  refine lv_iload_n hx hb d_Text_goodOfGuest_9 rfl (lv_at hl 2 rfl) ?_
  refine lv_iconst (v := 2) hx hb d_Text_goodOfGuest_10 (by decide) ?_
  refine lv_iadd hx hb d_Text_goodOfGuest_11 ?_
  refine r_runI (k_V (As := [.int (a1 + (2 : Int32))]) (rest := []) C hW hP (c_Text_digitAt hI (a1 + (2 : Int32)) M1 _ hk) cb_Text_digitAt ml_Text_52 (io_10 g M1) ⟨by decide, by decide⟩ rfl hl.1 rfl (Nat.le_of_ble_eq_true rfl) d_Text_goodOfGuest_12 ⟨by decide, by decide⟩) hS (fun r4 M3 H locs hk hP hS => ?_)
  refine lv_istore_n (lv' := [(3, .int r4), (2, .int r2), (0, .ref (g.2.2.2 10)), (1, .int a1)]) hx hb d_Text_goodOfGuest_15 rfl hl (by decide) rfl (fun ls hl => ?_)
  refine lv_iload_n hx hb d_Text_goodOfGuest_16 rfl (lv_at hl 1 rfl) ?_
  refine lv_bipush (v := 7) hx hb d_Text_goodOfGuest_17 (by decide) ?_
  refine r_runZ (k_N (As := [.int r2, .int (7 : Int32)]) (rest := []) C hW hP (c_Main_isBelow hI r2 (7 : Int32) M3 _ hk) cb_Main_isBelow hW.2.1 ⟨by decide, by decide⟩ rfl hl.1 rfl (Nat.le_of_ble_eq_true rfl) d_Text_goodOfGuest_19 ⟨by decide, by decide⟩) hS (fun r6 M5 H locs zr6 hk hP hS => ?_)
  refine lv_if_ne (tgt := 27) hx hb d_Text_goodOfGuest_22 (by decide) (fun c7 => ?_) (fun c7 => ?_)
  · have hk := hk.1 c7
    refine lv_iload_n hx hb d_Text_goodOfGuest_27 rfl (lv_at hl 0 rfl) ?_
    refine lv_bipush (v := 10) hx hb d_Text_goodOfGuest_28 (by decide) ?_
    refine r_runZ (k_N (As := [.int r4, .int (10 : Int32)]) (rest := []) C hW hP (c_Main_isBelow hI r4 (10 : Int32) M5 _ hk) cb_Main_isBelow hW.2.1 ⟨by decide, by decide⟩ rfl hl.1 rfl (Nat.le_of_ble_eq_true rfl) d_Text_goodOfGuest_30 ⟨by decide, by decide⟩) hS (fun r9 M8 H locs zr9 hk hP hS => ?_)
    refine lv_if_eq (tgt := 51) hx hb d_Text_goodOfGuest_33 (by decide) (fun c10 => ?_) (fun c10 => ?_)
    · have hk := hk.1 c10
      refine lv_iconst (v := 2) hx hb d_Text_goodOfGuest_51 (by decide) ?_
      exact r_iret C hr hlocks hP hS hk d_Text_goodOfGuest_52
    · have hk := hk.2 c10
      refine lv_bipush (v := 10) hx hb d_Text_goodOfGuest_36 (by decide) ?_
      refine lv_iload_n hx hb d_Text_goodOfGuest_38 rfl (lv_at hl 1 rfl) ?_
      refine lv_imul hx hb d_Text_goodOfGuest_39 ?_
      refine lv_iload_n hx hb d_Text_goodOfGuest_40 rfl (lv_at hl 0 rfl) ?_
      refine lv_iadd hx hb d_Text_goodOfGuest_41 ?_
      refine lv_bipush (v := 64) hx hb d_Text_goodOfGuest_42 (by decide) ?_
      refine lv_icmp_ge (tgt := 51) hx hb d_Text_goodOfGuest_44 (by decide) (fun c11 => ?_) (fun c11 => ?_)
      · have hk := hk.1 c11
        refine lv_iconst (v := 2) hx hb d_Text_goodOfGuest_51 (by decide) ?_
        exact r_iret C hr hlocks hP hS hk d_Text_goodOfGuest_52
      · have hk := hk.2 c11
        refine lv_iconst (v := 3) hx hb d_Text_goodOfGuest_47 (by decide) ?_
        refine lv_goto (tgt := 52) hx hb d_Text_goodOfGuest_48 (by decide) ?_
        exact r_iret C hr hlocks hP hS hk d_Text_goodOfGuest_52
  · have hk := hk.2 c7
    refine lv_iconst (v := 1) hx hb d_Text_goodOfGuest_25 (by decide) ?_
    exact r_iret C hr hlocks hP hS hk d_Text_goodOfGuest_26
theorem d_Text_firstFault_0 : decode b_Text_firstFault 0 = .ok (.aload_n 0, 1) := by decide +kernel
theorem d_Text_firstFault_1 : decode b_Text_firstFault 1 = .ok (.iconst 0, 1) := by decide +kernel
theorem d_Text_firstFault_2 : decode b_Text_firstFault 2 = .ok (.putfield 19, 3) := by decide +kernel
theorem d_Text_firstFault_5 : decode b_Text_firstFault 5 = .ok (.aload_n 0, 1) := by decide +kernel
theorem d_Text_firstFault_6 : decode b_Text_firstFault 6 = .ok (.iconst 0, 1) := by decide +kernel
theorem d_Text_firstFault_7 : decode b_Text_firstFault 7 = .ok (.putfield 22, 3) := by decide +kernel
theorem d_Text_firstFault_10 : decode b_Text_firstFault 10 = .ok (.aload_n 0, 1) := by decide +kernel
theorem d_Text_firstFault_11 : decode b_Text_firstFault 11 = .ok (.iconst 0, 1) := by decide +kernel
theorem d_Text_firstFault_12 : decode b_Text_firstFault 12 = .ok (.invokevirtual 36, 3) := by decide +kernel
theorem d_Text_firstFault_15 : decode b_Text_firstFault 15 = .ok (.bipush 120, 2) := by decide +kernel
theorem d_Text_firstFault_17 : decode b_Text_firstFault 17 = .ok (.if_icmp .eq 5, 3) := by decide +kernel
theorem d_Text_firstFault_20 : decode b_Text_firstFault 20 = .ok (.iconst 0, 1) := by decide +kernel
theorem d_Text_firstFault_21 : decode b_Text_firstFault 21 = .ok (.ireturn, 1) := by decide +kernel
theorem d_Text_firstFault_22 : decode b_Text_firstFault 22 = .ok (.iconst 1, 1) := by decide +kernel
theorem d_Text_firstFault_23 : decode b_Text_firstFault 23 = .ok (.istore_n 1, 1) := by decide +kernel
theorem d_Text_firstFault_24 : decode b_Text_firstFault 24 = .ok (.aload_n 0, 1) := by decide +kernel
theorem d_Text_firstFault_25 : decode b_Text_firstFault 25 = .ok (.getfield 19, 3) := by decide +kernel
theorem d_Text_firstFault_28 : decode b_Text_firstFault 28 = .ok (.bipush 6, 2) := by decide +kernel
theorem d_Text_firstFault_30 : decode b_Text_firstFault 30 = .ok (.if_icmp .ge 44, 3) := by decide +kernel
theorem d_Text_firstFault_33 : decode b_Text_firstFault 33 = .ok (.aload_n 0, 1) := by decide +kernel
theorem d_Text_firstFault_34 : decode b_Text_firstFault 34 = .ok (.iload_n 1, 1) := by decide +kernel
theorem d_Text_firstFault_35 : decode b_Text_firstFault 35 = .ok (.invokevirtual 36, 3) := by decide +kernel
theorem d_Text_firstFault_38 : decode b_Text_firstFault 38 = .ok (.bipush 59, 2) := by decide +kernel
theorem d_Text_firstFault_40 : decode b_Text_firstFault 40 = .ok (.if_icmp .ne 34, 3) := by decide +kernel
theorem d_Text_firstFault_43 : decode b_Text_firstFault 43 = .ok (.aload_n 0, 1) := by decide +kernel
theorem d_Text_firstFault_44 : decode b_Text_firstFault 44 = .ok (.iload_n 1, 1) := by decide +kernel
theorem d_Text_firstFault_45 : decode b_Text_firstFault 45 = .ok (.invokevirtual 40, 3) := by decide +kernel
theorem d_Text_firstFault_48 : decode b_Text_firstFault 48 = .ok (.istore_n 2, 1) := by decide +kernel
theorem d_Text_firstFault_49 : decode b_Text_firstFault 49 = .ok (.iload_n 2, 1) := by decide +kernel
theorem d_Text_firstFault_50 : decode b_Text_firstFault 50 = .ok (.iconst 5, 1) := by decide +kernel
theorem d_Text_firstFault_51 : decode b_Text_firstFault 51 = .ok (.if_icmp .ge 7, 3) := by decide +kernel
theorem d_Text_firstFault_54 : decode b_Text_firstFault 54 = .ok (.iload_n 1, 1) := by decide +kernel
theorem d_Text_firstFault_55 : decode b_Text_firstFault 55 = .ok (.iload_n 2, 1) := by decide +kernel
theorem d_Text_firstFault_56 : decode b_Text_firstFault 56 = .ok (.iadd, 1) := by decide +kernel
theorem d_Text_firstFault_57 : decode b_Text_firstFault 57 = .ok (.ireturn, 1) := by decide +kernel
theorem d_Text_firstFault_58 : decode b_Text_firstFault 58 = .ok (.aload_n 0, 1) := by decide +kernel
theorem d_Text_firstFault_59 : decode b_Text_firstFault 59 = .ok (.dup, 1) := by decide +kernel
theorem d_Text_firstFault_60 : decode b_Text_firstFault 60 = .ok (.getfield 19, 3) := by decide +kernel
theorem d_Text_firstFault_63 : decode b_Text_firstFault 63 = .ok (.iconst 1, 1) := by decide +kernel
theorem d_Text_firstFault_64 : decode b_Text_firstFault 64 = .ok (.iadd, 1) := by decide +kernel
theorem d_Text_firstFault_65 : decode b_Text_firstFault 65 = .ok (.putfield 19, 3) := by decide +kernel
theorem d_Text_firstFault_68 : decode b_Text_firstFault 68 = .ok (.iinc 1 5, 3) := by decide +kernel
theorem d_Text_firstFault_71 : decode b_Text_firstFault 71 = .ok (.goto (-47), 3) := by decide +kernel
theorem d_Text_firstFault_74 : decode b_Text_firstFault 74 = .ok (.aload_n 0, 1) := by decide +kernel
theorem d_Text_firstFault_75 : decode b_Text_firstFault 75 = .ok (.getfield 19, 3) := by decide +kernel
theorem d_Text_firstFault_78 : decode b_Text_firstFault 78 = .ok (.ifCond .ne 5, 3) := by decide +kernel
theorem d_Text_firstFault_81 : decode b_Text_firstFault 81 = .ok (.iload_n 1, 1) := by decide +kernel
theorem d_Text_firstFault_82 : decode b_Text_firstFault 82 = .ok (.ireturn, 1) := by decide +kernel
theorem d_Text_firstFault_83 : decode b_Text_firstFault 83 = .ok (.aload_n 0, 1) := by decide +kernel
theorem d_Text_firstFault_84 : decode b_Text_firstFault 84 = .ok (.getfield 22, 3) := by decide +kernel
theorem d_Text_firstFault_87 : decode b_Text_firstFault 87 = .ok (.iconst 5, 1) := by decide +kernel
theorem d_Text_firstFault_88 : decode b_Text_firstFault 88 = .ok (.if_icmp .ge 44, 3) := by decide +kernel
theorem d_Text_firstFault_91 : decode b_Text_firstFault 91 = .ok (.aload_n 0, 1) := by decide +kernel
theorem d_Text_firstFault_92 : decode b_Text_firstFault 92 = .ok (.iload_n 1, 1) := by decide +kernel
theorem d_Text_firstFault_93 : decode b_Text_firstFault 93 = .ok (.invokevirtual 36, 3) := by decide +kernel
theorem d_Text_firstFault_96 : decode b_Text_firstFault 96 = .ok (.bipush 44, 2) := by decide +kernel
theorem d_Text_firstFault_98 : decode b_Text_firstFault 98 = .ok (.if_icmp .ne 34, 3) := by decide +kernel
theorem d_Text_firstFault_101 : decode b_Text_firstFault 101 = .ok (.aload_n 0, 1) := by decide +kernel
theorem d_Text_firstFault_102 : decode b_Text_firstFault 102 = .ok (.iload_n 1, 1) := by decide +kernel
theorem d_Text_firstFault_103 : decode b_Text_firstFault 103 = .ok (.invokevirtual 43, 3) := by decide +kernel
theorem d_Text_firstFault_106 : decode b_Text_firstFault 106 = .ok (.istore_n 2, 1) := by decide +kernel
theorem d_Text_firstFault_107 : decode b_Text_firstFault 107 = .ok (.iload_n 2, 1) := by decide +kernel
theorem d_Text_firstFault_108 : decode b_Text_firstFault 108 = .ok (.iconst 3, 1) := by decide +kernel
theorem d_Text_firstFault_109 : decode b_Text_firstFault 109 = .ok (.if_icmp .ge 7, 3) := by decide +kernel
theorem d_Text_firstFault_112 : decode b_Text_firstFault 112 = .ok (.iload_n 1, 1) := by decide +kernel
theorem d_Text_firstFault_113 : decode b_Text_firstFault 113 = .ok (.iload_n 2, 1) := by decide +kernel
theorem d_Text_firstFault_114 : decode b_Text_firstFault 114 = .ok (.iadd, 1) := by decide +kernel
theorem d_Text_firstFault_115 : decode b_Text_firstFault 115 = .ok (.ireturn, 1) := by decide +kernel
theorem d_Text_firstFault_116 : decode b_Text_firstFault 116 = .ok (.aload_n 0, 1) := by decide +kernel
theorem d_Text_firstFault_117 : decode b_Text_firstFault 117 = .ok (.dup, 1) := by decide +kernel
theorem d_Text_firstFault_118 : decode b_Text_firstFault 118 = .ok (.getfield 22, 3) := by decide +kernel
theorem d_Text_firstFault_121 : decode b_Text_firstFault 121 = .ok (.iconst 1, 1) := by decide +kernel
theorem d_Text_firstFault_122 : decode b_Text_firstFault 122 = .ok (.iadd, 1) := by decide +kernel
theorem d_Text_firstFault_123 : decode b_Text_firstFault 123 = .ok (.putfield 22, 3) := by decide +kernel
theorem d_Text_firstFault_126 : decode b_Text_firstFault 126 = .ok (.iinc 1 3, 3) := by decide +kernel
theorem d_Text_firstFault_129 : decode b_Text_firstFault 129 = .ok (.goto (-46), 3) := by decide +kernel
theorem d_Text_firstFault_132 : decode b_Text_firstFault 132 = .ok (.aload_n 0, 1) := by decide +kernel
theorem d_Text_firstFault_133 : decode b_Text_firstFault 133 = .ok (.getfield 22, 3) := by decide +kernel
theorem d_Text_firstFault_136 : decode b_Text_firstFault 136 = .ok (.ifCond .le 16, 3) := by decide +kernel
theorem d_Text_firstFault_139 : decode b_Text_firstFault 139 = .ok (.iload_n 1, 1) := by decide +kernel
theorem d_Text_firstFault_140 : decode b_Text_firstFault 140 = .ok (.aload_n 0, 1) := by decide +kernel
theorem d_Text_firstFault_141 : decode b_Text_firstFault 141 = .ok (.getfield 15, 3) := by decide +kernel
theorem d_Text_firstFault_144 : decode b_Text_firstFault 144 = .ok (.if_icmp .ne 8, 3) := by decide +kernel
theorem d_Text_firstFault_147 : decode b_Text_firstFault 147 = .ok (.bipush (-9), 2) := by decide +kernel
theorem d_Text_firstFault_149 : decode b_Text_firstFault 149 = .ok (.goto 4, 3) := by decide +kernel
theorem d_Text_firstFault_152 : decode b_Text_firstFault 152 = .ok (.iload_n 1, 1) := by decide +kernel
theorem d_Text_firstFault_153 : decode b_Text_firstFault 153 = .ok (.ireturn, 1) := by decide +kernel
set_option maxRecDepth 20000 in
theorem c_Text_firstFault {l : Launch} {g : GG} (hI : WI g) (M : Mem) (R : Int32 → Mem → Prop) (h : wp_Text_firstFault  M R) : Met l y_Text_firstFault (wm y_Text_firstFault b_Text_firstFault 3 (some .int)) (RM 4 86) (PP g M [.ref (g.2.2.2 10)]) (PQ g (RI R)) 0 0 (AW g) := by
  refine m_of (own := N_Text) (by decide) rfl (Nat.le_of_ble_eq_true rfl) ?_
  intro p e s m below meth c ls C hr hlocks hW hP hS hl
  obtain ⟨hx, hb, hml, hown, hts⟩ := id C
  have hl : lv_has ls 3 [(0, .ref (g.2.2.2 10))] := hl
  unfold wp_Text_firstFault at h
  obtain ⟨X24, eX24⟩ : ∃ X : Int32 → Mem → Prop, ∀ (x1 : Int32) (M : Mem), X x1 M ↔ (∀ (H : Heap) (locs : List Loc) (ls : Array Slot), WP g M H → va_S (AW g) s.heap H locs → lv_has ls 3 [(0, .ref (g.2.2.2 10)), (1, .int x1)] → W p l e (RM 4 86) s m ([.ref (g.2.2.2 10)] : List Value).toArray below meth c H locs 0 0 (MQ below (PQ g (RI R)) ([.ref (g.2.2.2 10)] : List Value).toArray s 0 0 (AW g)) (F0 m 24 ls [])) := ⟨fun x1 M => _, fun _ _ => Iff.rfl⟩
  obtain ⟨X83, eX83⟩ : ∃ X : Int32 → Mem → Prop, ∀ (x1 : Int32) (M : Mem), X x1 M ↔ (∀ (H : Heap) (locs : List Loc) (ls : Array Slot), WP g M H → va_S (AW g) s.heap H locs → lv_has ls 3 [(0, .ref (g.2.2.2 10)), (1, .int x1)] → W p l e (RM 4 86) s m ([.ref (g.2.2.2 10)] : List Value).toArray below meth c H locs 0 0 (MQ below (PQ g (RI R)) ([.ref (g.2.2.2 10)] : List Value).toArray s 0 0 (AW g)) (F0 m 83 ls [])) := ⟨fun x1 M => _, fun _ _ => Iff.rfl⟩
  have J132 : ∀ (x1 : Int32) (M : Mem), wp_Text_firstFault_132 X24 X83 R x1 M → ∀ (H : Heap) (locs : List Loc) (ls : Array Slot), WP g M H → va_S (AW g) s.heap H locs → lv_has ls 3 [(0, .ref (g.2.2.2 10)), (1, .int x1)] → W p l e (RM 4 86) s m ([.ref (g.2.2.2 10)] : List Value).toArray below meth c H locs 0 0 (MQ below (PQ g (RI R)) ([.ref (g.2.2.2 10)] : List Value).toArray s 0 0 (AW g)) (F0 m 132 ls []) := by
    intro x1 M hk H locs ls hP hS hl
    unfold wp_Text_firstFault_132 at hk
    refine lv_aload_n hx hb d_Text_firstFault_132 rfl (lv_at hl 0 rfl) ?_
    refine gf_10_3 C hW hP fl_Text_22 d_Text_firstFault_133 ?_
    refine lv_if_le (tgt := 152) hx hb d_Text_firstFault_136 (by decide) (fun c20 => ?_) (fun c20 => ?_)
    · have hk := hk.1 c20
      refine lv_iload_n hx hb d_Text_firstFault_152 rfl (lv_at hl 1 rfl) ?_
      exact r_iret C hr hlocks hP hS hk d_Text_firstFault_153
    · have hk := hk.2 c20
      refine lv_iload_n hx hb d_Text_firstFault_139 rfl (lv_at hl 1 rfl) ?_
      refine lv_aload_n hx hb d_Text_firstFault_140 rfl (lv_at hl 0 rfl) ?_
      refine gf_10_1 C hW hP fl_Text_15 d_Text_firstFault_141 ?_
      refine lv_icmp_ne (tgt := 152) hx hb d_Text_firstFault_144 (by decide) (fun c21 => ?_) (fun c21 => ?_)
      · have hk := hk.1 c21
        refine lv_iload_n hx hb d_Text_firstFault_152 rfl (lv_at hl 1 rfl) ?_
        exact r_iret C hr hlocks hP hS hk d_Text_firstFault_153
      · have hk := hk.2 c21
        refine lv_bipush (v := -9) hx hb d_Text_firstFault_147 (by decide) ?_
        refine lv_goto (tgt := 153) hx hb d_Text_firstFault_149 (by decide) ?_
        exact r_iret C hr hlocks hP hS hk d_Text_firstFault_153
  have J74 : ∀ (x1 : Int32) (M : Mem), wp_Text_firstFault_74 X24 X83 R x1 M → ∀ (H : Heap) (locs : List Loc) (ls : Array Slot), WP g M H → va_S (AW g) s.heap H locs → lv_has ls 3 [(0, .ref (g.2.2.2 10)), (1, .int x1)] → W p l e (RM 4 86) s m ([.ref (g.2.2.2 10)] : List Value).toArray below meth c H locs 0 0 (MQ below (PQ g (RI R)) ([.ref (g.2.2.2 10)] : List Value).toArray s 0 0 (AW g)) (F0 m 74 ls []) := by
    intro x1 M hk H locs ls hP hS hl
    unfold wp_Text_firstFault_74 at hk
    refine lv_aload_n hx hb d_Text_firstFault_74 rfl (lv_at hl 0 rfl) ?_
    refine gf_10_2 C hW hP fl_Text_19 d_Text_firstFault_75 ?_
    refine lv_if_ne (tgt := 83) hx hb d_Text_firstFault_78 (by decide) (fun c10 => ?_) (fun c10 => ?_)
    · have hk := hk.1 c10
      exact (eX83 x1 M).mp hk _ _ _ hP hS (lv_sub hl [0, 1] rfl)
    · have hk := hk.2 c10
      refine lv_iload_n hx hb d_Text_firstFault_81 rfl (lv_at hl 1 rfl) ?_
      exact r_iret C hr hlocks hP hS hk d_Text_firstFault_82
  suffices hcl : (∀ (x1 : Int32) (M : Mem), wp_Text_firstFault_24 X24 X83 R x1 M → X24 x1 M) ∧ (∀ (x1 : Int32) (M : Mem), wp_Text_firstFault_83 X24 X83 R x1 M → X83 x1 M) by
    have hk := h X24 X83 (hcl.1) (hcl.2)
    refine lv_aload_n hx hb d_Text_firstFault_0 rfl (lv_at hl 0 rfl) ?_
    refine lv_iconst (v := 0) hx hb d_Text_firstFault_1 (by decide) ?_
    refine pf_10_2 hI C hW hP hS fl_Text_19 d_Text_firstFault_2 (fun M22 eM22 H locs hP hS => ?_)
    have hk := hk M22 eM22
    refine lv_aload_n hx hb d_Text_firstFault_5 rfl (lv_at hl 0 rfl) ?_
    refine lv_iconst (v := 0) hx hb d_Text_firstFault_6 (by decide) ?_
    refine pf_10_3 hI C hW hP hS fl_Text_22 d_Text_firstFault_7 (fun M23 eM23 H locs hP hS => ?_)
    have hk := hk M23 eM23
    refine lv_aload_n hx hb d_Text_firstFault_10 rfl (lv_at hl 0 rfl) ?_
    refine lv_iconst (v := 0) hx hb d_Text_firstFault_11 (by decide) ?_
    refine r_runI (k_V (As := [.int (0 : Int32)]) (rest := []) C hW hP (c_Text_codeAt hI (0 : Int32) M23 _ hk) cb_Text_codeAt ml_Text_36 (io_10 g M23) ⟨by decide, by decide⟩ rfl hl.1 rfl (Nat.le_of_ble_eq_true rfl) d_Text_firstFault_12 ⟨by decide, by decide⟩) hS (fun r25 M24 H locs hk hP hS => ?_)
    refine lv_bipush (v := 120) hx hb d_Text_firstFault_15 (by decide) ?_
    refine lv_icmp_eq (tgt := 22) hx hb d_Text_firstFault_17 (by decide) (fun c26 => ?_) (fun c26 => ?_)
    · have hk := hk.1 c26
      refine lv_iconst (v := 1) hx hb d_Text_firstFault_22 (by decide) ?_
      refine lv_istore_n (lv' := [(1, .int (1 : Int32)), (0, .ref (g.2.2.2 10))]) hx hb d_Text_firstFault_23 rfl hl (by decide) rfl (fun ls hl => ?_)
      exact (eX24 (1 : Int32) M24).mp hk _ _ _ hP hS (lv_sub hl [1, 0] rfl)
    · have hk := hk.2 c26
      refine lv_iconst (v := 0) hx hb d_Text_firstFault_20 (by decide) ?_
      exact r_iret C hr hlocks hP hS hk d_Text_firstFault_21
  refine ⟨?_, ?_⟩
  · intro x1 M hk
    refine (eX24 x1 M).mpr ?_
    intro H locs ls hP hS hl
    unfold wp_Text_firstFault_24 at hk
    refine lv_aload_n hx hb d_Text_firstFault_24 rfl (lv_at hl 0 rfl) ?_
    refine gf_10_2 C hW hP fl_Text_19 d_Text_firstFault_25 ?_
    refine lv_bipush (v := 6) hx hb d_Text_firstFault_28 (by decide) ?_
    refine lv_icmp_ge (tgt := 74) hx hb d_Text_firstFault_30 (by decide) (fun c1 => ?_) (fun c1 => ?_)
    · have hk := hk.1 c1
      exact J74 x1 M hk _ _ _ hP hS (lv_sub hl [0, 1] rfl)
    · have hk := hk.2 c1
      refine lv_aload_n hx hb d_Text_firstFault_33 rfl (lv_at hl 0 rfl) ?_
      refine lv_iload_n hx hb d_Text_firstFault_34 rfl (lv_at hl 1 rfl) ?_
      refine r_runI (k_V (As := [.int x1]) (rest := []) C hW hP (c_Text_codeAt hI x1 M _ hk) cb_Text_codeAt ml_Text_36 (io_10 g M) ⟨by decide, by decide⟩ rfl hl.1 rfl (Nat.le_of_ble_eq_true rfl) d_Text_firstFault_35 ⟨by decide, by decide⟩) hS (fun r3 M2 H locs hk hP hS => ?_)
      refine lv_bipush (v := 59) hx hb d_Text_firstFault_38 (by decide) ?_
      refine lv_icmp_ne (tgt := 74) hx hb d_Text_firstFault_40 (by decide) (fun c4 => ?_) (fun c4 => ?_)
      · have hk := hk.1 c4
        exact J74 x1 M2 hk _ _ _ hP hS (lv_sub hl [0, 1] rfl)
      · have hk := hk.2 c4
        refine lv_aload_n hx hb d_Text_firstFault_43 rfl (lv_at hl 0 rfl) ?_
        refine lv_iload_n hx hb d_Text_firstFault_44 rfl (lv_at hl 1 rfl) ?_
        refine r_runI (k_V (As := [.int x1]) (rest := []) C hW hP (c_Text_goodOfHouse hI x1 M2 _ hk) cb_Text_goodOfHouse ml_Text_40 (io_10 g M2) ⟨by decide, by decide⟩ rfl hl.1 rfl (Nat.le_of_ble_eq_true rfl) d_Text_firstFault_45 ⟨by decide, by decide⟩) hS (fun r6 M5 H locs hk hP hS => ?_)
        refine lv_istore_n (lv' := [(2, .int r6), (0, .ref (g.2.2.2 10)), (1, .int x1)]) hx hb d_Text_firstFault_48 rfl hl (by decide) rfl (fun ls hl => ?_)
        refine lv_iload_n hx hb d_Text_firstFault_49 rfl (lv_at hl 0 rfl) ?_
        refine lv_iconst (v := 5) hx hb d_Text_firstFault_50 (by decide) ?_
        refine lv_icmp_ge (tgt := 58) hx hb d_Text_firstFault_51 (by decide) (fun c7 => ?_) (fun c7 => ?_)
        · have hk := hk.1 c7
          refine lv_aload_n hx hb d_Text_firstFault_58 rfl (lv_at hl 1 rfl) ?_
          refine lv_dup hx hb d_Text_firstFault_59 rfl ?_
          refine gf_10_2 C hW hP fl_Text_19 d_Text_firstFault_60 ?_
          refine lv_iconst (v := 1) hx hb d_Text_firstFault_63 (by decide) ?_
          refine lv_iadd hx hb d_Text_firstFault_64 ?_
          refine pf_10_2 hI C hW hP hS fl_Text_19 d_Text_firstFault_65 (fun M8 eM8 H locs hP hS => ?_)
          have hk := hk M8 eM8
          obtain ⟨x1_9, ex1_9⟩ : ∃ y : Int32, y = x1 + (5 : Int32) := ⟨_, rfl⟩
          have hk := hk x1_9 ex1_9
          refine lv_iinc (v := x1_9) (lv' := [(1, .int x1_9), (2, .int r6), (0, .ref (g.2.2.2 10))]) hx hb d_Text_firstFault_68 hl (k := 2) rfl (by rw [ex1_9]; rfl) (by decide) rfl (fun ls hl => ?_)
          refine lv_goto (tgt := 24) hx hb d_Text_firstFault_71 (by decide) ?_
          exact (eX24 x1_9 M8).mp hk _ _ _ hP hS (lv_sub hl [2, 0] rfl)
        · have hk := hk.2 c7
          refine lv_iload_n hx hb d_Text_firstFault_54 rfl (lv_at hl 2 rfl) ?_
          refine lv_iload_n hx hb d_Text_firstFault_55 rfl (lv_at hl 0 rfl) ?_
          refine lv_iadd hx hb d_Text_firstFault_56 ?_
          exact r_iret C hr hlocks hP hS hk d_Text_firstFault_57
  · intro x1 M hk
    refine (eX83 x1 M).mpr ?_
    intro H locs ls hP hS hl
    unfold wp_Text_firstFault_83 at hk
    refine lv_aload_n hx hb d_Text_firstFault_83 rfl (lv_at hl 0 rfl) ?_
    refine gf_10_3 C hW hP fl_Text_22 d_Text_firstFault_84 ?_
    refine lv_iconst (v := 5) hx hb d_Text_firstFault_87 (by decide) ?_
    refine lv_icmp_ge (tgt := 132) hx hb d_Text_firstFault_88 (by decide) (fun c11 => ?_) (fun c11 => ?_)
    · have hk := hk.1 c11
      exact J132 x1 M hk _ _ _ hP hS (lv_sub hl [0, 1] rfl)
    · have hk := hk.2 c11
      refine lv_aload_n hx hb d_Text_firstFault_91 rfl (lv_at hl 0 rfl) ?_
      refine lv_iload_n hx hb d_Text_firstFault_92 rfl (lv_at hl 1 rfl) ?_
      refine r_runI (k_V (As := [.int x1]) (rest := []) C hW hP (c_Text_codeAt hI x1 M _ hk) cb_Text_codeAt ml_Text_36 (io_10 g M) ⟨by decide, by decide⟩ rfl hl.1 rfl (Nat.le_of_ble_eq_true rfl) d_Text_firstFault_93 ⟨by decide, by decide⟩) hS (fun r13 M12 H locs hk hP hS => ?_)
      refine lv_bipush (v := 44) hx hb d_Text_firstFault_96 (by decide) ?_
      refine lv_icmp_ne (tgt := 132) hx hb d_Text_firstFault_98 (by decide) (fun c14 => ?_) (fun c14 => ?_)
      · have hk := hk.1 c14
        exact J132 x1 M12 hk _ _ _ hP hS (lv_sub hl [0, 1] rfl)
      · have hk := hk.2 c14
        refine lv_aload_n hx hb d_Text_firstFault_101 rfl (lv_at hl 0 rfl) ?_
        refine lv_iload_n hx hb d_Text_firstFault_102 rfl (lv_at hl 1 rfl) ?_
        refine r_runI (k_V (As := [.int x1]) (rest := []) C hW hP (c_Text_goodOfGuest hI x1 M12 _ hk) cb_Text_goodOfGuest ml_Text_43 (io_10 g M12) ⟨by decide, by decide⟩ rfl hl.1 rfl (Nat.le_of_ble_eq_true rfl) d_Text_firstFault_103 ⟨by decide, by decide⟩) hS (fun r16 M15 H locs hk hP hS => ?_)
        refine lv_istore_n (lv' := [(2, .int r16), (0, .ref (g.2.2.2 10)), (1, .int x1)]) hx hb d_Text_firstFault_106 rfl hl (by decide) rfl (fun ls hl => ?_)
        refine lv_iload_n hx hb d_Text_firstFault_107 rfl (lv_at hl 0 rfl) ?_
        refine lv_iconst (v := 3) hx hb d_Text_firstFault_108 (by decide) ?_
        refine lv_icmp_ge (tgt := 116) hx hb d_Text_firstFault_109 (by decide) (fun c17 => ?_) (fun c17 => ?_)
        · have hk := hk.1 c17
          refine lv_aload_n hx hb d_Text_firstFault_116 rfl (lv_at hl 1 rfl) ?_
          refine lv_dup hx hb d_Text_firstFault_117 rfl ?_
          refine gf_10_3 C hW hP fl_Text_22 d_Text_firstFault_118 ?_
          refine lv_iconst (v := 1) hx hb d_Text_firstFault_121 (by decide) ?_
          refine lv_iadd hx hb d_Text_firstFault_122 ?_
          refine pf_10_3 hI C hW hP hS fl_Text_22 d_Text_firstFault_123 (fun M18 eM18 H locs hP hS => ?_)
          have hk := hk M18 eM18
          obtain ⟨x1_19, ex1_19⟩ : ∃ y : Int32, y = x1 + (3 : Int32) := ⟨_, rfl⟩
          have hk := hk x1_19 ex1_19
          refine lv_iinc (v := x1_19) (lv' := [(1, .int x1_19), (2, .int r16), (0, .ref (g.2.2.2 10))]) hx hb d_Text_firstFault_126 hl (k := 2) rfl (by rw [ex1_19]; rfl) (by decide) rfl (fun ls hl => ?_)
          refine lv_goto (tgt := 83) hx hb d_Text_firstFault_129 (by decide) ?_
          exact (eX83 x1_19 M18).mp hk _ _ _ hP hS (lv_sub hl [2, 0] rfl)
        · have hk := hk.2 c17
          refine lv_iload_n hx hb d_Text_firstFault_112 rfl (lv_at hl 2 rfl) ?_
          refine lv_iload_n hx hb d_Text_firstFault_113 rfl (lv_at hl 0 rfl) ?_
          refine lv_iadd hx hb d_Text_firstFault_114 ?_
          exact r_iret C hr hlocks hP hS hk d_Text_firstFault_115
theorem d_Text_placeOfHouse_0 : decode b_Text_placeOfHouse 0 = .ok (.iconst 1, 1) := by decide +kernel
theorem d_Text_placeOfHouse_1 : decode b_Text_placeOfHouse 1 = .ok (.iconst 5, 1) := by decide +kernel
theorem d_Text_placeOfHouse_2 : decode b_Text_placeOfHouse 2 = .ok (.iload_n 1, 1) := by decide +kernel
theorem d_Text_placeOfHouse_3 : decode b_Text_placeOfHouse 3 = .ok (.imul, 1) := by decide +kernel
theorem d_Text_placeOfHouse_4 : decode b_Text_placeOfHouse 4 = .ok (.iadd, 1) := by decide +kernel
theorem d_Text_placeOfHouse_5 : decode b_Text_placeOfHouse 5 = .ok (.ireturn, 1) := by decide +kernel
set_option maxRecDepth 20000 in
theorem c_Text_placeOfHouse {l : Launch} {g : GG} (hI : WI g) (a1 : Int32) (M : Mem) (R : Int32 → Mem → Prop) (h : wp_Text_placeOfHouse a1 M R) : Met l y_Text_placeOfHouse (wm y_Text_placeOfHouse b_Text_placeOfHouse 2 (some .int)) (RM 0 0) (PP g M [.ref (g.2.2.2 10), .int a1]) (PQ g (RI R)) 0 0 (AW g) := by
  refine m_of (own := N_Text) (by decide) rfl (Nat.le_of_ble_eq_true rfl) ?_
  intro p e s m below meth c ls C hr hlocks hW hP hS hl
  obtain ⟨hx, hb, hml, hown, hts⟩ := id C
  have hl : lv_has ls 2 [(0, .ref (g.2.2.2 10)), (1, .int a1)] := hl
  unfold wp_Text_placeOfHouse at h
  have hk := h
  refine lv_iconst (v := 1) hx hb d_Text_placeOfHouse_0 (by decide) ?_
  refine lv_iconst (v := 5) hx hb d_Text_placeOfHouse_1 (by decide) ?_
  refine lv_iload_n hx hb d_Text_placeOfHouse_2 rfl (lv_at hl 1 rfl) ?_
  refine lv_imul hx hb d_Text_placeOfHouse_3 ?_
  refine lv_iadd hx hb d_Text_placeOfHouse_4 ?_
  exact r_iret C hr hlocks hP hS hk d_Text_placeOfHouse_5
theorem d_Text_kindOfHouse_0 : decode b_Text_kindOfHouse 0 = .ok (.aload_n 0, 1) := by decide +kernel
theorem d_Text_kindOfHouse_1 : decode b_Text_kindOfHouse 1 = .ok (.aload_n 0, 1) := by decide +kernel
theorem d_Text_kindOfHouse_2 : decode b_Text_kindOfHouse 2 = .ok (.iload_n 1, 1) := by decide +kernel
theorem d_Text_kindOfHouse_3 : decode b_Text_kindOfHouse 3 = .ok (.invokevirtual 46, 3) := by decide +kernel
theorem d_Text_kindOfHouse_6 : decode b_Text_kindOfHouse 6 = .ok (.iconst 1, 1) := by decide +kernel
theorem d_Text_kindOfHouse_7 : decode b_Text_kindOfHouse 7 = .ok (.iadd, 1) := by decide +kernel
theorem d_Text_kindOfHouse_8 : decode b_Text_kindOfHouse 8 = .ok (.invokevirtual 49, 3) := by decide +kernel
theorem d_Text_kindOfHouse_11 : decode b_Text_kindOfHouse 11 = .ok (.ireturn, 1) := by decide +kernel
set_option maxRecDepth 20000 in
theorem c_Text_kindOfHouse {l : Launch} {g : GG} (hI : WI g) (a1 : Int32) (M : Mem) (R : Int32 → Mem → Prop) (h : wp_Text_kindOfHouse a1 M R) : Met l y_Text_kindOfHouse (wm y_Text_kindOfHouse b_Text_kindOfHouse 2 (some .int)) (RM 3 63) (PP g M [.ref (g.2.2.2 10), .int a1]) (PQ g (RI R)) 0 0 (AW g) := by
  refine m_of (own := N_Text) (by decide) rfl (Nat.le_of_ble_eq_true rfl) ?_
  intro p e s m below meth c ls C hr hlocks hW hP hS hl
  obtain ⟨hx, hb, hml, hown, hts⟩ := id C
  have hl : lv_has ls 2 [(0, .ref (g.2.2.2 10)), (1, .int a1)] := hl
  unfold wp_Text_kindOfHouse at h
  have hk := h
  refine lv_aload_n hx hb d_Text_kindOfHouse_0 rfl (lv_at hl 0 rfl) ?_
  refine lv_aload_n hx hb d_Text_kindOfHouse_1 rfl (lv_at hl 0 rfl) ?_
  refine lv_iload_n hx hb d_Text_kindOfHouse_2 rfl (lv_at hl 1 rfl) ?_
  refine r_runI (k_V (As := [.int a1]) (rest := [.ref (g.2.2.2 10)]) C hW hP (c_Text_placeOfHouse hI a1 M _ hk) cb_Text_placeOfHouse ml_Text_46 (io_10 g M) ⟨by decide, by decide⟩ rfl hl.1 rfl (Nat.le_of_ble_eq_true rfl) d_Text_kindOfHouse_3 ⟨by decide, by decide⟩) hS (fun r2 M1 H locs hk hP hS => ?_)
  refine lv_iconst (v := 1) hx hb d_Text_kindOfHouse_6 (by decide) ?_
  refine lv_iadd hx hb d_Text_kindOfHouse_7 ?_
  refine r_runI (k_V (As := [.int (r2 + (1 : Int32))]) (rest := []) C hW hP (c_Text_kindAt hI (r2 + (1 : Int32)) M1 _ hk) cb_Text_kindAt ml_Text_49 (io_10 g M1) ⟨by decide, by decide⟩ rfl hl.1 rfl (Nat.le_of_ble_eq_true rfl) d_Text_kindOfHouse_8 ⟨by decide, by decide⟩) hS (fun r4 M3 H locs hk hP hS => ?_)
  exact r_iret C hr hlocks hP hS hk d_Text_kindOfHouse_11
theorem d_Text_digitOfHouse_0 : decode b_Text_digitOfHouse 0 = .ok (.aload_n 0, 1) := by decide +kernel
theorem d_Text_digitOfHouse_1 : decode b_Text_digitOfHouse 1 = .ok (.aload_n 0, 1) := by decide +kernel
theorem d_Text_digitOfHouse_2 : decode b_Text_digitOfHouse 2 = .ok (.iload_n 1, 1) := by decide +kernel
theorem d_Text_digitOfHouse_3 : decode b_Text_digitOfHouse 3 = .ok (.invokevirtual 46, 3) := by decide +kernel
theorem d_Text_digitOfHouse_6 : decode b_Text_digitOfHouse 6 = .ok (.iconst 2, 1) := by decide +kernel
theorem d_Text_digitOfHouse_7 : decode b_Text_digitOfHouse 7 = .ok (.iadd, 1) := by decide +kernel
theorem d_Text_digitOfHouse_8 : decode b_Text_digitOfHouse 8 = .ok (.iload_n 2, 1) := by decide +kernel
theorem d_Text_digitOfHouse_9 : decode b_Text_digitOfHouse 9 = .ok (.iadd, 1) := by decide +kernel
theorem d_Text_digitOfHouse_10 : decode b_Text_digitOfHouse 10 = .ok (.invokevirtual 52, 3) := by decide +kernel
theorem d_Text_digitOfHouse_13 : decode b_Text_digitOfHouse 13 = .ok (.ireturn, 1) := by decide +kernel
set_option maxRecDepth 20000 in
theorem c_Text_digitOfHouse {l : Launch} {g : GG} (hI : WI g) (a1 : Int32) (a2 : Int32) (M : Mem) (R : Int32 → Mem → Prop) (h : wp_Text_digitOfHouse a1 a2 M R) : Met l y_Text_digitOfHouse (wm y_Text_digitOfHouse b_Text_digitOfHouse 3 (some .int)) (RM 3 63) (PP g M [.ref (g.2.2.2 10), .int a1, .int a2]) (PQ g (RI R)) 0 0 (AW g) := by
  refine m_of (own := N_Text) (by decide) rfl (Nat.le_of_ble_eq_true rfl) ?_
  intro p e s m below meth c ls C hr hlocks hW hP hS hl
  obtain ⟨hx, hb, hml, hown, hts⟩ := id C
  have hl : lv_has ls 3 [(0, .ref (g.2.2.2 10)), (1, .int a1), (2, .int a2)] := hl
  unfold wp_Text_digitOfHouse at h
  have hk := h
  refine lv_aload_n hx hb d_Text_digitOfHouse_0 rfl (lv_at hl 0 rfl) ?_
  refine lv_aload_n hx hb d_Text_digitOfHouse_1 rfl (lv_at hl 0 rfl) ?_
  refine lv_iload_n hx hb d_Text_digitOfHouse_2 rfl (lv_at hl 1 rfl) ?_
  refine r_runI (k_V (As := [.int a1]) (rest := [.ref (g.2.2.2 10)]) C hW hP (c_Text_placeOfHouse hI a1 M _ hk) cb_Text_placeOfHouse ml_Text_46 (io_10 g M) ⟨by decide, by decide⟩ rfl hl.1 rfl (Nat.le_of_ble_eq_true rfl) d_Text_digitOfHouse_3 ⟨by decide, by decide⟩) hS (fun r2 M1 H locs hk hP hS => ?_)
  refine lv_iconst (v := 2) hx hb d_Text_digitOfHouse_6 (by decide) ?_
  refine lv_iadd hx hb d_Text_digitOfHouse_7 ?_
  refine lv_iload_n hx hb d_Text_digitOfHouse_8 rfl (lv_at hl 2 rfl) ?_
  refine lv_iadd hx hb d_Text_digitOfHouse_9 ?_
  refine r_runI (k_V (As := [.int ((r2 + (2 : Int32)) + a2)]) (rest := []) C hW hP (c_Text_digitAt hI ((r2 + (2 : Int32)) + a2) M1 _ hk) cb_Text_digitAt ml_Text_52 (io_10 g M1) ⟨by decide, by decide⟩ rfl hl.1 rfl (Nat.le_of_ble_eq_true rfl) d_Text_digitOfHouse_10 ⟨by decide, by decide⟩) hS (fun r4 M3 H locs hk hP hS => ?_)
  exact r_iret C hr hlocks hP hS hk d_Text_digitOfHouse_13
theorem d_Text_gearOfGuest_0 : decode b_Text_gearOfGuest 0 = .ok (.aload_n 0, 1) := by decide +kernel
theorem d_Text_gearOfGuest_1 : decode b_Text_gearOfGuest 1 = .ok (.aload_n 0, 1) := by decide +kernel
theorem d_Text_gearOfGuest_2 : decode b_Text_gearOfGuest 2 = .ok (.getfield 19, 3) := by decide +kernel
theorem d_Text_gearOfGuest_5 : decode b_Text_gearOfGuest 5 = .ok (.invokevirtual 46, 3) := by decide +kernel
theorem d_Text_gearOfGuest_8 : decode b_Text_gearOfGuest 8 = .ok (.iconst 3, 1) := by decide +kernel
theorem d_Text_gearOfGuest_9 : decode b_Text_gearOfGuest 9 = .ok (.iload_n 1, 1) := by decide +kernel
theorem d_Text_gearOfGuest_10 : decode b_Text_gearOfGuest 10 = .ok (.imul, 1) := by decide +kernel
theorem d_Text_gearOfGuest_11 : decode b_Text_gearOfGuest 11 = .ok (.iadd, 1) := by decide +kernel
theorem d_Text_gearOfGuest_12 : decode b_Text_gearOfGuest 12 = .ok (.istore_n 2, 1) := by decide +kernel
theorem d_Text_gearOfGuest_13 : decode b_Text_gearOfGuest 13 = .ok (.bipush 10, 2) := by decide +kernel
theorem d_Text_gearOfGuest_15 : decode b_Text_gearOfGuest 15 = .ok (.aload_n 0, 1) := by decide +kernel
theorem d_Text_gearOfGuest_16 : decode b_Text_gearOfGuest 16 = .ok (.iload_n 2, 1) := by decide +kernel
theorem d_Text_gearOfGuest_17 : decode b_Text_gearOfGuest 17 = .ok (.iconst 1, 1) := by decide +kernel
theorem d_Text_gearOfGuest_18 : decode b_Text_gearOfGuest 18 = .ok (.iadd, 1) := by decide +kernel
theorem d_Text_gearOfGuest_19 : decode b_Text_gearOfGuest 19 = .ok (.invokevirtual 52, 3) := by decide +kernel
theorem d_Text_gearOfGuest_22 : decode b_Text_gearOfGuest 22 = .ok (.imul, 1) := by decide +kernel
theorem d_Text_gearOfGuest_23 : decode b_Text_gearOfGuest 23 = .ok (.aload_n 0, 1) := by decide +kernel
theorem d_Text_gearOfGuest_24 : decode b_Text_gearOfGuest 24 = .ok (.iload_n 2, 1) := by decide +kernel
theorem d_Text_gearOfGuest_25 : decode b_Text_gearOfGuest 25 = .ok (.iconst 2, 1) := by decide +kernel
theorem d_Text_gearOfGuest_26 : decode b_Text_gearOfGuest 26 = .ok (.iadd, 1) := by decide +kernel
theorem d_Text_gearOfGuest_27 : decode b_Text_gearOfGuest 27 = .ok (.invokevirtual 52, 3) := by decide +kernel
theorem d_Text_gearOfGuest_30 : decode b_Text_gearOfGuest 30 = .ok (.iadd, 1) := by decide +kernel
theorem d_Text_gearOfGuest_31 : decode b_Text_gearOfGuest 31 = .ok (.ireturn, 1) := by decide +kernel
set_option maxRecDepth 20000 in
theorem c_Text_gearOfGuest {l : Launch} {g : GG} (hI : WI g) (a1 : Int32) (M : Mem) (R : Int32 → Mem → Prop) (h : wp_Text_gearOfGuest a1 M R) : Met l y_Text_gearOfGuest (wm y_Text_gearOfGuest b_Text_gearOfGuest 3 (some .int)) (RM 3 63) (PP g M [.ref (g.2.2.2 10), .int a1]) (PQ g (RI R)) 0 0 (AW g) := by
  refine m_of (own := N_Text) (by decide) rfl (Nat.le_of_ble_eq_true rfl) ?_
  intro p e s m below meth c ls C hr hlocks hW hP hS hl
  obtain ⟨hx, hb, hml, hown, hts⟩ := id C
  have hl : lv_has ls 3 [(0, .ref (g.2.2.2 10)), (1, .int a1)] := hl
  unfold wp_Text_gearOfGuest at h
  have hk := h
  refine lv_aload_n hx hb d_Text_gearOfGuest_0 rfl (lv_at hl 0 rfl) ?_
  refine lv_aload_n hx hb d_Text_gearOfGuest_1 rfl (lv_at hl 0 rfl) ?_
  refine gf_10_2 C hW hP fl_Text_19 d_Text_gearOfGuest_2 ?_
  refine r_runI (k_V (As := [.int (M 10 2)]) (rest := []) C hW hP (c_Text_placeOfHouse hI (M 10 2) M _ hk) cb_Text_placeOfHouse ml_Text_46 (io_10 g M) ⟨by decide, by decide⟩ rfl hl.1 rfl (Nat.le_of_ble_eq_true rfl) d_Text_gearOfGuest_5 ⟨by decide, by decide⟩) hS (fun r2 M1 H locs hk hP hS => ?_)
  refine lv_iconst (v := 3) hx hb d_Text_gearOfGuest_8 (by decide) ?_
  refine lv_iload_n hx hb d_Text_gearOfGuest_9 rfl (lv_at hl 1 rfl) ?_
  refine lv_imul hx hb d_Text_gearOfGuest_10 ?_
  refine lv_iadd hx hb d_Text_gearOfGuest_11 ?_
  refine lv_topi (fun x2_3 ex2_3 => ?_)
  have hk := hk x2_3 ex2_3
  refine lv_istore_n (lv' := [(2, .int x2_3), (0, .ref (g.2.2.2 10)), (1, .int a1)]) hx hb d_Text_gearOfGuest_12 rfl hl (by decide) rfl (fun ls hl => ?_)
  refine lv_bipush (v := 10) hx hb d_Text_gearOfGuest_13 (by decide) ?_
  refine lv_aload_n hx hb d_Text_gearOfGuest_15 rfl (lv_at hl 1 rfl) ?_
  refine lv_iload_n hx hb d_Text_gearOfGuest_16 rfl (lv_at hl 0 rfl) ?_
  refine lv_iconst (v := 1) hx hb d_Text_gearOfGuest_17 (by decide) ?_
  refine lv_iadd hx hb d_Text_gearOfGuest_18 ?_
  refine r_runI (k_V (As := [.int (x2_3 + (1 : Int32))]) (rest := [.int (10 : Int32)]) C hW hP (c_Text_digitAt hI (x2_3 + (1 : Int32)) M1 _ hk) cb_Text_digitAt ml_Text_52 (io_10 g M1) ⟨by decide, by decide⟩ rfl hl.1 rfl (Nat.le_of_ble_eq_true rfl) d_Text_gearOfGuest_19 ⟨by decide, by decide⟩) hS (fun r5 M4 H locs hk hP hS => ?_)
  refine lv_imul hx hb d_Text_gearOfGuest_22 ?_
  refine lv_aload_n hx hb d_Text_gearOfGuest_23 rfl (lv_at hl 1 rfl) ?_
  refine lv_iload_n hx hb d_Text_gearOfGuest_24 rfl (lv_at hl 0 rfl) ?_
  refine lv_iconst (v := 2) hx hb d_Text_gearOfGuest_25 (by decide) ?_
  refine lv_iadd hx hb d_Text_gearOfGuest_26 ?_
  refine r_runI (k_V (As := [.int (x2_3 + (2 : Int32))]) (rest := [.int ((10 : Int32) * r5)]) C hW hP (c_Text_digitAt hI (x2_3 + (2 : Int32)) M4 _ hk) cb_Text_digitAt ml_Text_52 (io_10 g M4) ⟨by decide, by decide⟩ rfl hl.1 rfl (Nat.le_of_ble_eq_true rfl) d_Text_gearOfGuest_27 ⟨by decide, by decide⟩) hS (fun r7 M6 H locs hk hP hS => ?_)
  refine lv_iadd hx hb d_Text_gearOfGuest_30 ?_
  exact r_iret C hr hlocks hP hS hk d_Text_gearOfGuest_31
theorem d_Way_become_0 : decode b_Way_become 0 = .ok (.aload_n 0, 1) := by decide +kernel
theorem d_Way_become_1 : decode b_Way_become 1 = .ok (.aload_n 1, 1) := by decide +kernel
theorem d_Way_become_2 : decode b_Way_become 2 = .ok (.getfield 37, 3) := by decide +kernel
theorem d_Way_become_5 : decode b_Way_become 5 = .ok (.putfield 27, 3) := by decide +kernel
theorem d_Way_become_8 : decode b_Way_become 8 = .ok (.aload_n 0, 1) := by decide +kernel
theorem d_Way_become_9 : decode b_Way_become 9 = .ok (.aload_n 1, 1) := by decide +kernel
theorem d_Way_become_10 : decode b_Way_become 10 = .ok (.getfield 40, 3) := by decide +kernel
theorem d_Way_become_13 : decode b_Way_become 13 = .ok (.putfield 31, 3) := by decide +kernel
theorem d_Way_become_16 : decode b_Way_become 16 = .ok (.iconst 0, 1) := by decide +kernel
theorem d_Way_become_17 : decode b_Way_become 17 = .ok (.istore_n 2, 1) := by decide +kernel
theorem d_Way_become_18 : decode b_Way_become 18 = .ok (.iload_n 2, 1) := by decide +kernel
theorem d_Way_become_19 : decode b_Way_become 19 = .ok (.aload_n 0, 1) := by decide +kernel
theorem d_Way_become_20 : decode b_Way_become 20 = .ok (.getfield 27, 3) := by decide +kernel
theorem d_Way_become_23 : decode b_Way_become 23 = .ok (.if_icmp .ge 56, 3) := by decide +kernel
theorem d_Way_become_26 : decode b_Way_become 26 = .ok (.aload_n 0, 1) := by decide +kernel
theorem d_Way_become_27 : decode b_Way_become 27 = .ok (.getfield 9, 3) := by decide +kernel
theorem d_Way_become_30 : decode b_Way_become 30 = .ok (.iload_n 2, 1) := by decide +kernel
theorem d_Way_become_31 : decode b_Way_become 31 = .ok (.aload_n 1, 1) := by decide +kernel
theorem d_Way_become_32 : decode b_Way_become 32 = .ok (.iload_n 2, 1) := by decide +kernel
theorem d_Way_become_33 : decode b_Way_become 33 = .ok (.invokevirtual 41, 3) := by decide +kernel
theorem d_Way_become_36 : decode b_Way_become 36 = .ok (.iastore, 1) := by decide +kernel
theorem d_Way_become_37 : decode b_Way_become 37 = .ok (.aload_n 0, 1) := by decide +kernel
theorem d_Way_become_38 : decode b_Way_become 38 = .ok (.getfield 15, 3) := by decide +kernel
theorem d_Way_become_41 : decode b_Way_become 41 = .ok (.iload_n 2, 1) := by decide +kernel
theorem d_Way_become_42 : decode b_Way_become 42 = .ok (.aload_n 1, 1) := by decide +kernel
theorem d_Way_become_43 : decode b_Way_become 43 = .ok (.iload_n 2, 1) := by decide +kernel
theorem d_Way_become_44 : decode b_Way_become 44 = .ok (.iconst 0, 1) := by decide +kernel
theorem d_Way_become_45 : decode b_Way_become 45 = .ok (.invokevirtual 45, 3) := by decide +kernel
theorem d_Way_become_48 : decode b_Way_become 48 = .ok (.iastore, 1) := by decide +kernel
theorem d_Way_become_49 : decode b_Way_become 49 = .ok (.aload_n 0, 1) := by decide +kernel
theorem d_Way_become_50 : decode b_Way_become 50 = .ok (.getfield 18, 3) := by decide +kernel
theorem d_Way_become_53 : decode b_Way_become 53 = .ok (.iload_n 2, 1) := by decide +kernel
theorem d_Way_become_54 : decode b_Way_become 54 = .ok (.aload_n 1, 1) := by decide +kernel
theorem d_Way_become_55 : decode b_Way_become 55 = .ok (.iload_n 2, 1) := by decide +kernel
theorem d_Way_become_56 : decode b_Way_become 56 = .ok (.iconst 1, 1) := by decide +kernel
theorem d_Way_become_57 : decode b_Way_become 57 = .ok (.invokevirtual 45, 3) := by decide +kernel
theorem d_Way_become_60 : decode b_Way_become 60 = .ok (.iastore, 1) := by decide +kernel
theorem d_Way_become_61 : decode b_Way_become 61 = .ok (.aload_n 0, 1) := by decide +kernel
theorem d_Way_become_62 : decode b_Way_become 62 = .ok (.getfield 21, 3) := by decide +kernel
theorem d_Way_become_65 : decode b_Way_become 65 = .ok (.iload_n 2, 1) := by decide +kernel
theorem d_Way_become_66 : decode b_Way_become 66 = .ok (.aload_n 1, 1) := by decide +kernel
theorem d_Way_become_67 : decode b_Way_become 67 = .ok (.iload_n 2, 1) := by decide +kernel
theorem d_Way_become_68 : decode b_Way_become 68 = .ok (.iconst 2, 1) := by decide +kernel
theorem d_Way_become_69 : decode b_Way_become 69 = .ok (.invokevirtual 45, 3) := by decide +kernel
theorem d_Way_become_72 : decode b_Way_become 72 = .ok (.iastore, 1) := by decide +kernel
theorem d_Way_become_73 : decode b_Way_become 73 = .ok (.iinc 2 1, 3) := by decide +kernel
theorem d_Way_become_76 : decode b_Way_become 76 = .ok (.goto (-58), 3) := by decide +kernel
theorem d_Way_become_79 : decode b_Way_become 79 = .ok (.iconst 0, 1) := by decide +kernel
theorem d_Way_become_80 : decode b_Way_become 80 = .ok (.istore_n 2, 1) := by decide +kernel
theorem d_Way_become_81 : decode b_Way_become 81 = .ok (.iload_n 2, 1) := by decide +kernel
theorem d_Way_become_82 : decode b_Way_become 82 = .ok (.aload_n 0, 1) := by decide +kernel
theorem d_Way_become_83 : decode b_Way_become 83 = .ok (.getfield 31, 3) := by decide +kernel
theorem d_Way_become_86 : decode b_Way_become 86 = .ok (.if_icmp .ge 20, 3) := by decide +kernel
theorem d_Way_become_89 : decode b_Way_become 89 = .ok (.aload_n 0, 1) := by decide +kernel
theorem d_Way_become_90 : decode b_Way_become 90 = .ok (.getfield 24, 3) := by decide +kernel
theorem d_Way_become_93 : decode b_Way_become 93 = .ok (.iload_n 2, 1) := by decide +kernel
theorem d_Way_become_94 : decode b_Way_become 94 = .ok (.aload_n 1, 1) := by decide +kernel
theorem d_Way_become_95 : decode b_Way_become 95 = .ok (.iload_n 2, 1) := by decide +kernel
theorem d_Way_become_96 : decode b_Way_become 96 = .ok (.invokevirtual 49, 3) := by decide +kernel
theorem d_Way_become_99 : decode b_Way_become 99 = .ok (.iastore, 1) := by decide +kernel
theorem d_Way_become_100 : decode b_Way_become 100 = .ok (.iinc 2 1, 3) := by decide +kernel
theorem d_Way_become_103 : decode b_Way_become 103 = .ok (.goto (-22), 3) := by decide +kernel
theorem d_Way_become_106 : decode b_Way_become 106 = .ok (.return_, 1) := by decide +kernel
set_option maxRecDepth 20000 in
theorem c_Way_become {l : Launch} {g : GG} (hI : WI g) (M : Mem) (R : Mem → Prop) (h : wp_Way_become  M R) : Met l y_Way_become (wm y_Way_become b_Way_become 3 none) (RM 4 85) (PP g M [.ref (g.2.2.2 12), .ref (g.2.2.2 10)]) (PQ g (RV R)) 0 0 (AW g) := by
  refine m_of (own := N_Way) (by decide) rfl (Nat.le_of_ble_eq_true rfl) ?_
  intro p e s m below meth c ls C hr hlocks hW hP hS hl
  obtain ⟨hx, hb, hml, hown, hts⟩ := id C
  have hl : lv_has ls 3 [(0, .ref (g.2.2.2 12)), (1, .ref (g.2.2.2 10))] := hl
  unfold wp_Way_become at h
  obtain ⟨X18, eX18⟩ : ∃ X : Int32 → Mem → Prop, ∀ (x2 : Int32) (M : Mem), X x2 M ↔ (∀ (H : Heap) (locs : List Loc) (ls : Array Slot), WP g M H → va_S (AW g) s.heap H locs → lv_has ls 3 [(0, .ref (g.2.2.2 12)), (1, .ref (g.2.2.2 10)), (2, .int x2)] → W p l e (RM 4 85) s m ([.ref (g.2.2.2 12), .ref (g.2.2.2 10)] : List Value).toArray below meth c H locs 0 0 (MQ below (PQ g (RV R)) ([.ref (g.2.2.2 12), .ref (g.2.2.2 10)] : List Value).toArray s 0 0 (AW g)) (F0 m 18 ls [])) := ⟨fun x2 M => _, fun _ _ => Iff.rfl⟩
  obtain ⟨X81, eX81⟩ : ∃ X : Int32 → Mem → Prop, ∀ (x2 : Int32) (M : Mem), X x2 M ↔ (∀ (H : Heap) (locs : List Loc) (ls : Array Slot), WP g M H → va_S (AW g) s.heap H locs → lv_has ls 3 [(0, .ref (g.2.2.2 12)), (1, .ref (g.2.2.2 10)), (2, .int x2)] → W p l e (RM 4 85) s m ([.ref (g.2.2.2 12), .ref (g.2.2.2 10)] : List Value).toArray below meth c H locs 0 0 (MQ below (PQ g (RV R)) ([.ref (g.2.2.2 12), .ref (g.2.2.2 10)] : List Value).toArray s 0 0 (AW g)) (F0 m 81 ls [])) := ⟨fun x2 M => _, fun _ _ => Iff.rfl⟩
  suffices hcl : (∀ (x2 : Int32) (M : Mem), wp_Way_become_18 X18 X81 R x2 M → X18 x2 M) ∧ (∀ (x2 : Int32) (M : Mem), wp_Way_become_81 X18 X81 R x2 M → X81 x2 M) by
    have hk := h X18 X81 (hcl.1) (hcl.2)
    refine lv_aload_n hx hb d_Way_become_0 rfl (lv_at hl 0 rfl) ?_
    refine lv_aload_n hx hb d_Way_become_1 rfl (lv_at hl 1 rfl) ?_
    refine gf_10_2 C hW hP fl_Way_37 d_Way_become_2 ?_
    refine pf_12_5 hI C hW hP hS fl_Way_27 d_Way_become_5 (fun M25 eM25 H locs hP hS => ?_)
    have hk := hk M25 eM25
    refine lv_aload_n hx hb d_Way_become_8 rfl (lv_at hl 0 rfl) ?_
    refine lv_aload_n hx hb d_Way_become_9 rfl (lv_at hl 1 rfl) ?_
    refine gf_10_3 C hW hP fl_Way_40 d_Way_become_10 ?_
    refine pf_12_6 hI C hW hP hS fl_Way_31 d_Way_become_13 (fun M26 eM26 H locs hP hS => ?_)
    have hk := hk M26 eM26
    refine lv_iconst (v := 0) hx hb d_Way_become_16 (by decide) ?_
    refine lv_istore_n (lv' := [(2, .int (0 : Int32)), (0, .ref (g.2.2.2 12)), (1, .ref (g.2.2.2 10))]) hx hb d_Way_become_17 rfl hl (by decide) rfl (fun ls hl => ?_)
    exact (eX18 (0 : Int32) M26).mp hk _ _ _ hP hS (lv_sub hl [1, 2, 0] rfl)
  refine ⟨?_, ?_⟩
  · intro x2 M hk
    refine (eX18 x2 M).mpr ?_
    intro H locs ls hP hS hl
    unfold wp_Way_become_18 at hk
    refine lv_iload_n hx hb d_Way_become_18 rfl (lv_at hl 2 rfl) ?_
    refine lv_aload_n hx hb d_Way_become_19 rfl (lv_at hl 0 rfl) ?_
    refine gf_12_5 C hW hP fl_Way_27 d_Way_become_20 ?_
    refine lv_icmp_ge (tgt := 79) hx hb d_Way_become_23 (by decide) (fun c1 => ?_) (fun c1 => ?_)
    · have hk := hk.1 c1
      refine lv_iconst (v := 0) hx hb d_Way_become_79 (by decide) ?_
      refine lv_istore_n (lv' := [(2, .int (0 : Int32)), (0, .ref (g.2.2.2 12)), (1, .ref (g.2.2.2 10))]) hx hb d_Way_become_80 rfl hl (by decide) rfl (fun ls hl => ?_)
      exact (eX81 (0 : Int32) M).mp hk _ _ _ hP hS (lv_sub hl [1, 2, 0] rfl)
    · have hk := hk.2 c1
      refine lv_aload_n hx hb d_Way_become_26 rfl (lv_at hl 0 rfl) ?_
      refine gf_12_0 C hW hP fl_Way_9 d_Way_become_27 ?_
      refine lv_iload_n hx hb d_Way_become_30 rfl (lv_at hl 2 rfl) ?_
      refine lv_aload_n hx hb d_Way_become_31 rfl (lv_at hl 1 rfl) ?_
      refine lv_iload_n hx hb d_Way_become_32 rfl (lv_at hl 2 rfl) ?_
      refine r_runI (k_V (As := [.int x2]) (rest := [.int x2, .ref (g.2.2.2 13)]) C hW hP (c_Text_kindOfHouse hI x2 M _ hk) cb_Text_kindOfHouse ml_Way_41 (io_10 g M) ⟨by decide, by decide⟩ rfl hl.1 rfl (Nat.le_of_ble_eq_true rfl) d_Way_become_33 ⟨by decide, by decide⟩) hS (fun r3 M2 H locs hk hP hS => ?_)
      obtain ⟨h4, hk⟩ := hk
      refine as_13 hI C hW hP hS h4 d_Way_become_36 (fun M5 eM5 H locs hP hS => ?_)
      have hk := hk M5 eM5
      refine lv_aload_n hx hb d_Way_become_37 rfl (lv_at hl 0 rfl) ?_
      refine gf_12_1 C hW hP fl_Way_15 d_Way_become_38 ?_
      refine lv_iload_n hx hb d_Way_become_41 rfl (lv_at hl 2 rfl) ?_
      refine lv_aload_n hx hb d_Way_become_42 rfl (lv_at hl 1 rfl) ?_
      refine lv_iload_n hx hb d_Way_become_43 rfl (lv_at hl 2 rfl) ?_
      refine lv_iconst (v := 0) hx hb d_Way_become_44 (by decide) ?_
      refine r_runI (k_V (As := [.int x2, .int (0 : Int32)]) (rest := [.int x2, .ref (g.2.2.2 14)]) C hW hP (c_Text_digitOfHouse hI x2 (0 : Int32) M5 _ hk) cb_Text_digitOfHouse ml_Way_45 (io_10 g M5) ⟨by decide, by decide⟩ rfl hl.1 rfl (Nat.le_of_ble_eq_true rfl) d_Way_become_45 ⟨by decide, by decide⟩) hS (fun r7 M6 H locs hk hP hS => ?_)
      obtain ⟨h8, hk⟩ := hk
      refine as_14 hI C hW hP hS h8 d_Way_become_48 (fun M9 eM9 H locs hP hS => ?_)
      have hk := hk M9 eM9
      refine lv_aload_n hx hb d_Way_become_49 rfl (lv_at hl 0 rfl) ?_
      refine gf_12_2 C hW hP fl_Way_18 d_Way_become_50 ?_
      refine lv_iload_n hx hb d_Way_become_53 rfl (lv_at hl 2 rfl) ?_
      refine lv_aload_n hx hb d_Way_become_54 rfl (lv_at hl 1 rfl) ?_
      refine lv_iload_n hx hb d_Way_become_55 rfl (lv_at hl 2 rfl) ?_
      refine lv_iconst (v := 1) hx hb d_Way_become_56 (by decide) ?_
      refine r_runI (k_V (As := [.int x2, .int (1 : Int32)]) (rest := [.int x2, .ref (g.2.2.2 15)]) C hW hP (c_Text_digitOfHouse hI x2 (1 : Int32) M9 _ hk) cb_Text_digitOfHouse ml_Way_45 (io_10 g M9) ⟨by decide, by decide⟩ rfl hl.1 rfl (Nat.le_of_ble_eq_true rfl) d_Way_become_57 ⟨by decide, by decide⟩) hS (fun r11 M10 H locs hk hP hS => ?_)
      obtain ⟨h12, hk⟩ := hk
      refine as_15 hI C hW hP hS h12 d_Way_become_60 (fun M13 eM13 H locs hP hS => ?_)
      have hk := hk M13 eM13
      refine lv_aload_n hx hb d_Way_become_61 rfl (lv_at hl 0 rfl) ?_
      refine gf_12_3 C hW hP fl_Way_21 d_Way_become_62 ?_
      refine lv_iload_n hx hb d_Way_become_65 rfl (lv_at hl 2 rfl) ?_
      refine lv_aload_n hx hb d_Way_become_66 rfl (lv_at hl 1 rfl) ?_
      refine lv_iload_n hx hb d_Way_become_67 rfl (lv_at hl 2 rfl) ?_
      refine lv_iconst (v := 2) hx hb d_Way_become_68 (by decide) ?_
      refine r_runI (k_V (As := [.int x2, .int (2 : Int32)]) (rest := [.int x2, .ref (g.2.2.2 16)]) C hW hP (c_Text_digitOfHouse hI x2 (2 : Int32) M13 _ hk) cb_Text_digitOfHouse ml_Way_45 (io_10 g M13) ⟨by decide, by decide⟩ rfl hl.1 rfl (Nat.le_of_ble_eq_true rfl) d_Way_become_69 ⟨by decide, by decide⟩) hS (fun r15 M14 H locs hk hP hS => ?_)
      obtain ⟨h16, hk⟩ := hk
      refine as_16 hI C hW hP hS h16 d_Way_become_72 (fun M17 eM17 H locs hP hS => ?_)
      have hk := hk M17 eM17
      obtain ⟨x2_18, ex2_18⟩ : ∃ y : Int32, y = x2 + (1 : Int32) := ⟨_, rfl⟩
      have hk := hk x2_18 ex2_18
      refine lv_iinc (v := x2_18) (lv' := [(2, .int x2_18), (0, .ref (g.2.2.2 12)), (1, .ref (g.2.2.2 10))]) hx hb d_Way_become_73 hl (k := 2) rfl (by rw [ex2_18]; rfl) (by decide) rfl (fun ls hl => ?_)
      refine lv_goto (tgt := 18) hx hb d_Way_become_76 (by decide) ?_
      exact (eX18 x2_18 M17).mp hk _ _ _ hP hS (lv_sub hl [1, 2, 0] rfl)
  · intro x2 M hk
    refine (eX81 x2 M).mpr ?_
    intro H locs ls hP hS hl
    unfold wp_Way_become_81 at hk
    refine lv_iload_n hx hb d_Way_become_81 rfl (lv_at hl 2 rfl) ?_
    refine lv_aload_n hx hb d_Way_become_82 rfl (lv_at hl 0 rfl) ?_
    refine gf_12_6 C hW hP fl_Way_31 d_Way_become_83 ?_
    refine lv_icmp_ge (tgt := 106) hx hb d_Way_become_86 (by decide) (fun c19 => ?_) (fun c19 => ?_)
    · have hk := hk.1 c19
      exact r_vret C hr hlocks hP hS hk d_Way_become_106
    · have hk := hk.2 c19
      refine lv_aload_n hx hb d_Way_become_89 rfl (lv_at hl 0 rfl) ?_
      refine gf_12_4 C hW hP fl_Way_24 d_Way_become_90 ?_
      refine lv_iload_n hx hb d_Way_become_93 rfl (lv_at hl 2 rfl) ?_
      refine lv_aload_n hx hb d_Way_become_94 rfl (lv_at hl 1 rfl) ?_
      refine lv_iload_n hx hb d_Way_become_95 rfl (lv_at hl 2 rfl) ?_
      refine r_runI (k_V (As := [.int x2]) (rest := [.int x2, .ref (g.2.2.2 17)]) C hW hP (c_Text_gearOfGuest hI x2 M _ hk) cb_Text_gearOfGuest ml_Way_49 (io_10 g M) ⟨by decide, by decide⟩ rfl hl.1 rfl (Nat.le_of_ble_eq_true rfl) d_Way_become_96 ⟨by decide, by decide⟩) hS (fun r21 M20 H locs hk hP hS => ?_)
      obtain ⟨h22, hk⟩ := hk
      refine as_17 hI C hW hP hS h22 d_Way_become_99 (fun M23 eM23 H locs hP hS => ?_)
      have hk := hk M23 eM23
      obtain ⟨x2_24, ex2_24⟩ : ∃ y : Int32, y = x2 + (1 : Int32) := ⟨_, rfl⟩
      have hk := hk x2_24 ex2_24
      refine lv_iinc (v := x2_24) (lv' := [(2, .int x2_24), (0, .ref (g.2.2.2 12)), (1, .ref (g.2.2.2 10))]) hx hb d_Way_become_100 hl (k := 2) rfl (by rw [ex2_24]; rfl) (by decide) rfl (fun ls hl => ?_)
      refine lv_goto (tgt := 81) hx hb d_Way_become_103 (by decide) ?_
      exact (eX81 x2_24 M23).mp hk _ _ _ hP hS (lv_sub hl [1, 2, 0] rfl)
theorem d_Main_way_0 : decode b_Main_way 0 = .ok (.aload_n 0, 1) := by decide +kernel
theorem d_Main_way_1 : decode b_Main_way 1 = .ok (.iconst 0, 1) := by decide +kernel
theorem d_Main_way_2 : decode b_Main_way 2 = .ok (.putfield 68, 3) := by decide +kernel
theorem d_Main_way_5 : decode b_Main_way 5 = .ok (.aload_n 0, 1) := by decide +kernel
theorem d_Main_way_6 : decode b_Main_way 6 = .ok (.iload_n 1, 1) := by decide +kernel
theorem d_Main_way_7 : decode b_Main_way 7 = .ok (.invokevirtual 71, 3) := by decide +kernel
theorem d_Main_way_10 : decode b_Main_way 10 = .ok (.astore 5, 2) := by decide +kernel
theorem d_Main_way_12 : decode b_Main_way 12 = .ok (.aload 5, 2) := by decide +kernel
theorem d_Main_way_14 : decode b_Main_way 14 = .ok (.ifnonnull 5, 3) := by decide +kernel
theorem d_Main_way_17 : decode b_Main_way 17 = .ok (.iconst (-1), 1) := by decide +kernel
theorem d_Main_way_18 : decode b_Main_way 18 = .ok (.ireturn, 1) := by decide +kernel
theorem d_Main_way_19 : decode b_Main_way 19 = .ok (.iload_n 2, 1) := by decide +kernel
theorem d_Main_way_20 : decode b_Main_way 20 = .ok (.iconst 3, 1) := by decide +kernel
theorem d_Main_way_21 : decode b_Main_way 21 = .ok (.invokestatic 75, 3) := by decide +kernel
theorem d_Main_way_24 : decode b_Main_way 24 = .ok (.ifCond .ne 6, 3) := by decide +kernel
theorem d_Main_way_27 : decode b_Main_way 27 = .ok (.bipush (-2), 2) := by decide +kernel
theorem d_Main_way_29 : decode b_Main_way 29 = .ok (.ireturn, 1) := by decide +kernel
theorem d_Main_way_30 : decode b_Main_way 30 = .ok (.aload 5, 2) := by decide +kernel
theorem d_Main_way_32 : decode b_Main_way 32 = .ok (.iload_n 2, 1) := by decide +kernel
theorem d_Main_way_33 : decode b_Main_way 33 = .ok (.iload_n 3, 1) := by decide +kernel
theorem d_Main_way_34 : decode b_Main_way 34 = .ok (.iload 4, 2) := by decide +kernel
theorem d_Main_way_36 : decode b_Main_way 36 = .ok (.invokevirtual 79, 3) := by decide +kernel
theorem d_Main_way_39 : decode b_Main_way 39 = .ok (.istore 6, 2) := by decide +kernel
theorem d_Main_way_41 : decode b_Main_way 41 = .ok (.iload 6, 2) := by decide +kernel
theorem d_Main_way_43 : decode b_Main_way 43 = .ok (.ifCond .eq 10, 3) := by decide +kernel
theorem d_Main_way_46 : decode b_Main_way 46 = .ok (.aload_n 0, 1) := by decide +kernel
theorem d_Main_way_47 : decode b_Main_way 47 = .ok (.iload 6, 2) := by decide +kernel
theorem d_Main_way_49 : decode b_Main_way 49 = .ok (.invokevirtual 83, 3) := by decide +kernel
theorem d_Main_way_52 : decode b_Main_way 52 = .ok (.ireturn, 1) := by decide +kernel
theorem d_Main_way_53 : decode b_Main_way 53 = .ok (.aload_n 0, 1) := by decide +kernel
theorem d_Main_way_54 : decode b_Main_way 54 = .ok (.getfield 21, 3) := by decide +kernel
theorem d_Main_way_57 : decode b_Main_way 57 = .ok (.aload 5, 2) := by decide +kernel
theorem d_Main_way_59 : decode b_Main_way 59 = .ok (.iload_n 3, 1) := by decide +kernel
theorem d_Main_way_60 : decode b_Main_way 60 = .ok (.iload 4, 2) := by decide +kernel
theorem d_Main_way_62 : decode b_Main_way 62 = .ok (.invokevirtual 87, 3) := by decide +kernel
theorem d_Main_way_65 : decode b_Main_way 65 = .ok (.aload_n 0, 1) := by decide +kernel
theorem d_Main_way_66 : decode b_Main_way 66 = .ok (.getfield 21, 3) := by decide +kernel
theorem d_Main_way_69 : decode b_Main_way 69 = .ok (.invokevirtual 91, 3) := by decide +kernel
theorem d_Main_way_72 : decode b_Main_way 72 = .ok (.istore 7, 2) := by decide +kernel
theorem d_Main_way_74 : decode b_Main_way 74 = .ok (.iload 7, 2) := by decide +kernel
theorem d_Main_way_76 : decode b_Main_way 76 = .ok (.bipush (-9), 2) := by decide +kernel
theorem d_Main_way_78 : decode b_Main_way 78 = .ok (.if_icmp .eq 9, 3) := by decide +kernel
theorem d_Main_way_81 : decode b_Main_way 81 = .ok (.bipush (-100), 2) := by decide +kernel
theorem d_Main_way_83 : decode b_Main_way 83 = .ok (.iload 7, 2) := by decide +kernel
theorem d_Main_way_85 : decode b_Main_way 85 = .ok (.isub, 1) := by decide +kernel
theorem d_Main_way_86 : decode b_Main_way 86 = .ok (.ireturn, 1) := by decide +kernel
theorem d_Main_way_87 : decode b_Main_way 87 = .ok (.aload_n 0, 1) := by decide +kernel
theorem d_Main_way_88 : decode b_Main_way 88 = .ok (.getfield 28, 3) := by decide +kernel
theorem d_Main_way_91 : decode b_Main_way 91 = .ok (.aload_n 0, 1) := by decide +kernel
theorem d_Main_way_92 : decode b_Main_way 92 = .ok (.getfield 21, 3) := by decide +kernel
theorem d_Main_way_95 : decode b_Main_way 95 = .ok (.invokevirtual 95, 3) := by decide +kernel
theorem d_Main_way_98 : decode b_Main_way 98 = .ok (.aload_n 0, 1) := by decide +kernel
theorem d_Main_way_99 : decode b_Main_way 99 = .ok (.getfield 60, 3) := by decide +kernel
theorem d_Main_way_102 : decode b_Main_way 102 = .ok (.iconst 0, 1) := by decide +kernel
theorem d_Main_way_103 : decode b_Main_way 103 = .ok (.putfield 99, 3) := by decide +kernel
theorem d_Main_way_106 : decode b_Main_way 106 = .ok (.aload_n 0, 1) := by decide +kernel
theorem d_Main_way_107 : decode b_Main_way 107 = .ok (.getfield 28, 3) := by decide +kernel
theorem d_Main_way_110 : decode b_Main_way 110 = .ok (.getfield 102, 3) := by decide +kernel
theorem d_Main_way_113 : decode b_Main_way 113 = .ok (.ireturn, 1) := by decide +kernel
set_option maxRecDepth 20000 in
theorem c_Main_way {l : Launch} {g : GG} (hI : WI g) (a1 : Int32) (a2 : Int32) (a3 : Int32) (a4 : Int32) (M : Mem) (R : Int32 → Mem → Prop) (h : wp_Main_way a1 a2 a3 a4 M R) : Met l y_Main_way (wm y_Main_way b_Main_way 8 (some .int)) (RM 5 108) (PP g M [.ref (g.2.2.2 0), .int a1, .int a2, .int a3, .int a4]) (PQ g (RI R)) 0 0 (AW g) := by
  refine m_of (own := N_Main) (by decide) rfl (Nat.le_of_ble_eq_true rfl) ?_
  intro p e s m below meth c ls C hr hlocks hW hP hS hl
  obtain ⟨hx, hb, hml, hown, hts⟩ := id C
  have hl : lv_has ls 8 [(0, .ref (g.2.2.2 0)), (1, .int a1), (2, .int a2), (3, .int a3), (4, .int a4)] := hl
  unfold wp_Main_way at h
  have hk := h
  refine lv_aload_n hx hb d_Main_way_0 rfl (lv_at hl 0 rfl) ?_
  refine lv_iconst (v := 0) hx hb d_Main_way_1 (by decide) ?_
  refine pf_0_8 hI C hW hP hS fl_Main_68 d_Main_way_2 (fun M1 eM1 H locs hP hS => ?_)
  have hk := hk M1 eM1
  refine lv_aload_n hx hb d_Main_way_5 rfl (lv_at hl 0 rfl) ?_
  refine lv_iload_n hx hb d_Main_way_6 rfl (lv_at hl 1 rfl) ?_
  refine r_runO (k_V (As := [.int a1]) (rest := []) C hW hP (c_Main_sheetOf hI a1 M1 _ hk) cb_Main_sheetOf ml_Main_71 (io_0 g M1) ⟨by decide, by decide⟩ rfl hl.1 rfl (Nat.le_of_ble_eq_true rfl) d_Main_way_7 ⟨by decide, by decide⟩) hS (fun M2 H locs hk hP hS => ?_) (fun q3 M2 H locs hq3 hk hP hS => ?_)
  · have hk := hk.1 rfl
    refine lv_astoreN (lv' := [(5, .null), (0, .ref (g.2.2.2 0)), (1, .int a1), (2, .int a2), (3, .int a3), (4, .int a4)]) hx hb d_Main_way_10 hl (by decide) rfl (fun ls hl => ?_)
    refine lv_aloadN hx hb d_Main_way_12 (lv_at hl 0 rfl) ?_
    refine lv_ifnonnullN hx hb d_Main_way_14 ?_
    refine lv_iconst (v := -1) hx hb d_Main_way_17 (by decide) ?_
    exact r_iret C hr hlocks hP hS hk d_Main_way_18
  · have hk := hk.2 q3 rfl hq3
    refine lv_astore (lv' := [(5, .ref (g.2.2.2 (2 + q3))), (0, .ref (g.2.2.2 0)), (1, .int a1), (2, .int a2), (3, .int a3), (4, .int a4)]) hx hb d_Main_way_10 hl (by decide) rfl (fun ls hl => ?_)
    refine lv_aload hx hb d_Main_way_12 (lv_at hl 0 rfl) ?_
    refine lv_ifnonnull (tgt := 19) hx hb d_Main_way_14 (by decide) ?_
    refine lv_iload_n hx hb d_Main_way_19 rfl (lv_at hl 3 rfl) ?_
    refine lv_iconst (v := 3) hx hb d_Main_way_20 (by decide) ?_
    refine r_runZ (k_S (As := [.int a2, .int (3 : Int32)]) (rest := []) C hW hP (c_Main_isBelow hI a2 (3 : Int32) M2 _ hk) cb_Main_isBelow ml_Main_75 ⟨by decide, by decide⟩ rfl hl.1 rfl (Nat.le_of_ble_eq_true rfl) d_Main_way_21 ⟨by decide, by decide⟩) hS (fun r6 M5 H locs zr6 hk hP hS => ?_)
    refine lv_if_ne (tgt := 30) hx hb d_Main_way_24 (by decide) (fun c7 => ?_) (fun c7 => ?_)
    · have hk := hk.1 c7
      refine lv_aload hx hb d_Main_way_30 (lv_at hl 0 rfl) ?_
      refine lv_iload_n hx hb d_Main_way_32 rfl (lv_at hl 3 rfl) ?_
      refine lv_iload_n hx hb d_Main_way_33 rfl (lv_at hl 4 rfl) ?_
      refine lv_iload hx hb d_Main_way_34 (lv_at hl 5 rfl) ?_
      refine r_runI (k_V (As := [.int a2, .int a3, .int a4]) (rest := []) C hW hP (c_Sheet_faultOfTaking hq3 hI a2 a3 a4 M5 _ hk) cb_Sheet_faultOfTaking ml_Main_79 (io_sh q3 hq3 M5) ⟨by decide, by decide⟩ rfl hl.1 rfl (Nat.le_of_ble_eq_true rfl) d_Main_way_36 ⟨by decide, by decide⟩) hS (fun r9 M8 H locs hk hP hS => ?_)
      refine lv_istore (lv' := [(6, .int r9), (5, .ref (g.2.2.2 (2 + q3))), (0, .ref (g.2.2.2 0)), (1, .int a1), (2, .int a2), (3, .int a3), (4, .int a4)]) hx hb d_Main_way_39 hl (by decide) rfl (fun ls hl => ?_)
      refine lv_iload hx hb d_Main_way_41 (lv_at hl 0 rfl) ?_
      refine lv_if_eq (tgt := 53) hx hb d_Main_way_43 (by decide) (fun c10 => ?_) (fun c10 => ?_)
      · have hk := hk.1 c10
        refine lv_aload_n hx hb d_Main_way_53 rfl (lv_at hl 2 rfl) ?_
        refine gf_0_1 C hW hP fl_Main_21 d_Main_way_54 ?_
        refine lv_aload hx hb d_Main_way_57 (lv_at hl 1 rfl) ?_
        refine lv_iload_n hx hb d_Main_way_59 rfl (lv_at hl 5 rfl) ?_
        refine lv_iload hx hb d_Main_way_60 (lv_at hl 6 rfl) ?_
        refine r_runV (k_V (As := [.ref (g.2.2.2 (2 + q3)), .int a3, .int a4]) (rest := []) C hW hP (c_Text_read hq3 hI a3 a4 M8 _ hk) cb_Text_read ml_Main_87 (io_10 g M8) ⟨by decide, by decide⟩ rfl hl.1 rfl (Nat.le_of_ble_eq_true rfl) d_Main_way_62 ⟨by decide, by decide⟩) hS (fun M11 H locs hk hP hS => ?_)
        refine lv_aload_n hx hb d_Main_way_65 rfl (lv_at hl 2 rfl) ?_
        refine gf_0_1 C hW hP fl_Main_21 d_Main_way_66 ?_
        refine r_runI (k_V (As := []) (rest := []) C hW hP (c_Text_firstFault hI M11 _ hk) cb_Text_firstFault ml_Main_91 (io_10 g M11) ⟨by decide, by decide⟩ rfl hl.1 rfl (Nat.le_of_ble_eq_true rfl) d_Main_way_69 ⟨by decide, by decide⟩) hS (fun r13 M12 H locs hk hP hS => ?_)
        refine lv_istore (lv' := [(7, .int r13), (6, .int r9), (5, .ref (g.2.2.2 (2 + q3))), (0, .ref (g.2.2.2 0)), (1, .int a1), (2, .int a2), (3, .int a3), (4, .int a4)]) hx hb d_Main_way_72 hl (by decide) rfl (fun ls hl => ?_)
        refine lv_iload hx hb d_Main_way_74 (lv_at hl 0 rfl) ?_
        refine lv_bipush (v := -9) hx hb d_Main_way_76 (by decide) ?_
        refine lv_icmp_eq (tgt := 87) hx hb d_Main_way_78 (by decide) (fun c14 => ?_) (fun c14 => ?_)
        · have hk := hk.1 c14
          refine lv_aload_n hx hb d_Main_way_87 rfl (lv_at hl 3 rfl) ?_
          refine gf_0_2 C hW hP fl_Main_28 d_Main_way_88 ?_
          refine lv_aload_n hx hb d_Main_way_91 rfl (lv_at hl 3 rfl) ?_
          refine gf_0_1 C hW hP fl_Main_21 d_Main_way_92 ?_
          refine r_runV (k_V (As := [.ref (g.2.2.2 10)]) (rest := []) C hW hP (c_Way_become hI M12 _ hk) cb_Way_become ml_Main_95 (io_12 g M12) ⟨by decide, by decide⟩ rfl hl.1 rfl (Nat.le_of_ble_eq_true rfl) d_Main_way_95 ⟨by decide, by decide⟩) hS (fun M15 H locs hk hP hS => ?_)
          refine lv_aload_n hx hb d_Main_way_98 rfl (lv_at hl 3 rfl) ?_
          refine gf_0_6 C hW hP fl_Main_60 d_Main_way_99 ?_
          refine lv_iconst (v := 0) hx hb d_Main_way_102 (by decide) ?_
          refine pf_26_4 hI C hW hP hS fl_Main_99 d_Main_way_103 (fun M16 eM16 H locs hP hS => ?_)
          have hk := hk M16 eM16
          refine lv_aload_n hx hb d_Main_way_106 rfl (lv_at hl 3 rfl) ?_
          refine gf_0_2 C hW hP fl_Main_28 d_Main_way_107 ?_
          refine gf_12_5 C hW hP fl_Main_102 d_Main_way_110 ?_
          exact r_iret C hr hlocks hP hS hk d_Main_way_113
        · have hk := hk.2 c14
          refine lv_bipush (v := -100) hx hb d_Main_way_81 (by decide) ?_
          refine lv_iload hx hb d_Main_way_83 (lv_at hl 0 rfl) ?_
          refine lv_isub hx hb d_Main_way_85 ?_
          exact r_iret C hr hlocks hP hS hk d_Main_way_86
      · have hk := hk.2 c10
        refine lv_aload_n hx hb d_Main_way_46 rfl (lv_at hl 2 rfl) ?_
        refine lv_iload hx hb d_Main_way_47 (lv_at hl 0 rfl) ?_
        refine r_runI (k_V (As := [.int r9]) (rest := []) C hW hP (c_Main_failed hI r9 M8 _ hk) cb_Main_failed ml_Main_83 (io_0 g M8) ⟨by decide, by decide⟩ rfl hl.1 rfl (Nat.le_of_ble_eq_true rfl) d_Main_way_49 ⟨by decide, by decide⟩) hS (fun r18 M17 H locs hk hP hS => ?_)
        exact r_iret C hr hlocks hP hS hk d_Main_way_52
    · have hk := hk.2 c7
      refine lv_bipush (v := -2) hx hb d_Main_way_27 (by decide) ?_
      exact r_iret C hr hlocks hP hS hk d_Main_way_29
theorem d_Way_hasHouse_0 : decode b_Way_hasHouse 0 = .ok (.iload_n 1, 1) := by decide +kernel
theorem d_Way_hasHouse_1 : decode b_Way_hasHouse 1 = .ok (.aload_n 0, 1) := by decide +kernel
theorem d_Way_hasHouse_2 : decode b_Way_hasHouse 2 = .ok (.getfield 27, 3) := by decide +kernel
theorem d_Way_hasHouse_5 : decode b_Way_hasHouse 5 = .ok (.invokestatic 52, 3) := by decide +kernel
theorem d_Way_hasHouse_8 : decode b_Way_hasHouse 8 = .ok (.ireturn, 1) := by decide +kernel
set_option maxRecDepth 20000 in
theorem c_Way_hasHouse {l : Launch} {g : GG} (hI : WI g) (a1 : Int32) (M : Mem) (R : Int32 → Mem → Prop) (h : wp_Way_hasHouse a1 M R) : Met l y_Way_hasHouse (wm y_Way_hasHouse b_Way_hasHouse 2 (some .boolean)) (RM 1 21) (PP g M [.ref (g.2.2.2 12), .int a1]) (PQ g (RZ R)) 0 0 (AW g) := by
  refine m_of (own := N_Way) (by decide) rfl (Nat.le_of_ble_eq_true rfl) ?_
  intro p e s m below meth c ls C hr hlocks hW hP hS hl
  obtain ⟨hx, hb, hml, hown, hts⟩ := id C
  have hl : lv_has ls 2 [(0, .ref (g.2.2.2 12)), (1, .int a1)] := hl
  unfold wp_Way_hasHouse at h
  have hk := h
  refine lv_iload_n hx hb d_Way_hasHouse_0 rfl (lv_at hl 1 rfl) ?_
  refine lv_aload_n hx hb d_Way_hasHouse_1 rfl (lv_at hl 0 rfl) ?_
  refine gf_12_5 C hW hP fl_Way_27 d_Way_hasHouse_2 ?_
  refine r_runZ (k_N (As := [.int a1, .int (M 12 5)]) (rest := []) C hW hP (c_Main_isBelow hI a1 (M 12 5) M _ hk) cb_Main_isBelow hW.2.2 ⟨by decide, by decide⟩ rfl hl.1 rfl (Nat.le_of_ble_eq_true rfl) d_Way_hasHouse_5 ⟨by decide, by decide⟩) hS (fun r2 M1 H locs zr2 hk hP hS => ?_)
  exact r_zret zr2 C hr hlocks hP hS hk d_Way_hasHouse_8
theorem d_Main_ofHouse_0 : decode b_Main_ofHouse 0 = .ok (.aload_n 0, 1) := by decide +kernel
theorem d_Main_ofHouse_1 : decode b_Main_ofHouse 1 = .ok (.getfield 28, 3) := by decide +kernel
theorem d_Main_ofHouse_4 : decode b_Main_ofHouse 4 = .ok (.iload_n 1, 1) := by decide +kernel
theorem d_Main_ofHouse_5 : decode b_Main_ofHouse 5 = .ok (.invokevirtual 105, 3) := by decide +kernel
theorem d_Main_ofHouse_8 : decode b_Main_ofHouse 8 = .ok (.ifCond .ne 5, 3) := by decide +kernel
theorem d_Main_ofHouse_11 : decode b_Main_ofHouse 11 = .ok (.iconst (-1), 1) := by decide +kernel
theorem d_Main_ofHouse_12 : decode b_Main_ofHouse 12 = .ok (.ireturn, 1) := by decide +kernel
theorem d_Main_ofHouse_13 : decode b_Main_ofHouse 13 = .ok (.iload_n 2, 1) := by decide +kernel
theorem d_Main_ofHouse_14 : decode b_Main_ofHouse 14 = .ok (.tableswitch 70 0 3 #[30, 40, 50, 60], 30) := by decide +kernel
theorem d_Main_ofHouse_44 : decode b_Main_ofHouse 44 = .ok (.aload_n 0, 1) := by decide +kernel
theorem d_Main_ofHouse_45 : decode b_Main_ofHouse 45 = .ok (.getfield 28, 3) := by decide +kernel
theorem d_Main_ofHouse_48 : decode b_Main_ofHouse 48 = .ok (.getfield 109, 3) := by decide +kernel
theorem d_Main_ofHouse_51 : decode b_Main_ofHouse 51 = .ok (.iload_n 1, 1) := by decide +kernel
theorem d_Main_ofHouse_52 : decode b_Main_ofHouse 52 = .ok (.iaload, 1) := by decide +kernel
theorem d_Main_ofHouse_53 : decode b_Main_ofHouse 53 = .ok (.ireturn, 1) := by decide +kernel
theorem d_Main_ofHouse_54 : decode b_Main_ofHouse 54 = .ok (.aload_n 0, 1) := by decide +kernel
theorem d_Main_ofHouse_55 : decode b_Main_ofHouse 55 = .ok (.getfield 28, 3) := by decide +kernel
theorem d_Main_ofHouse_58 : decode b_Main_ofHouse 58 = .ok (.getfield 113, 3) := by decide +kernel
theorem d_Main_ofHouse_61 : decode b_Main_ofHouse 61 = .ok (.iload_n 1, 1) := by decide +kernel
theorem d_Main_ofHouse_62 : decode b_Main_ofHouse 62 = .ok (.iaload, 1) := by decide +kernel
theorem d_Main_ofHouse_63 : decode b_Main_ofHouse 63 = .ok (.ireturn, 1) := by decide +kernel
theorem d_Main_ofHouse_64 : decode b_Main_ofHouse 64 = .ok (.aload_n 0, 1) := by decide +kernel
theorem d_Main_ofHouse_65 : decode b_Main_ofHouse 65 = .ok (.getfield 28, 3) := by decide +kernel
theorem d_Main_ofHouse_68 : decode b_Main_ofHouse 68 = .ok (.getfield 116, 3) := by decide +kernel
theorem d_Main_ofHouse_71 : decode b_Main_ofHouse 71 = .ok (.iload_n 1, 1) := by decide +kernel
theorem d_Main_ofHouse_72 : decode b_Main_ofHouse 72 = .ok (.iaload, 1) := by decide +kernel
theorem d_Main_ofHouse_73 : decode b_Main_ofHouse 73 = .ok (.ireturn, 1) := by decide +kernel
theorem d_Main_ofHouse_74 : decode b_Main_ofHouse 74 = .ok (.aload_n 0, 1) := by decide +kernel
theorem d_Main_ofHouse_75 : decode b_Main_ofHouse 75 = .ok (.getfield 28, 3) := by decide +kernel
theorem d_Main_ofHouse_78 : decode b_Main_ofHouse 78 = .ok (.getfield 119, 3) := by decide +kernel
theorem d_Main_ofHouse_81 : decode b_Main_ofHouse 81 = .ok (.iload_n 1, 1) := by decide +kernel
theorem d_Main_ofHouse_82 : decode b_Main_ofHouse 82 = .ok (.iaload, 1) := by decide +kernel
theorem d_Main_ofHouse_83 : decode b_Main_ofHouse 83 = .ok (.ireturn, 1) := by decide +kernel
theorem d_Main_ofHouse_84 : decode b_Main_ofHouse 84 = .ok (.bipush (-2), 2) := by decide +kernel
theorem d_Main_ofHouse_86 : decode b_Main_ofHouse 86 = .ok (.ireturn, 1) := by decide +kernel
set_option maxRecDepth 20000 in
theorem c_Main_ofHouse {l : Launch} {g : GG} (hI : WI g) (a1 : Int32) (a2 : Int32) (M : Mem) (R : Int32 → Mem → Prop) (h : wp_Main_ofHouse a1 a2 M R) : Met l y_Main_ofHouse (wm y_Main_ofHouse b_Main_ofHouse 3 (some .int)) (RM 2 42) (PP g M [.ref (g.2.2.2 0), .int a1, .int a2]) (PQ g (RI R)) 0 0 (AW g) := by
  refine m_of (own := N_Main) (by decide) rfl (Nat.le_of_ble_eq_true rfl) ?_
  intro p e s m below meth c ls C hr hlocks hW hP hS hl
  obtain ⟨hx, hb, hml, hown, hts⟩ := id C
  have hl : lv_has ls 3 [(0, .ref (g.2.2.2 0)), (1, .int a1), (2, .int a2)] := hl
  unfold wp_Main_ofHouse at h
  have hk := h
  refine lv_aload_n hx hb d_Main_ofHouse_0 rfl (lv_at hl 0 rfl) ?_
  refine gf_0_2 C hW hP fl_Main_28 d_Main_ofHouse_1 ?_
  refine lv_iload_n hx hb d_Main_ofHouse_4 rfl (lv_at hl 1 rfl) ?_
  refine r_runZ (k_V (As := [.int a1]) (rest := []) C hW hP (c_Way_hasHouse hI a1 M _ hk) cb_Way_hasHouse ml_Main_105 (io_12 g M) ⟨by decide, by decide⟩ rfl hl.1 rfl (Nat.le_of_ble_eq_true rfl) d_Main_ofHouse_5 ⟨by decide, by decide⟩) hS (fun r2 M1 H locs zr2 hk hP hS => ?_)
  refine lv_if_ne (tgt := 13) hx hb d_Main_ofHouse_8 (by decide) (fun c3 => ?_) (fun c3 => ?_)
  · have hk := hk.1 c3
    refine lv_iload_n hx hb d_Main_ofHouse_13 rfl (lv_at hl 2 rfl) ?_
    by_cases c4 : a2 = (0 : Int32)
    · have hk := hk.1 c4
      refine lv_tableIn (tgt := 44) hx hb d_Main_ofHouse_14 (by rw [c4]; decide) (by rw [c4]; decide) (by rw [c4] <;> rfl) (by decide) ?_
      refine lv_aload_n hx hb d_Main_ofHouse_44 rfl (lv_at hl 0 rfl) ?_
      refine gf_0_2 C hW hP fl_Main_28 d_Main_ofHouse_45 ?_
      refine gf_12_0 C hW hP fl_Main_109 d_Main_ofHouse_48 ?_
      refine lv_iload_n hx hb d_Main_ofHouse_51 rfl (lv_at hl 1 rfl) ?_
      obtain ⟨h5, hk⟩ := hk
      refine al_13 C hW hP h5 d_Main_ofHouse_52 ?_
      exact r_iret C hr hlocks hP hS hk d_Main_ofHouse_53
    · have hk := hk.2 c4
      by_cases c6 : a2 = (1 : Int32)
      · have hk := hk.1 c6
        refine lv_tableIn (tgt := 54) hx hb d_Main_ofHouse_14 (by rw [c6]; decide) (by rw [c6]; decide) (by rw [c6] <;> rfl) (by decide) ?_
        refine lv_aload_n hx hb d_Main_ofHouse_54 rfl (lv_at hl 0 rfl) ?_
        refine gf_0_2 C hW hP fl_Main_28 d_Main_ofHouse_55 ?_
        refine gf_12_1 C hW hP fl_Main_113 d_Main_ofHouse_58 ?_
        refine lv_iload_n hx hb d_Main_ofHouse_61 rfl (lv_at hl 1 rfl) ?_
        obtain ⟨h7, hk⟩ := hk
        refine al_14 C hW hP h7 d_Main_ofHouse_62 ?_
        exact r_iret C hr hlocks hP hS hk d_Main_ofHouse_63
      · have hk := hk.2 c6
        by_cases c8 : a2 = (2 : Int32)
        · have hk := hk.1 c8
          refine lv_tableIn (tgt := 64) hx hb d_Main_ofHouse_14 (by rw [c8]; decide) (by rw [c8]; decide) (by rw [c8] <;> rfl) (by decide) ?_
          refine lv_aload_n hx hb d_Main_ofHouse_64 rfl (lv_at hl 0 rfl) ?_
          refine gf_0_2 C hW hP fl_Main_28 d_Main_ofHouse_65 ?_
          refine gf_12_2 C hW hP fl_Main_116 d_Main_ofHouse_68 ?_
          refine lv_iload_n hx hb d_Main_ofHouse_71 rfl (lv_at hl 1 rfl) ?_
          obtain ⟨h9, hk⟩ := hk
          refine al_15 C hW hP h9 d_Main_ofHouse_72 ?_
          exact r_iret C hr hlocks hP hS hk d_Main_ofHouse_73
        · have hk := hk.2 c8
          by_cases c10 : a2 = (3 : Int32)
          · have hk := hk.1 c10
            refine lv_tableIn (tgt := 74) hx hb d_Main_ofHouse_14 (by rw [c10]; decide) (by rw [c10]; decide) (by rw [c10] <;> rfl) (by decide) ?_
            refine lv_aload_n hx hb d_Main_ofHouse_74 rfl (lv_at hl 0 rfl) ?_
            refine gf_0_2 C hW hP fl_Main_28 d_Main_ofHouse_75 ?_
            refine gf_12_3 C hW hP fl_Main_119 d_Main_ofHouse_78 ?_
            refine lv_iload_n hx hb d_Main_ofHouse_81 rfl (lv_at hl 1 rfl) ?_
            obtain ⟨h11, hk⟩ := hk
            refine al_16 C hW hP h11 d_Main_ofHouse_82 ?_
            exact r_iret C hr hlocks hP hS hk d_Main_ofHouse_83
          · have hk := hk.2 c10
            refine lv_tableOut (tgt := 84) hx hb d_Main_ofHouse_14 (by have n0 := sw_ne (k := 0) c4; have n1 := sw_ne (k := 1) c6; have n2 := sw_ne (k := 2) c8; have n3 := sw_ne (k := 3) c10; omega) (by decide) ?_
            refine lv_bipush (v := -2) hx hb d_Main_ofHouse_84 (by decide) ?_
            exact r_iret C hr hlocks hP hS hk d_Main_ofHouse_86
  · have hk := hk.2 c3
    refine lv_iconst (v := -1) hx hb d_Main_ofHouse_11 (by decide) ?_
    exact r_iret C hr hlocks hP hS hk d_Main_ofHouse_12
theorem d_Way_hasGuest_0 : decode b_Way_hasGuest 0 = .ok (.iload_n 1, 1) := by decide +kernel
theorem d_Way_hasGuest_1 : decode b_Way_hasGuest 1 = .ok (.aload_n 0, 1) := by decide +kernel
theorem d_Way_hasGuest_2 : decode b_Way_hasGuest 2 = .ok (.getfield 31, 3) := by decide +kernel
theorem d_Way_hasGuest_5 : decode b_Way_hasGuest 5 = .ok (.invokestatic 52, 3) := by decide +kernel
theorem d_Way_hasGuest_8 : decode b_Way_hasGuest 8 = .ok (.ireturn, 1) := by decide +kernel
set_option maxRecDepth 20000 in
theorem c_Way_hasGuest {l : Launch} {g : GG} (hI : WI g) (a1 : Int32) (M : Mem) (R : Int32 → Mem → Prop) (h : wp_Way_hasGuest a1 M R) : Met l y_Way_hasGuest (wm y_Way_hasGuest b_Way_hasGuest 2 (some .boolean)) (RM 1 21) (PP g M [.ref (g.2.2.2 12), .int a1]) (PQ g (RZ R)) 0 0 (AW g) := by
  refine m_of (own := N_Way) (by decide) rfl (Nat.le_of_ble_eq_true rfl) ?_
  intro p e s m below meth c ls C hr hlocks hW hP hS hl
  obtain ⟨hx, hb, hml, hown, hts⟩ := id C
  have hl : lv_has ls 2 [(0, .ref (g.2.2.2 12)), (1, .int a1)] := hl
  unfold wp_Way_hasGuest at h
  have hk := h
  refine lv_iload_n hx hb d_Way_hasGuest_0 rfl (lv_at hl 1 rfl) ?_
  refine lv_aload_n hx hb d_Way_hasGuest_1 rfl (lv_at hl 0 rfl) ?_
  refine gf_12_6 C hW hP fl_Way_31 d_Way_hasGuest_2 ?_
  refine r_runZ (k_N (As := [.int a1, .int (M 12 6)]) (rest := []) C hW hP (c_Main_isBelow hI a1 (M 12 6) M _ hk) cb_Main_isBelow hW.2.2 ⟨by decide, by decide⟩ rfl hl.1 rfl (Nat.le_of_ble_eq_true rfl) d_Way_hasGuest_5 ⟨by decide, by decide⟩) hS (fun r2 M1 H locs zr2 hk hP hS => ?_)
  exact r_zret zr2 C hr hlocks hP hS hk d_Way_hasGuest_8
theorem d_Main_gear_0 : decode b_Main_gear 0 = .ok (.aload_n 0, 1) := by decide +kernel
theorem d_Main_gear_1 : decode b_Main_gear 1 = .ok (.getfield 28, 3) := by decide +kernel
theorem d_Main_gear_4 : decode b_Main_gear 4 = .ok (.iload_n 1, 1) := by decide +kernel
theorem d_Main_gear_5 : decode b_Main_gear 5 = .ok (.invokevirtual 122, 3) := by decide +kernel
theorem d_Main_gear_8 : decode b_Main_gear 8 = .ok (.ifCond .eq 15, 3) := by decide +kernel
theorem d_Main_gear_11 : decode b_Main_gear 11 = .ok (.aload_n 0, 1) := by decide +kernel
theorem d_Main_gear_12 : decode b_Main_gear 12 = .ok (.getfield 28, 3) := by decide +kernel
theorem d_Main_gear_15 : decode b_Main_gear 15 = .ok (.getfield 125, 3) := by decide +kernel
theorem d_Main_gear_18 : decode b_Main_gear 18 = .ok (.iload_n 1, 1) := by decide +kernel
theorem d_Main_gear_19 : decode b_Main_gear 19 = .ok (.iaload, 1) := by decide +kernel
theorem d_Main_gear_20 : decode b_Main_gear 20 = .ok (.goto 4, 3) := by decide +kernel
theorem d_Main_gear_23 : decode b_Main_gear 23 = .ok (.iconst (-1), 1) := by decide +kernel
theorem d_Main_gear_24 : decode b_Main_gear 24 = .ok (.ireturn, 1) := by decide +kernel
set_option maxRecDepth 20000 in
theorem c_Main_gear {l : Launch} {g : GG} (hI : WI g) (a1 : Int32) (M : Mem) (R : Int32 → Mem → Prop) (h : wp_Main_gear a1 M R) : Met l y_Main_gear (wm y_Main_gear b_Main_gear 2 (some .int)) (RM 2 42) (PP g M [.ref (g.2.2.2 0), .int a1]) (PQ g (RI R)) 0 0 (AW g) := by
  refine m_of (own := N_Main) (by decide) rfl (Nat.le_of_ble_eq_true rfl) ?_
  intro p e s m below meth c ls C hr hlocks hW hP hS hl
  obtain ⟨hx, hb, hml, hown, hts⟩ := id C
  have hl : lv_has ls 2 [(0, .ref (g.2.2.2 0)), (1, .int a1)] := hl
  unfold wp_Main_gear at h
  have hk := h
  refine lv_aload_n hx hb d_Main_gear_0 rfl (lv_at hl 0 rfl) ?_
  refine gf_0_2 C hW hP fl_Main_28 d_Main_gear_1 ?_
  refine lv_iload_n hx hb d_Main_gear_4 rfl (lv_at hl 1 rfl) ?_
  refine r_runZ (k_V (As := [.int a1]) (rest := []) C hW hP (c_Way_hasGuest hI a1 M _ hk) cb_Way_hasGuest ml_Main_122 (io_12 g M) ⟨by decide, by decide⟩ rfl hl.1 rfl (Nat.le_of_ble_eq_true rfl) d_Main_gear_5 ⟨by decide, by decide⟩) hS (fun r2 M1 H locs zr2 hk hP hS => ?_)
  refine lv_if_eq (tgt := 23) hx hb d_Main_gear_8 (by decide) (fun c3 => ?_) (fun c3 => ?_)
  · have hk := hk.1 c3
    refine lv_iconst (v := -1) hx hb d_Main_gear_23 (by decide) ?_
    exact r_iret C hr hlocks hP hS hk d_Main_gear_24
  · have hk := hk.2 c3
    refine lv_aload_n hx hb d_Main_gear_11 rfl (lv_at hl 0 rfl) ?_
    refine gf_0_2 C hW hP fl_Main_28 d_Main_gear_12 ?_
    refine gf_12_4 C hW hP fl_Main_125 d_Main_gear_15 ?_
    refine lv_iload_n hx hb d_Main_gear_18 rfl (lv_at hl 1 rfl) ?_
    obtain ⟨h4, hk⟩ := hk
    refine al_17 C hW hP h4 d_Main_gear_19 ?_
    refine lv_goto (tgt := 24) hx hb d_Main_gear_20 (by decide) ?_
    exact r_iret C hr hlocks hP hS hk d_Main_gear_24
