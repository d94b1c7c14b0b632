theorem d_Main_knock_0 : decode b_Main_knock 0 = .ok (.aload_n 0, 1) := by decide +kernel
theorem d_Main_knock_1 : decode b_Main_knock 1 = .ok (.getfield 28, 3) := by decide +kernel
theorem d_Main_knock_4 : decode b_Main_knock 4 = .ok (.iload_n 1, 1) := by decide +kernel
theorem d_Main_knock_5 : decode b_Main_knock 5 = .ok (.invokevirtual 105, 3) := by decide +kernel
theorem d_Main_knock_8 : decode b_Main_knock 8 = .ok (.ifCond .ne 5, 3) := by decide +kernel
theorem d_Main_knock_11 : decode b_Main_knock 11 = .ok (.iconst (-1), 1) := by decide +kernel
theorem d_Main_knock_12 : decode b_Main_knock 12 = .ok (.ireturn, 1) := by decide +kernel
theorem d_Main_knock_13 : decode b_Main_knock 13 = .ok (.aload_n 0, 1) := by decide +kernel
theorem d_Main_knock_14 : decode b_Main_knock 14 = .ok (.getfield 28, 3) := by decide +kernel
theorem d_Main_knock_17 : decode b_Main_knock 17 = .ok (.getfield 109, 3) := by decide +kernel
theorem d_Main_knock_20 : decode b_Main_knock 20 = .ok (.iload_n 1, 1) := by decide +kernel
theorem d_Main_knock_21 : decode b_Main_knock 21 = .ok (.iaload, 1) := by decide +kernel
theorem d_Main_knock_22 : decode b_Main_knock 22 = .ok (.iconst 2, 1) := by decide +kernel
theorem d_Main_knock_23 : decode b_Main_knock 23 = .ok (.if_icmp .ne 10, 3) := by decide +kernel
theorem d_Main_knock_26 : decode b_Main_knock 26 = .ok (.aload_n 0, 1) := by decide +kernel
theorem d_Main_knock_27 : decode b_Main_knock 27 = .ok (.invokevirtual 266, 3) := by decide +kernel
theorem d_Main_knock_30 : decode b_Main_knock 30 = .ok (.goto 8, 3) := by decide +kernel
theorem d_Main_knock_33 : decode b_Main_knock 33 = .ok (.aload_n 0, 1) := by decide +kernel
theorem d_Main_knock_34 : decode b_Main_knock 34 = .ok (.iload_n 1, 1) := by decide +kernel
theorem d_Main_knock_35 : decode b_Main_knock 35 = .ok (.invokevirtual 269, 3) := by decide +kernel
theorem d_Main_knock_38 : decode b_Main_knock 38 = .ok (.ireturn, 1) := by decide +kernel
set_option maxRecDepth 20000 in
theorem c_Main_knock {l : Launch} {g : GG} (hI : WI g) (a1 : Int32) (M : Mem) (R : Int32 → Mem → Prop) (h : wp_Main_knock a1 M R) : Met l y_Main_knock (wm y_Main_knock b_Main_knock 2 (some .int)) (RM 2 42) (PP g M [.ref (g.2.2.2 0), .int a1]) (PQ g (RI R)) 0 0 (AW g) := by
  refine m_of (own := N_Main) (by decide) rfl (Nat.le_of_ble_eq_true rfl) ?_
  intro p e s m below meth c ls C hr hlocks hW hP hS hl
  obtain ⟨hx, hb, hml, hown, hts⟩ := id C
  have hl : lv_has ls 2 [(0, .ref (g.2.2.2 0)), (1, .int a1)] := hl
  unfold wp_Main_knock at h
  have hk := h
  refine lv_aload_n hx hb d_Main_knock_0 rfl (lv_at hl 0 rfl) ?_
  refine gf_0_2 C hW hP fl_Main_28 d_Main_knock_1 ?_
  refine lv_iload_n hx hb d_Main_knock_4 rfl (lv_at hl 1 rfl) ?_
  refine r_runZ (k_V (As := [.int a1]) (rest := []) C hW hP (c_Way_hasHouse hI a1 M _ hk) cb_Way_hasHouse ml_Main_105 (io_12 g M) ⟨by decide, by decide⟩ rfl hl.1 rfl (Nat.le_of_ble_eq_true rfl) d_Main_knock_5 ⟨by decide, by decide⟩) hS (fun r2 M1 H locs zr2 hk hP hS => ?_)
  refine lv_if_ne (tgt := 13) hx hb d_Main_knock_8 (by decide) (fun c3 => ?_) (fun c3 => ?_)
  · have hk := hk.1 c3
    refine lv_aload_n hx hb d_Main_knock_13 rfl (lv_at hl 0 rfl) ?_
    refine gf_0_2 C hW hP fl_Main_28 d_Main_knock_14 ?_
    refine gf_12_0 C hW hP fl_Main_109 d_Main_knock_17 ?_
    refine lv_iload_n hx hb d_Main_knock_20 rfl (lv_at hl 1 rfl) ?_
    obtain ⟨h4, hk⟩ := hk
    refine al_13 C hW hP h4 d_Main_knock_21 ?_
    refine lv_iconst (v := 2) hx hb d_Main_knock_22 (by decide) ?_
    refine lv_icmp_ne (tgt := 33) hx hb d_Main_knock_23 (by decide) (fun c5 => ?_) (fun c5 => ?_)
    · have hk := hk.1 c5
      refine lv_aload_n hx hb d_Main_knock_33 rfl (lv_at hl 0 rfl) ?_
      refine lv_iload_n hx hb d_Main_knock_34 rfl (lv_at hl 1 rfl) ?_
      refine r_runI (k_V (As := [.int a1]) (rest := []) C hW hP (c_Main_lentKnock hI a1 M1 _ hk) cb_Main_lentKnock ml_Main_269 (io_0 g M1) ⟨by decide, by decide⟩ rfl hl.1 rfl (Nat.le_of_ble_eq_true rfl) d_Main_knock_35 ⟨by decide, by decide⟩) hS (fun r7 M6 H locs hk hP hS => ?_)
      exact r_iret C hr hlocks hP hS hk d_Main_knock_38
    · have hk := hk.2 c5
      refine lv_aload_n hx hb d_Main_knock_26 rfl (lv_at hl 0 rfl) ?_
      refine r_runI (k_V (As := []) (rest := []) C hW hP (c_Main_ownKnock hI M1 _ hk) cb_Main_ownKnock ml_Main_266 (io_0 g M1) ⟨by decide, by decide⟩ rfl hl.1 rfl (Nat.le_of_ble_eq_true rfl) d_Main_knock_27 ⟨by decide, by decide⟩) hS (fun r9 M8 H locs hk hP hS => ?_)
      refine lv_goto (tgt := 38) hx hb d_Main_knock_30 (by decide) ?_
      exact r_iret C hr hlocks hP hS hk d_Main_knock_38
  · have hk := hk.2 c3
    refine lv_iconst (v := -1) hx hb d_Main_knock_11 (by decide) ?_
    exact r_iret C hr hlocks hP hS hk d_Main_knock_12
theorem d_Main_as_0 : decode b_Main_as 0 = .ok (.aload_n 0, 1) := by decide +kernel
theorem d_Main_as_1 : decode b_Main_as 1 = .ok (.iconst 0, 1) := by decide +kernel
theorem d_Main_as_2 : decode b_Main_as 2 = .ok (.putfield 68, 3) := by decide +kernel
theorem d_Main_as_5 : decode b_Main_as 5 = .ok (.aload_n 0, 1) := by decide +kernel
theorem d_Main_as_6 : decode b_Main_as 6 = .ok (.getfield 28, 3) := by decide +kernel
theorem d_Main_as_9 : decode b_Main_as 9 = .ok (.iload_n 1, 1) := by decide +kernel
theorem d_Main_as_10 : decode b_Main_as 10 = .ok (.invokevirtual 105, 3) := by decide +kernel
theorem d_Main_as_13 : decode b_Main_as 13 = .ok (.ifCond .ne 5, 3) := by decide +kernel
theorem d_Main_as_16 : decode b_Main_as 16 = .ok (.iconst (-1), 1) := by decide +kernel
theorem d_Main_as_17 : decode b_Main_as 17 = .ok (.ireturn, 1) := by decide +kernel
theorem d_Main_as_18 : decode b_Main_as 18 = .ok (.iload_n 2, 1) := by decide +kernel
theorem d_Main_as_19 : decode b_Main_as 19 = .ok (.iconst 3, 1) := by decide +kernel
theorem d_Main_as_20 : decode b_Main_as 20 = .ok (.invokestatic 75, 3) := by decide +kernel
theorem d_Main_as_23 : decode b_Main_as 23 = .ok (.ifCond .ne 6, 3) := by decide +kernel
theorem d_Main_as_26 : decode b_Main_as 26 = .ok (.bipush (-2), 2) := by decide +kernel
theorem d_Main_as_28 : decode b_Main_as 28 = .ok (.ireturn, 1) := by decide +kernel
theorem d_Main_as_29 : decode b_Main_as 29 = .ok (.iload_n 2, 1) := by decide +kernel
theorem d_Main_as_30 : decode b_Main_as 30 = .ok (.aload_n 0, 1) := by decide +kernel
theorem d_Main_as_31 : decode b_Main_as 31 = .ok (.getfield 28, 3) := by decide +kernel
theorem d_Main_as_34 : decode b_Main_as 34 = .ok (.getfield 109, 3) := by decide +kernel
theorem d_Main_as_37 : decode b_Main_as 37 = .ok (.iload_n 1, 1) := by decide +kernel
theorem d_Main_as_38 : decode b_Main_as 38 = .ok (.iaload, 1) := by decide +kernel
theorem d_Main_as_39 : decode b_Main_as 39 = .ok (.if_icmp .gt 7, 3) := by decide +kernel
theorem d_Main_as_42 : decode b_Main_as 42 = .ok (.iconst 1, 1) := by decide +kernel
theorem d_Main_as_43 : decode b_Main_as 43 = .ok (.goto 8, 3) := by decide +kernel
theorem d_Main_as_46 : decode b_Main_as 46 = .ok (.aload_n 0, 1) := by decide +kernel
theorem d_Main_as_47 : decode b_Main_as 47 = .ok (.iconst 2, 1) := by decide +kernel
theorem d_Main_as_48 : decode b_Main_as 48 = .ok (.invokevirtual 83, 3) := by decide +kernel
theorem d_Main_as_51 : decode b_Main_as 51 = .ok (.ireturn, 1) := by decide +kernel
set_option maxRecDepth 20000 in
theorem c_Main_as {l : Launch} {g : GG} (hI : WI g) (a1 : Int32) (a2 : Int32) (M : Mem) (R : Int32 → Mem → Prop) (h : wp_Main_as a1 a2 M R) : Met l y_Main_as (wm y_Main_as b_Main_as 3 (some .int)) (RM 2 42) (PP g M [.ref (g.2.2.2 0), .int a1, .int a2]) (PQ g (RI R)) 0 0 (AW g) := by
  refine m_of (own := N_Main) (by decide) rfl (Nat.le_of_ble_eq_true rfl) ?_
  intro p e s m below meth c ls C hr hlocks hW hP hS hl
  obtain ⟨hx, hb, hml, hown, hts⟩ := id C
  have hl : lv_has ls 3 [(0, .ref (g.2.2.2 0)), (1, .int a1), (2, .int a2)] := hl
  unfold wp_Main_as at h
  have hk := h
  refine lv_aload_n hx hb d_Main_as_0 rfl (lv_at hl 0 rfl) ?_
  refine lv_iconst (v := 0) hx hb d_Main_as_1 (by decide) ?_
  refine pf_0_8 hI C hW hP hS fl_Main_68 d_Main_as_2 (fun M1 eM1 H locs hP hS => ?_)
  have hk := hk M1 eM1
  refine lv_aload_n hx hb d_Main_as_5 rfl (lv_at hl 0 rfl) ?_
  refine gf_0_2 C hW hP fl_Main_28 d_Main_as_6 ?_
  refine lv_iload_n hx hb d_Main_as_9 rfl (lv_at hl 1 rfl) ?_
  refine r_runZ (k_V (As := [.int a1]) (rest := []) C hW hP (c_Way_hasHouse hI a1 M1 _ hk) cb_Way_hasHouse ml_Main_105 (io_12 g M1) ⟨by decide, by decide⟩ rfl hl.1 rfl (Nat.le_of_ble_eq_true rfl) d_Main_as_10 ⟨by decide, by decide⟩) hS (fun r3 M2 H locs zr3 hk hP hS => ?_)
  refine lv_if_ne (tgt := 18) hx hb d_Main_as_13 (by decide) (fun c4 => ?_) (fun c4 => ?_)
  · have hk := hk.1 c4
    refine lv_iload_n hx hb d_Main_as_18 rfl (lv_at hl 2 rfl) ?_
    refine lv_iconst (v := 3) hx hb d_Main_as_19 (by decide) ?_
    refine r_runZ (k_S (As := [.int a2, .int (3 : Int32)]) (rest := []) C hW hP (c_Main_isBelow hI a2 (3 : Int32) M2 _ hk) cb_Main_isBelow ml_Main_75 ⟨by decide, by decide⟩ rfl hl.1 rfl (Nat.le_of_ble_eq_true rfl) d_Main_as_20 ⟨by decide, by decide⟩) hS (fun r6 M5 H locs zr6 hk hP hS => ?_)
    refine lv_if_ne (tgt := 29) hx hb d_Main_as_23 (by decide) (fun c7 => ?_) (fun c7 => ?_)
    · have hk := hk.1 c7
      refine lv_iload_n hx hb d_Main_as_29 rfl (lv_at hl 2 rfl) ?_
      refine lv_aload_n hx hb d_Main_as_30 rfl (lv_at hl 0 rfl) ?_
      refine gf_0_2 C hW hP fl_Main_28 d_Main_as_31 ?_
      refine gf_12_0 C hW hP fl_Main_109 d_Main_as_34 ?_
      refine lv_iload_n hx hb d_Main_as_37 rfl (lv_at hl 1 rfl) ?_
      obtain ⟨h8, hk⟩ := hk
      refine al_13 C hW hP h8 d_Main_as_38 ?_
      refine lv_icmp_gt (tgt := 46) hx hb d_Main_as_39 (by decide) (fun c9 => ?_) (fun c9 => ?_)
      · have hk := hk.1 c9
        refine lv_aload_n hx hb d_Main_as_46 rfl (lv_at hl 0 rfl) ?_
        refine lv_iconst (v := 2) hx hb d_Main_as_47 (by decide) ?_
        refine r_runI (k_V (As := [.int (2 : Int32)]) (rest := []) C hW hP (c_Main_failed hI (2 : Int32) M5 _ hk) cb_Main_failed ml_Main_83 (io_0 g M5) ⟨by decide, by decide⟩ rfl hl.1 rfl (Nat.le_of_ble_eq_true rfl) d_Main_as_48 ⟨by decide, by decide⟩) hS (fun r11 M10 H locs hk hP hS => ?_)
        exact r_iret C hr hlocks hP hS hk d_Main_as_51
      · have hk := hk.2 c9
        refine lv_iconst (v := 1) hx hb d_Main_as_42 (by decide) ?_
        refine lv_goto (tgt := 51) hx hb d_Main_as_43 (by decide) ?_
        exact r_iret C hr hlocks hP hS hk d_Main_as_51
    · have hk := hk.2 c7
      refine lv_bipush (v := -2) hx hb d_Main_as_26 (by decide) ?_
      exact r_iret C hr hlocks hP hS hk d_Main_as_28
  · have hk := hk.2 c4
    refine lv_iconst (v := -1) hx hb d_Main_as_16 (by decide) ?_
    exact r_iret C hr hlocks hP hS hk d_Main_as_17
theorem d_Main_trace_0 : decode b_Main_trace 0 = .ok (.aload_n 0, 1) := by decide +kernel
theorem d_Main_trace_1 : decode b_Main_trace 1 = .ok (.getfield 64, 3) := by decide +kernel
theorem d_Main_trace_4 : decode b_Main_trace 4 = .ok (.ireturn, 1) := by decide +kernel
set_option maxRecDepth 20000 in
theorem c_Main_trace {l : Launch} {g : GG} (hI : WI g) (M : Mem) (R : Int32 → Mem → Prop) (h : wp_Main_trace  M R) : Met l y_Main_trace (wm y_Main_trace b_Main_trace 1 (some .int)) (RM 0 0) (PP g M [.ref (g.2.2.2 0)]) (PQ g (RI R)) 0 0 (AW g) := by
  refine m_of (own := N_Main) (by decide) rfl (Nat.le_of_ble_eq_true rfl) ?_
  intro p e s m below meth c ls C hr hlocks hW hP hS hl
  obtain ⟨hx, hb, hml, hown, hts⟩ := id C
  have hl : lv_has ls 1 [(0, .ref (g.2.2.2 0))] := hl
  unfold wp_Main_trace at h
  have hk := h
  refine lv_aload_n hx hb d_Main_trace_0 rfl (lv_at hl 0 rfl) ?_
  refine gf_0_7 C hW hP fl_Main_64 d_Main_trace_1 ?_
  exact r_iret C hr hlocks hP hS hk d_Main_trace_4
theorem d_Main_fault_0 : decode b_Main_fault 0 = .ok (.aload_n 0, 1) := by decide +kernel
theorem d_Main_fault_1 : decode b_Main_fault 1 = .ok (.getfield 68, 3) := by decide +kernel
theorem d_Main_fault_4 : decode b_Main_fault 4 = .ok (.ireturn, 1) := by decide +kernel
set_option maxRecDepth 20000 in
theorem c_Main_fault {l : Launch} {g : GG} (hI : WI g) (M : Mem) (R : Int32 → Mem → Prop) (h : wp_Main_fault  M R) : Met l y_Main_fault (wm y_Main_fault b_Main_fault 1 (some .int)) (RM 0 0) (PP g M [.ref (g.2.2.2 0)]) (PQ g (RI R)) 0 0 (AW g) := by
  refine m_of (own := N_Main) (by decide) rfl (Nat.le_of_ble_eq_true rfl) ?_
  intro p e s m below meth c ls C hr hlocks hW hP hS hl
  obtain ⟨hx, hb, hml, hown, hts⟩ := id C
  have hl : lv_has ls 1 [(0, .ref (g.2.2.2 0))] := hl
  unfold wp_Main_fault at h
  have hk := h
  refine lv_aload_n hx hb d_Main_fault_0 rfl (lv_at hl 0 rfl) ?_
  refine gf_0_8 C hW hP fl_Main_68 d_Main_fault_1 ?_
  exact r_iret C hr hlocks hP hS hk d_Main_fault_4
theorem d_Main_many_0 : decode b_Main_many 0 = .ok (.iload_n 1, 1) := by decide +kernel
theorem d_Main_many_1 : decode b_Main_many 1 = .ok (.tableswitch 51 0 2 #[27, 35, 43], 27) := by decide +kernel
theorem d_Main_many_28 : decode b_Main_many 28 = .ok (.aload_n 0, 1) := by decide +kernel
theorem d_Main_many_29 : decode b_Main_many 29 = .ok (.getfield 28, 3) := by decide +kernel
theorem d_Main_many_32 : decode b_Main_many 32 = .ok (.getfield 102, 3) := by decide +kernel
theorem d_Main_many_35 : decode b_Main_many 35 = .ok (.ireturn, 1) := by decide +kernel
theorem d_Main_many_36 : decode b_Main_many 36 = .ok (.aload_n 0, 1) := by decide +kernel
theorem d_Main_many_37 : decode b_Main_many 37 = .ok (.getfield 28, 3) := by decide +kernel
theorem d_Main_many_40 : decode b_Main_many 40 = .ok (.getfield 172, 3) := by decide +kernel
theorem d_Main_many_43 : decode b_Main_many 43 = .ok (.ireturn, 1) := by decide +kernel
theorem d_Main_many_44 : decode b_Main_many 44 = .ok (.aload_n 0, 1) := by decide +kernel
theorem d_Main_many_45 : decode b_Main_many 45 = .ok (.getfield 60, 3) := by decide +kernel
theorem d_Main_many_48 : decode b_Main_many 48 = .ok (.getfield 99, 3) := by decide +kernel
theorem d_Main_many_51 : decode b_Main_many 51 = .ok (.ireturn, 1) := by decide +kernel
theorem d_Main_many_52 : decode b_Main_many 52 = .ok (.bipush (-2), 2) := by decide +kernel
theorem d_Main_many_54 : decode b_Main_many 54 = .ok (.ireturn, 1) := by decide +kernel
set_option maxRecDepth 20000 in
theorem c_Main_many {l : Launch} {g : GG} (hI : WI g) (a1 : Int32) (M : Mem) (R : Int32 → Mem → Prop) (h : wp_Main_many a1 M R) : Met l y_Main_many (wm y_Main_many b_Main_many 2 (some .int)) (RM 0 0) (PP g M [.ref (g.2.2.2 0), .int a1]) (PQ g (RI R)) 0 0 (AW g) := by
  refine m_of (own := N_Main) (by decide) rfl (Nat.le_of_ble_eq_true rfl) ?_
  intro p e s m below meth c ls C hr hlocks hW hP hS hl
  obtain ⟨hx, hb, hml, hown, hts⟩ := id C
  have hl : lv_has ls 2 [(0, .ref (g.2.2.2 0)), (1, .int a1)] := hl
  unfold wp_Main_many at h
  have hk := h
  refine lv_iload_n hx hb d_Main_many_0 rfl (lv_at hl 1 rfl) ?_
  by_cases c1 : a1 = (0 : Int32)
  · have hk := hk.1 c1
    refine lv_tableIn (tgt := 28) hx hb d_Main_many_1 (by rw [c1]; decide) (by rw [c1]; decide) (by rw [c1] <;> rfl) (by decide) ?_
    refine lv_aload_n hx hb d_Main_many_28 rfl (lv_at hl 0 rfl) ?_
    refine gf_0_2 C hW hP fl_Main_28 d_Main_many_29 ?_
    refine gf_12_5 C hW hP fl_Main_102 d_Main_many_32 ?_
    exact r_iret C hr hlocks hP hS hk d_Main_many_35
  · have hk := hk.2 c1
    by_cases c2 : a1 = (1 : Int32)
    · have hk := hk.1 c2
      refine lv_tableIn (tgt := 36) hx hb d_Main_many_1 (by rw [c2]; decide) (by rw [c2]; decide) (by rw [c2] <;> rfl) (by decide) ?_
      refine lv_aload_n hx hb d_Main_many_36 rfl (lv_at hl 0 rfl) ?_
      refine gf_0_2 C hW hP fl_Main_28 d_Main_many_37 ?_
      refine gf_12_6 C hW hP fl_Main_172 d_Main_many_40 ?_
      exact r_iret C hr hlocks hP hS hk d_Main_many_43
    · have hk := hk.2 c2
      by_cases c3 : a1 = (2 : Int32)
      · have hk := hk.1 c3
        refine lv_tableIn (tgt := 44) hx hb d_Main_many_1 (by rw [c3]; decide) (by rw [c3]; decide) (by rw [c3] <;> rfl) (by decide) ?_
        refine lv_aload_n hx hb d_Main_many_44 rfl (lv_at hl 0 rfl) ?_
        refine gf_0_6 C hW hP fl_Main_60 d_Main_many_45 ?_
        refine gf_26_4 C hW hP fl_Main_99 d_Main_many_48 ?_
        exact r_iret C hr hlocks hP hS hk d_Main_many_51
      · have hk := hk.2 c3
        refine lv_tableOut (tgt := 52) hx hb d_Main_many_1 (by have n0 := sw_ne (k := 0) c1; have n1 := sw_ne (k := 1) c2; have n2 := sw_ne (k := 2) c3; omega) (by decide) ?_
        refine lv_bipush (v := -2) hx hb d_Main_many_52 (by decide) ?_
        exact r_iret C hr hlocks hP hS hk d_Main_many_54
theorem d_Model_within_0 : decode b_Model_within 0 = .ok (.iload_n 0, 1) := by decide +kernel
theorem d_Model_within_1 : decode b_Model_within 1 = .ok (.iload_n 1, 1) := by decide +kernel
theorem d_Model_within_2 : decode b_Model_within 2 = .ok (.if_icmp .lt 12, 3) := by decide +kernel
theorem d_Model_within_5 : decode b_Model_within 5 = .ok (.iload_n 0, 1) := by decide +kernel
theorem d_Model_within_6 : decode b_Model_within 6 = .ok (.iload_n 2, 1) := by decide +kernel
theorem d_Model_within_7 : decode b_Model_within 7 = .ok (.if_icmp .gt 7, 3) := by decide +kernel
theorem d_Model_within_10 : decode b_Model_within 10 = .ok (.iconst 1, 1) := by decide +kernel
theorem d_Model_within_11 : decode b_Model_within 11 = .ok (.goto 4, 3) := by decide +kernel
theorem d_Model_within_14 : decode b_Model_within 14 = .ok (.iconst 0, 1) := by decide +kernel
theorem d_Model_within_15 : decode b_Model_within 15 = .ok (.ireturn, 1) := by decide +kernel
set_option maxRecDepth 20000 in
theorem c_Model_within {l : Launch} {g : GG} (hI : WI g) (a0 : Int32) (a1 : Int32) (a2 : Int32) (M : Mem) (R : Int32 → Mem → Prop) (h : wp_Model_within a0 a1 a2 M R) : Met l y_Model_within (wm y_Model_within b_Model_within 3 (some .boolean)) (RM 0 0) (PP g M [.int a0, .int a1, .int a2]) (PQ g (RZ R)) 0 0 (AW g) := by
  refine m_of (own := N_Model) (by decide) rfl (Nat.le_of_ble_eq_true rfl) ?_
  intro p e s m below meth c ls C hr hlocks hW hP hS hl
  obtain ⟨hx, hb, hml, hown, hts⟩ := id C
  have hl : lv_has ls 3 [(0, .int a0), (1, .int a1), (2, .int a2)] := hl
  unfold wp_Model_within at h
  have hk := h
  refine lv_iload_n hx hb d_Model_within_0 rfl (lv_at hl 0 rfl) ?_
  refine lv_iload_n hx hb d_Model_within_1 rfl (lv_at hl 1 rfl) ?_
  refine lv_icmp_lt (tgt := 14) hx hb d_Model_within_2 (by decide) (fun c1 => ?_) (fun c1 => ?_)
  · have hk := hk.1 c1
    refine lv_iconst (v := 0) hx hb d_Model_within_14 (by decide) ?_
    exact r_zret rfl C hr hlocks hP hS hk d_Model_within_15
  · have hk := hk.2 c1
    refine lv_iload_n hx hb d_Model_within_5 rfl (lv_at hl 0 rfl) ?_
    refine lv_iload_n hx hb d_Model_within_6 rfl (lv_at hl 2 rfl) ?_
    refine lv_icmp_gt (tgt := 14) hx hb d_Model_within_7 (by decide) (fun c2 => ?_) (fun c2 => ?_)
    · have hk := hk.1 c2
      refine lv_iconst (v := 0) hx hb d_Model_within_14 (by decide) ?_
      exact r_zret rfl C hr hlocks hP hS hk d_Model_within_15
    · have hk := hk.2 c2
      refine lv_iconst (v := 1) hx hb d_Model_within_10 (by decide) ?_
      refine lv_goto (tgt := 15) hx hb d_Model_within_11 (by decide) ?_
      exact r_zret rfl C hr hlocks hP hS hk d_Model_within_15
theorem d_Model_isSheet_0 : decode b_Model_isSheet 0 = .ok (.iload_n 0, 1) := by decide +kernel
theorem d_Model_isSheet_1 : decode b_Model_isSheet 1 = .ok (.iconst 0, 1) := by decide +kernel
theorem d_Model_isSheet_2 : decode b_Model_isSheet 2 = .ok (.iconst 3, 1) := by decide +kernel
theorem d_Model_isSheet_3 : decode b_Model_isSheet 3 = .ok (.invokestatic 67, 3) := by decide +kernel
theorem d_Model_isSheet_6 : decode b_Model_isSheet 6 = .ok (.ireturn, 1) := by decide +kernel
set_option maxRecDepth 20000 in
theorem c_Model_isSheet {l : Launch} {g : GG} (hI : WI g) (a0 : Int32) (M : Mem) (R : Int32 → Mem → Prop) (h : wp_Model_isSheet a0 M R) : Met l y_Model_isSheet (wm y_Model_isSheet b_Model_isSheet 1 (some .boolean)) (RM 1 22) (PP g M [.int a0]) (PQ g (RZ R)) 0 0 (AW g) := by
  refine m_of (own := N_Model) (by decide) rfl (Nat.le_of_ble_eq_true rfl) ?_
  intro p e s m below meth c ls C hr hlocks hW hP hS hl
  obtain ⟨hx, hb, hml, hown, hts⟩ := id C
  have hl : lv_has ls 1 [(0, .int a0)] := hl
  unfold wp_Model_isSheet at h
  have hk := h
  refine lv_iload_n hx hb d_Model_isSheet_0 rfl (lv_at hl 0 rfl) ?_
  refine lv_iconst (v := 0) hx hb d_Model_isSheet_1 (by decide) ?_
  refine lv_iconst (v := 3) hx hb d_Model_isSheet_2 (by decide) ?_
  refine r_runZ (k_S (As := [.int a0, .int (0 : Int32), .int (3 : Int32)]) (rest := []) C hW hP (c_Model_within hI a0 (0 : Int32) (3 : Int32) M _ hk) cb_Model_within ml_Model_67 ⟨by decide, by decide⟩ rfl hl.1 rfl (Nat.le_of_ble_eq_true rfl) d_Model_isSheet_3 ⟨by decide, by decide⟩) hS (fun r2 M1 H locs zr2 hk hP hS => ?_)
  exact r_zret zr2 C hr hlocks hP hS hk d_Model_isSheet_6
theorem d_Model_isSort_0 : decode b_Model_isSort 0 = .ok (.iload_n 0, 1) := by decide +kernel
theorem d_Model_isSort_1 : decode b_Model_isSort 1 = .ok (.iconst 0, 1) := by decide +kernel
theorem d_Model_isSort_2 : decode b_Model_isSort 2 = .ok (.iconst 2, 1) := by decide +kernel
theorem d_Model_isSort_3 : decode b_Model_isSort 3 = .ok (.invokestatic 67, 3) := by decide +kernel
theorem d_Model_isSort_6 : decode b_Model_isSort 6 = .ok (.ireturn, 1) := by decide +kernel
set_option maxRecDepth 20000 in
theorem c_Model_isSort {l : Launch} {g : GG} (hI : WI g) (a0 : Int32) (M : Mem) (R : Int32 → Mem → Prop) (h : wp_Model_isSort a0 M R) : Met l y_Model_isSort (wm y_Model_isSort b_Model_isSort 1 (some .boolean)) (RM 1 22) (PP g M [.int a0]) (PQ g (RZ R)) 0 0 (AW g) := by
  refine m_of (own := N_Model) (by decide) rfl (Nat.le_of_ble_eq_true rfl) ?_
  intro p e s m below meth c ls C hr hlocks hW hP hS hl
  obtain ⟨hx, hb, hml, hown, hts⟩ := id C
  have hl : lv_has ls 1 [(0, .int a0)] := hl
  unfold wp_Model_isSort at h
  have hk := h
  refine lv_iload_n hx hb d_Model_isSort_0 rfl (lv_at hl 0 rfl) ?_
  refine lv_iconst (v := 0) hx hb d_Model_isSort_1 (by decide) ?_
  refine lv_iconst (v := 2) hx hb d_Model_isSort_2 (by decide) ?_
  refine r_runZ (k_S (As := [.int a0, .int (0 : Int32), .int (2 : Int32)]) (rest := []) C hW hP (c_Model_within hI a0 (0 : Int32) (2 : Int32) M _ hk) cb_Model_within ml_Model_67 ⟨by decide, by decide⟩ rfl hl.1 rfl (Nat.le_of_ble_eq_true rfl) d_Model_isSort_3 ⟨by decide, by decide⟩) hS (fun r2 M1 H locs zr2 hk hP hS => ?_)
  exact r_zret zr2 C hr hlocks hP hS hk d_Model_isSort_6
theorem d_Model_against_0 : decode b_Model_against 0 = .ok (.aload_n 0, 1) := by decide +kernel
theorem d_Model_against_1 : decode b_Model_against 1 = .ok (.getfield 9, 3) := by decide +kernel
theorem d_Model_against_4 : decode b_Model_against 4 = .ok (.iload_n 1, 1) := by decide +kernel
theorem d_Model_against_5 : decode b_Model_against 5 = .ok (.iaload, 1) := by decide +kernel
theorem d_Model_against_6 : decode b_Model_against 6 = .ok (.bipush (-9), 2) := by decide +kernel
theorem d_Model_against_8 : decode b_Model_against 8 = .ok (.if_icmp .eq 15, 3) := by decide +kernel
theorem d_Model_against_11 : decode b_Model_against 11 = .ok (.aload_n 0, 1) := by decide +kernel
theorem d_Model_against_12 : decode b_Model_against 12 = .ok (.getfield 9, 3) := by decide +kernel
theorem d_Model_against_15 : decode b_Model_against 15 = .ok (.iload_n 1, 1) := by decide +kernel
theorem d_Model_against_16 : decode b_Model_against 16 = .ok (.iaload, 1) := by decide +kernel
theorem d_Model_against_17 : decode b_Model_against 17 = .ok (.iload_n 2, 1) := by decide +kernel
theorem d_Model_against_18 : decode b_Model_against 18 = .ok (.if_icmp .eq 5, 3) := by decide +kernel
theorem d_Model_against_21 : decode b_Model_against 21 = .ok (.iconst 2, 1) := by decide +kernel
theorem d_Model_against_22 : decode b_Model_against 22 = .ok (.ireturn, 1) := by decide +kernel
theorem d_Model_against_23 : decode b_Model_against 23 = .ok (.aload_n 0, 1) := by decide +kernel
theorem d_Model_against_24 : decode b_Model_against 24 = .ok (.getfield 9, 3) := by decide +kernel
theorem d_Model_against_27 : decode b_Model_against 27 = .ok (.iload_n 1, 1) := by decide +kernel
theorem d_Model_against_28 : decode b_Model_against 28 = .ok (.iaload, 1) := by decide +kernel
theorem d_Model_against_29 : decode b_Model_against 29 = .ok (.bipush (-9), 2) := by decide +kernel
theorem d_Model_against_31 : decode b_Model_against 31 = .ok (.if_icmp .ne 5, 3) := by decide +kernel
theorem d_Model_against_34 : decode b_Model_against 34 = .ok (.iconst 1, 1) := by decide +kernel
theorem d_Model_against_35 : decode b_Model_against 35 = .ok (.ireturn, 1) := by decide +kernel
theorem d_Model_against_36 : decode b_Model_against 36 = .ok (.iload 4, 2) := by decide +kernel
theorem d_Model_against_38 : decode b_Model_against 38 = .ok (.ifCond .ge 5, 3) := by decide +kernel
theorem d_Model_against_41 : decode b_Model_against 41 = .ok (.iconst 4, 1) := by decide +kernel
theorem d_Model_against_42 : decode b_Model_against 42 = .ok (.ireturn, 1) := by decide +kernel
theorem d_Model_against_43 : decode b_Model_against 43 = .ok (.iload_n 3, 1) := by decide +kernel
theorem d_Model_against_44 : decode b_Model_against 44 = .ok (.ifCond .lt 26, 3) := by decide +kernel
theorem d_Model_against_47 : decode b_Model_against 47 = .ok (.iload_n 3, 1) := by decide +kernel
theorem d_Model_against_48 : decode b_Model_against 48 = .ok (.aload_n 0, 1) := by decide +kernel
theorem d_Model_against_49 : decode b_Model_against 49 = .ok (.getfield 13, 3) := by decide +kernel
theorem d_Model_against_52 : decode b_Model_against 52 = .ok (.iload_n 1, 1) := by decide +kernel
theorem d_Model_against_53 : decode b_Model_against 53 = .ok (.iaload, 1) := by decide +kernel
theorem d_Model_against_54 : decode b_Model_against 54 = .ok (.if_icmp .gt 16, 3) := by decide +kernel
theorem d_Model_against_57 : decode b_Model_against 57 = .ok (.iload 4, 2) := by decide +kernel
theorem d_Model_against_59 : decode b_Model_against 59 = .ok (.aload_n 0, 1) := by decide +kernel
theorem d_Model_against_60 : decode b_Model_against 60 = .ok (.getfield 13, 3) := by decide +kernel
theorem d_Model_against_63 : decode b_Model_against 63 = .ok (.iload_n 1, 1) := by decide +kernel
theorem d_Model_against_64 : decode b_Model_against 64 = .ok (.iaload, 1) := by decide +kernel
theorem d_Model_against_65 : decode b_Model_against 65 = .ok (.iload_n 3, 1) := by decide +kernel
theorem d_Model_against_66 : decode b_Model_against 66 = .ok (.isub, 1) := by decide +kernel
theorem d_Model_against_67 : decode b_Model_against 67 = .ok (.if_icmp .le 7, 3) := by decide +kernel
theorem d_Model_against_70 : decode b_Model_against 70 = .ok (.iconst 3, 1) := by decide +kernel
theorem d_Model_against_71 : decode b_Model_against 71 = .ok (.goto 4, 3) := by decide +kernel
theorem d_Model_against_74 : decode b_Model_against 74 = .ok (.iconst 0, 1) := by decide +kernel
theorem d_Model_against_75 : decode b_Model_against 75 = .ok (.ireturn, 1) := by decide +kernel
set_option maxRecDepth 20000 in
theorem c_Model_against {l : Launch} {g : GG} (hI : WI g) (a1 : Int32) (a2 : Int32) (a3 : Int32) (a4 : Int32) (M : Mem) (R : Int32 → Mem → Prop) (h : wp_Model_against a1 a2 a3 a4 M R) : Met l y_Model_against (wm y_Model_against b_Model_against 5 (some .int)) (RM 0 0) (PP g M [.ref (g.2.2.2 29), .int a1, .int a2, .int a3, .int a4]) (PQ g (RI R)) 0 0 (AW g) := by
  refine m_of (own := N_Model) (by decide) rfl (Nat.le_of_ble_eq_true rfl) ?_
  intro p e s m below meth c ls C hr hlocks hW hP hS hl
  obtain ⟨hx, hb, hml, hown, hts⟩ := id C
  have hl : lv_has ls 5 [(0, .ref (g.2.2.2 29)), (1, .int a1), (2, .int a2), (3, .int a3), (4, .int a4)] := hl
  unfold wp_Model_against at h
  have J23 : ∀ (x1 : Int32) (x3 : Int32) (x4 : Int32) (M : Mem), wp_Model_against_23  R x1 x3 x4 M → ∀ (H : Heap) (locs : List Loc) (ls : Array Slot), WP g M H → va_S (AW g) s.heap H locs → lv_has ls 5 [(0, .ref (g.2.2.2 29)), (1, .int x1), (3, .int x3), (4, .int x4)] → W p l e (RM 0 0) s m ([.ref (g.2.2.2 29), .int a1, .int a2, .int a3, .int a4] : List Value).toArray below meth c H locs 0 0 (MQ below (PQ g (RI R)) ([.ref (g.2.2.2 29), .int a1, .int a2, .int a3, .int a4] : List Value).toArray s 0 0 (AW g)) (F0 m 23 ls []) := by
    intro x1 x3 x4 M hk H locs ls hP hS hl
    unfold wp_Model_against_23 at hk
    refine lv_aload_n hx hb d_Model_against_23 rfl (lv_at hl 0 rfl) ?_
    refine gf_29_2 C hW hP fl_Model_9 d_Model_against_24 ?_
    refine lv_iload_n hx hb d_Model_against_27 rfl (lv_at hl 1 rfl) ?_
    obtain ⟨h1, hk⟩ := hk
    refine al_30 C hW hP h1 d_Model_against_28 ?_
    refine lv_bipush (v := -9) hx hb d_Model_against_29 (by decide) ?_
    refine lv_icmp_ne (tgt := 36) hx hb d_Model_against_31 (by decide) (fun c2 => ?_) (fun c2 => ?_)
    · have hk := hk.1 c2
      refine lv_iload hx hb d_Model_against_36 (lv_at hl 3 rfl) ?_
      refine lv_if_ge (tgt := 43) hx hb d_Model_against_38 (by decide) (fun c3 => ?_) (fun c3 => ?_)
      · have hk := hk.1 c3
        refine lv_iload_n hx hb d_Model_against_43 rfl (lv_at hl 2 rfl) ?_
        refine lv_if_lt (tgt := 70) hx hb d_Model_against_44 (by decide) (fun c4 => ?_) (fun c4 => ?_)
        · have hk := hk.1 c4
          refine lv_iconst (v := 3) hx hb d_Model_against_70 (by decide) ?_
          refine lv_goto (tgt := 75) hx hb d_Model_against_71 (by decide) ?_
          exact r_iret C hr hlocks hP hS hk d_Model_against_75
        · have hk := hk.2 c4
          refine lv_iload_n hx hb d_Model_against_47 rfl (lv_at hl 2 rfl) ?_
          refine lv_aload_n hx hb d_Model_against_48 rfl (lv_at hl 0 rfl) ?_
          refine gf_29_3 C hW hP fl_Model_13 d_Model_against_49 ?_
          refine lv_iload_n hx hb d_Model_against_52 rfl (lv_at hl 1 rfl) ?_
          obtain ⟨h5, hk⟩ := hk
          refine al_31 C hW hP h5 d_Model_against_53 ?_
          refine lv_icmp_gt (tgt := 70) hx hb d_Model_against_54 (by decide) (fun c6 => ?_) (fun c6 => ?_)
          · have hk := hk.1 c6
            refine lv_iconst (v := 3) hx hb d_Model_against_70 (by decide) ?_
            refine lv_goto (tgt := 75) hx hb d_Model_against_71 (by decide) ?_
            exact r_iret C hr hlocks hP hS hk d_Model_against_75
          · have hk := hk.2 c6
            refine lv_iload hx hb d_Model_against_57 (lv_at hl 3 rfl) ?_
            refine lv_aload_n hx hb d_Model_against_59 rfl (lv_at hl 0 rfl) ?_
            refine gf_29_3 C hW hP fl_Model_13 d_Model_against_60 ?_
            refine lv_iload_n hx hb d_Model_against_63 rfl (lv_at hl 1 rfl) ?_
            obtain ⟨h7, hk⟩ := hk
            refine al_31 C hW hP h7 d_Model_against_64 ?_
            refine lv_iload_n hx hb d_Model_against_65 rfl (lv_at hl 2 rfl) ?_
            refine lv_isub hx hb d_Model_against_66 ?_
            refine lv_icmp_le (tgt := 74) hx hb d_Model_against_67 (by decide) (fun c8 => ?_) (fun c8 => ?_)
            · have hk := hk.1 c8
              refine lv_iconst (v := 0) hx hb d_Model_against_74 (by decide) ?_
              exact r_iret C hr hlocks hP hS hk d_Model_against_75
            · have hk := hk.2 c8
              refine lv_iconst (v := 3) hx hb d_Model_against_70 (by decide) ?_
              refine lv_goto (tgt := 75) hx hb d_Model_against_71 (by decide) ?_
              exact r_iret C hr hlocks hP hS hk d_Model_against_75
      · have hk := hk.2 c3
        refine lv_iconst (v := 4) hx hb d_Model_against_41 (by decide) ?_
        exact r_iret C hr hlocks hP hS hk d_Model_against_42
    · have hk := hk.2 c2
      refine lv_iconst (v := 1) hx hb d_Model_against_34 (by decide) ?_
      exact r_iret C hr hlocks hP hS hk d_Model_against_35
  have hk := h
  refine lv_aload_n hx hb d_Model_against_0 rfl (lv_at hl 0 rfl) ?_
  refine gf_29_2 C hW hP fl_Model_9 d_Model_against_1 ?_
  refine lv_iload_n hx hb d_Model_against_4 rfl (lv_at hl 1 rfl) ?_
  obtain ⟨h9, hk⟩ := hk
  refine al_30 C hW hP h9 d_Model_against_5 ?_
  refine lv_bipush (v := -9) hx hb d_Model_against_6 (by decide) ?_
  refine lv_icmp_eq (tgt := 23) hx hb d_Model_against_8 (by decide) (fun c10 => ?_) (fun c10 => ?_)
  · have hk := hk.1 c10
    exact J23 a1 a3 a4 M hk _ _ _ hP hS (lv_sub hl [0, 1, 3, 4] rfl)
  · have hk := hk.2 c10
    refine lv_aload_n hx hb d_Model_against_11 rfl (lv_at hl 0 rfl) ?_
    refine gf_29_2 C hW hP fl_Model_9 d_Model_against_12 ?_
    refine lv_iload_n hx hb d_Model_against_15 rfl (lv_at hl 1 rfl) ?_
    obtain ⟨h11, hk⟩ := hk
    refine al_30 C hW hP h11 d_Model_against_16 ?_
    refine lv_iload_n hx hb d_Model_against_17 rfl (lv_at hl 2 rfl) ?_
    refine lv_icmp_eq (tgt := 23) hx hb d_Model_against_18 (by decide) (fun c12 => ?_) (fun c12 => ?_)
    · have hk := hk.1 c12
      exact J23 a1 a3 a4 M hk _ _ _ hP hS (lv_sub hl [0, 1, 3, 4] rfl)
    · have hk := hk.2 c12
      refine lv_iconst (v := 2) hx hb d_Model_against_21 (by decide) ?_
      exact r_iret C hr hlocks hP hS hk d_Model_against_22
theorem d_Model_fails_0 : decode b_Model_fails 0 = .ok (.aload_n 0, 1) := by decide +kernel
theorem d_Model_fails_1 : decode b_Model_fails 1 = .ok (.iload_n 1, 1) := by decide +kernel
theorem d_Model_fails_2 : decode b_Model_fails 2 = .ok (.putfield 62, 3) := by decide +kernel
theorem d_Model_fails_5 : decode b_Model_fails 5 = .ok (.bipush (-10), 2) := by decide +kernel
theorem d_Model_fails_7 : decode b_Model_fails 7 = .ok (.iload_n 1, 1) := by decide +kernel
theorem d_Model_fails_8 : decode b_Model_fails 8 = .ok (.isub, 1) := by decide +kernel
theorem d_Model_fails_9 : decode b_Model_fails 9 = .ok (.ireturn, 1) := by decide +kernel
set_option maxRecDepth 20000 in
theorem c_Model_fails {l : Launch} {g : GG} (hI : WI g) (a1 : Int32) (M : Mem) (R : Int32 → Mem → Prop) (h : wp_Model_fails a1 M R) : Met l y_Model_fails (wm y_Model_fails b_Model_fails 2 (some .int)) (RM 0 0) (PP g M [.ref (g.2.2.2 29), .int a1]) (PQ g (RI R)) 0 0 (AW g) := by
  refine m_of (own := N_Model) (by decide) rfl (Nat.le_of_ble_eq_true rfl) ?_
  intro p e s m below meth c ls C hr hlocks hW hP hS hl
  obtain ⟨hx, hb, hml, hown, hts⟩ := id C
  have hl : lv_has ls 2 [(0, .ref (g.2.2.2 29)), (1, .int a1)] := hl
  unfold wp_Model_fails at h
  have hk := h
  refine lv_aload_n hx hb d_Model_fails_0 rfl (lv_at hl 0 rfl) ?_
  refine lv_iload_n hx hb d_Model_fails_1 rfl (lv_at hl 1 rfl) ?_
  refine pf_29_0 hI C hW hP hS fl_Model_62 d_Model_fails_2 (fun M1 eM1 H locs hP hS => ?_)
  have hk := hk M1 eM1
  refine lv_bipush (v := -10) hx hb d_Model_fails_5 (by decide) ?_
  refine lv_iload_n hx hb d_Model_fails_7 rfl (lv_at hl 1 rfl) ?_
  refine lv_isub hx hb d_Model_fails_8 ?_
  exact r_iret C hr hlocks hP hS hk d_Model_fails_9
theorem d_Model_isSign_0 : decode b_Model_isSign 0 = .ok (.aload_n 0, 1) := by decide +kernel
theorem d_Model_isSign_1 : decode b_Model_isSign 1 = .ok (.getfield 77, 3) := by decide +kernel
theorem d_Model_isSign_4 : decode b_Model_isSign 4 = .ok (.iload_n 1, 1) := by decide +kernel
theorem d_Model_isSign_5 : decode b_Model_isSign 5 = .ok (.if_icmp .ge 16, 3) := by decide +kernel
theorem d_Model_isSign_8 : decode b_Model_isSign 8 = .ok (.aload_n 0, 1) := by decide +kernel
theorem d_Model_isSign_9 : decode b_Model_isSign 9 = .ok (.getfield 16, 3) := by decide +kernel
theorem d_Model_isSign_12 : decode b_Model_isSign 12 = .ok (.aload_n 0, 1) := by decide +kernel
theorem d_Model_isSign_13 : decode b_Model_isSign 13 = .ok (.getfield 77, 3) := by decide +kernel
theorem d_Model_isSign_16 : decode b_Model_isSign 16 = .ok (.iaload, 1) := by decide +kernel
theorem d_Model_isSign_17 : decode b_Model_isSign 17 = .ok (.iload_n 2, 1) := by decide +kernel
theorem d_Model_isSign_18 : decode b_Model_isSign 18 = .ok (.if_icmp .eq 5, 3) := by decide +kernel
theorem d_Model_isSign_21 : decode b_Model_isSign 21 = .ok (.iconst 0, 1) := by decide +kernel
theorem d_Model_isSign_22 : decode b_Model_isSign 22 = .ok (.ireturn, 1) := by decide +kernel
theorem d_Model_isSign_23 : decode b_Model_isSign 23 = .ok (.aload_n 0, 1) := by decide +kernel
theorem d_Model_isSign_24 : decode b_Model_isSign 24 = .ok (.dup, 1) := by decide +kernel
theorem d_Model_isSign_25 : decode b_Model_isSign 25 = .ok (.getfield 77, 3) := by decide +kernel
theorem d_Model_isSign_28 : decode b_Model_isSign 28 = .ok (.iconst 1, 1) := by decide +kernel
theorem d_Model_isSign_29 : decode b_Model_isSign 29 = .ok (.iadd, 1) := by decide +kernel
theorem d_Model_isSign_30 : decode b_Model_isSign 30 = .ok (.putfield 77, 3) := by decide +kernel
theorem d_Model_isSign_33 : decode b_Model_isSign 33 = .ok (.iconst 1, 1) := by decide +kernel
theorem d_Model_isSign_34 : decode b_Model_isSign 34 = .ok (.ireturn, 1) := by decide +kernel
set_option maxRecDepth 20000 in
theorem c_Model_isSign {l : Launch} {g : GG} (hI : WI g) (a1 : Int32) (a2 : Int32) (M : Mem) (R : Int32 → Mem → Prop) (h : wp_Model_isSign a1 a2 M R) : Met l y_Model_isSign (wm y_Model_isSign b_Model_isSign 3 (some .boolean)) (RM 0 0) (PP g M [.ref (g.2.2.2 29), .int a1, .int a2]) (PQ g (RZ R)) 0 0 (AW g) := by
  refine m_of (own := N_Model) (by decide) rfl (Nat.le_of_ble_eq_true rfl) ?_
  intro p e s m below meth c ls C hr hlocks hW hP hS hl
  obtain ⟨hx, hb, hml, hown, hts⟩ := id C
  have hl : lv_has ls 3 [(0, .ref (g.2.2.2 29)), (1, .int a1), (2, .int a2)] := hl
  unfold wp_Model_isSign at h
  have hk := h
  refine lv_aload_n hx hb d_Model_isSign_0 rfl (lv_at hl 0 rfl) ?_
  refine gf_29_13 C hW hP fl_Model_77 d_Model_isSign_1 ?_
  refine lv_iload_n hx hb d_Model_isSign_4 rfl (lv_at hl 1 rfl) ?_
  refine lv_icmp_ge (tgt := 21) hx hb d_Model_isSign_5 (by decide) (fun c1 => ?_) (fun c1 => ?_)
  · have hk := hk.1 c1
    refine lv_iconst (v := 0) hx hb d_Model_isSign_21 (by decide) ?_
    exact r_zret rfl C hr hlocks hP hS hk d_Model_isSign_22
  · have hk := hk.2 c1
    refine lv_aload_n hx hb d_Model_isSign_8 rfl (lv_at hl 0 rfl) ?_
    refine gf_29_4 C hW hP fl_Model_16 d_Model_isSign_9 ?_
    refine lv_aload_n hx hb d_Model_isSign_12 rfl (lv_at hl 0 rfl) ?_
    refine gf_29_13 C hW hP fl_Model_77 d_Model_isSign_13 ?_
    obtain ⟨h2, hk⟩ := hk
    refine al_32 C hW hP h2 d_Model_isSign_16 ?_
    refine lv_iload_n hx hb d_Model_isSign_17 rfl (lv_at hl 2 rfl) ?_
    refine lv_icmp_eq (tgt := 23) hx hb d_Model_isSign_18 (by decide) (fun c3 => ?_) (fun c3 => ?_)
    · have hk := hk.1 c3
      refine lv_aload_n hx hb d_Model_isSign_23 rfl (lv_at hl 0 rfl) ?_
      refine lv_dup hx hb d_Model_isSign_24 rfl ?_
      refine gf_29_13 C hW hP fl_Model_77 d_Model_isSign_25 ?_
      refine lv_iconst (v := 1) hx hb d_Model_isSign_28 (by decide) ?_
      refine lv_iadd hx hb d_Model_isSign_29 ?_
      refine pf_29_13 hI C hW hP hS fl_Model_77 d_Model_isSign_30 (fun M4 eM4 H locs hP hS => ?_)
      have hk := hk M4 eM4
      refine lv_iconst (v := 1) hx hb d_Model_isSign_33 (by decide) ?_
      exact r_zret rfl C hr hlocks hP hS hk d_Model_isSign_34
    · have hk := hk.2 c3
      refine lv_iconst (v := 0) hx hb d_Model_isSign_21 (by decide) ?_
      exact r_zret rfl C hr hlocks hP hS hk d_Model_isSign_22
theorem d_Model_digit_0 : decode b_Model_digit 0 = .ok (.aload_n 0, 1) := by decide +kernel
theorem d_Model_digit_1 : decode b_Model_digit 1 = .ok (.getfield 77, 3) := by decide +kernel
theorem d_Model_digit_4 : decode b_Model_digit 4 = .ok (.iload_n 1, 1) := by decide +kernel
theorem d_Model_digit_5 : decode b_Model_digit 5 = .ok (.if_icmp .ge 26, 3) := by decide +kernel
theorem d_Model_digit_8 : decode b_Model_digit 8 = .ok (.aload_n 0, 1) := by decide +kernel
theorem d_Model_digit_9 : decode b_Model_digit 9 = .ok (.getfield 16, 3) := by decide +kernel
theorem d_Model_digit_12 : decode b_Model_digit 12 = .ok (.aload_n 0, 1) := by decide +kernel
theorem d_Model_digit_13 : decode b_Model_digit 13 = .ok (.getfield 77, 3) := by decide +kernel
theorem d_Model_digit_16 : decode b_Model_digit 16 = .ok (.iaload, 1) := by decide +kernel
theorem d_Model_digit_17 : decode b_Model_digit 17 = .ok (.bipush 48, 2) := by decide +kernel
theorem d_Model_digit_19 : decode b_Model_digit 19 = .ok (.iload_n 2, 1) := by decide +kernel
theorem d_Model_digit_20 : decode b_Model_digit 20 = .ok (.iadd, 1) := by decide +kernel
theorem d_Model_digit_21 : decode b_Model_digit 21 = .ok (.bipush 48, 2) := by decide +kernel
theorem d_Model_digit_23 : decode b_Model_digit 23 = .ok (.iload_n 3, 1) := by decide +kernel
theorem d_Model_digit_24 : decode b_Model_digit 24 = .ok (.iadd, 1) := by decide +kernel
theorem d_Model_digit_25 : decode b_Model_digit 25 = .ok (.invokestatic 67, 3) := by decide +kernel
theorem d_Model_digit_28 : decode b_Model_digit 28 = .ok (.ifCond .ne 6, 3) := by decide +kernel
theorem d_Model_digit_31 : decode b_Model_digit 31 = .ok (.bipush (-9), 2) := by decide +kernel
theorem d_Model_digit_33 : decode b_Model_digit 33 = .ok (.ireturn, 1) := by decide +kernel
theorem d_Model_digit_34 : decode b_Model_digit 34 = .ok (.aload_n 0, 1) := by decide +kernel
theorem d_Model_digit_35 : decode b_Model_digit 35 = .ok (.dup, 1) := by decide +kernel
theorem d_Model_digit_36 : decode b_Model_digit 36 = .ok (.getfield 77, 3) := by decide +kernel
theorem d_Model_digit_39 : decode b_Model_digit 39 = .ok (.iconst 1, 1) := by decide +kernel
theorem d_Model_digit_40 : decode b_Model_digit 40 = .ok (.iadd, 1) := by decide +kernel
theorem d_Model_digit_41 : decode b_Model_digit 41 = .ok (.putfield 77, 3) := by decide +kernel
theorem d_Model_digit_44 : decode b_Model_digit 44 = .ok (.aload_n 0, 1) := by decide +kernel
theorem d_Model_digit_45 : decode b_Model_digit 45 = .ok (.getfield 16, 3) := by decide +kernel
theorem d_Model_digit_48 : decode b_Model_digit 48 = .ok (.aload_n 0, 1) := by decide +kernel
theorem d_Model_digit_49 : decode b_Model_digit 49 = .ok (.getfield 77, 3) := by decide +kernel
theorem d_Model_digit_52 : decode b_Model_digit 52 = .ok (.iconst 1, 1) := by decide +kernel
theorem d_Model_digit_53 : decode b_Model_digit 53 = .ok (.isub, 1) := by decide +kernel
theorem d_Model_digit_54 : decode b_Model_digit 54 = .ok (.iaload, 1) := by decide +kernel
theorem d_Model_digit_55 : decode b_Model_digit 55 = .ok (.bipush 48, 2) := by decide +kernel
theorem d_Model_digit_57 : decode b_Model_digit 57 = .ok (.isub, 1) := by decide +kernel
theorem d_Model_digit_58 : decode b_Model_digit 58 = .ok (.ireturn, 1) := by decide +kernel
set_option maxRecDepth 20000 in
theorem c_Model_digit {l : Launch} {g : GG} (hI : WI g) (a1 : Int32) (a2 : Int32) (a3 : Int32) (M : Mem) (R : Int32 → Mem → Prop) (h : wp_Model_digit a1 a2 a3 M R) : Met l y_Model_digit (wm y_Model_digit b_Model_digit 4 (some .int)) (RM 1 22) (PP g M [.ref (g.2.2.2 29), .int a1, .int a2, .int a3]) (PQ g (RI R)) 0 0 (AW g) := by
  refine m_of (own := N_Model) (by decide) rfl (Nat.le_of_ble_eq_true rfl) ?_
  intro p e s m below meth c ls C hr hlocks hW hP hS hl
  obtain ⟨hx, hb, hml, hown, hts⟩ := id C
  have hl : lv_has ls 4 [(0, .ref (g.2.2.2 29)), (1, .int a1), (2, .int a2), (3, .int a3)] := hl
  unfold wp_Model_digit at h
  have hk := h
  refine lv_aload_n hx hb d_Model_digit_0 rfl (lv_at hl 0 rfl) ?_
  refine gf_29_13 C hW hP fl_Model_77 d_Model_digit_1 ?_
  refine lv_iload_n hx hb d_Model_digit_4 rfl (lv_at hl 1 rfl) ?_
  refine lv_icmp_ge (tgt := 31) hx hb d_Model_digit_5 (by decide) (fun c1 => ?_) (fun c1 => ?_)
  · have hk := hk.1 c1
    refine lv_bipush (v := -9) hx hb d_Model_digit_31 (by decide) ?_
    exact r_iret C hr hlocks hP hS hk d_Model_digit_33
  · have hk := hk.2 c1
    refine lv_aload_n hx hb d_Model_digit_8 rfl (lv_at hl 0 rfl) ?_
    refine gf_29_4 C hW hP fl_Model_16 d_Model_digit_9 ?_
    refine lv_aload_n hx hb d_Model_digit_12 rfl (lv_at hl 0 rfl) ?_
    refine gf_29_13 C hW hP fl_Model_77 d_Model_digit_13 ?_
    obtain ⟨h2, hk⟩ := hk
    refine al_32 C hW hP h2 d_Model_digit_16 ?_
    refine lv_bipush (v := 48) hx hb d_Model_digit_17 (by decide) ?_
    refine lv_iload_n hx hb d_Model_digit_19 rfl (lv_at hl 2 rfl) ?_
    refine lv_iadd hx hb d_Model_digit_20 ?_
    refine lv_bipush (v := 48) hx hb d_Model_digit_21 (by decide) ?_
    refine lv_iload_n hx hb d_Model_digit_23 rfl (lv_at hl 3 rfl) ?_
    refine lv_iadd hx hb d_Model_digit_24 ?_
    refine r_runZ (k_S (As := [.int (M 32 (M 29 13).toNatClampNeg), .int ((48 : Int32) + a2), .int ((48 : Int32) + a3)]) (rest := []) C hW hP (c_Model_within hI (M 32 (M 29 13).toNatClampNeg) ((48 : Int32) + a2) ((48 : Int32) + a3) M _ hk) cb_Model_within ml_Model_67 ⟨by decide, by decide⟩ rfl hl.1 rfl (Nat.le_of_ble_eq_true rfl) d_Model_digit_25 ⟨by decide, by decide⟩) hS (fun r4 M3 H locs zr4 hk hP hS => ?_)
    refine lv_if_ne (tgt := 34) hx hb d_Model_digit_28 (by decide) (fun c5 => ?_) (fun c5 => ?_)
    · have hk := hk.1 c5
      refine lv_aload_n hx hb d_Model_digit_34 rfl (lv_at hl 0 rfl) ?_
      refine lv_dup hx hb d_Model_digit_35 rfl ?_
      refine gf_29_13 C hW hP fl_Model_77 d_Model_digit_36 ?_
      refine lv_iconst (v := 1) hx hb d_Model_digit_39 (by decide) ?_
      refine lv_iadd hx hb d_Model_digit_40 ?_
      refine pf_29_13 hI C hW hP hS fl_Model_77 d_Model_digit_41 (fun M6 eM6 H locs hP hS => ?_)
      have hk := hk M6 eM6
      refine lv_aload_n hx hb d_Model_digit_44 rfl (lv_at hl 0 rfl) ?_
      refine gf_29_4 C hW hP fl_Model_16 d_Model_digit_45 ?_
      refine lv_aload_n hx hb d_Model_digit_48 rfl (lv_at hl 0 rfl) ?_
      refine gf_29_13 C hW hP fl_Model_77 d_Model_digit_49 ?_
      refine lv_iconst (v := 1) hx hb d_Model_digit_52 (by decide) ?_
      refine lv_isub hx hb d_Model_digit_53 ?_
      obtain ⟨h7, hk⟩ := hk
      refine al_32 C hW hP h7 d_Model_digit_54 ?_
      refine lv_bipush (v := 48) hx hb d_Model_digit_55 (by decide) ?_
      refine lv_isub hx hb d_Model_digit_57 ?_
      exact r_iret C hr hlocks hP hS hk d_Model_digit_58
    · have hk := hk.2 c5
      refine lv_bipush (v := -9) hx hb d_Model_digit_31 (by decide) ?_
      exact r_iret C hr hlocks hP hS hk d_Model_digit_33
theorem d_Model_readOneHouse_0 : decode b_Model_readOneHouse 0 = .ok (.iconst 4, 1) := by decide +kernel
theorem d_Model_readOneHouse_1 : decode b_Model_readOneHouse 1 = .ok (.aload_n 0, 1) := by decide +kernel
theorem d_Model_readOneHouse_2 : decode b_Model_readOneHouse 2 = .ok (.getfield 98, 3) := by decide +kernel
theorem d_Model_readOneHouse_5 : decode b_Model_readOneHouse 5 = .ok (.imul, 1) := by decide +kernel
theorem d_Model_readOneHouse_6 : decode b_Model_readOneHouse 6 = .ok (.istore_n 2, 1) := by decide +kernel
theorem d_Model_readOneHouse_7 : decode b_Model_readOneHouse 7 = .ok (.aload_n 0, 1) := by decide +kernel
theorem d_Model_readOneHouse_8 : decode b_Model_readOneHouse 8 = .ok (.getfield 77, 3) := by decide +kernel
theorem d_Model_readOneHouse_11 : decode b_Model_readOneHouse 11 = .ok (.iload_n 1, 1) := by decide +kernel
theorem d_Model_readOneHouse_12 : decode b_Model_readOneHouse 12 = .ok (.if_icmp .ge 15, 3) := by decide +kernel
theorem d_Model_readOneHouse_15 : decode b_Model_readOneHouse 15 = .ok (.aload_n 0, 1) := by decide +kernel
theorem d_Model_readOneHouse_16 : decode b_Model_readOneHouse 16 = .ok (.getfield 16, 3) := by decide +kernel
theorem d_Model_readOneHouse_19 : decode b_Model_readOneHouse 19 = .ok (.aload_n 0, 1) := by decide +kernel
theorem d_Model_readOneHouse_20 : decode b_Model_readOneHouse 20 = .ok (.getfield 77, 3) := by decide +kernel
theorem d_Model_readOneHouse_23 : decode b_Model_readOneHouse 23 = .ok (.iaload, 1) := by decide +kernel
theorem d_Model_readOneHouse_24 : decode b_Model_readOneHouse 24 = .ok (.goto 4, 3) := by decide +kernel
theorem d_Model_readOneHouse_27 : decode b_Model_readOneHouse 27 = .ok (.iconst 0, 1) := by decide +kernel
theorem d_Model_readOneHouse_28 : decode b_Model_readOneHouse 28 = .ok (.istore_n 3, 1) := by decide +kernel
theorem d_Model_readOneHouse_29 : decode b_Model_readOneHouse 29 = .ok (.aload_n 0, 1) := by decide +kernel
theorem d_Model_readOneHouse_30 : decode b_Model_readOneHouse 30 = .ok (.getfield 38, 3) := by decide +kernel
theorem d_Model_readOneHouse_33 : decode b_Model_readOneHouse 33 = .ok (.iload_n 2, 1) := by decide +kernel
theorem d_Model_readOneHouse_34 : decode b_Model_readOneHouse 34 = .ok (.iload_n 3, 1) := by decide +kernel
theorem d_Model_readOneHouse_35 : decode b_Model_readOneHouse 35 = .ok (.bipush 104, 2) := by decide +kernel
theorem d_Model_readOneHouse_37 : decode b_Model_readOneHouse 37 = .ok (.if_icmp .ne 7, 3) := by decide +kernel
theorem d_Model_readOneHouse_40 : decode b_Model_readOneHouse 40 = .ok (.iconst 0, 1) := by decide +kernel
theorem d_Model_readOneHouse_41 : decode b_Model_readOneHouse 41 = .ok (.goto 25, 3) := by decide +kernel
theorem d_Model_readOneHouse_44 : decode b_Model_readOneHouse 44 = .ok (.iload_n 3, 1) := by decide +kernel
theorem d_Model_readOneHouse_45 : decode b_Model_readOneHouse 45 = .ok (.bipush 100, 2) := by decide +kernel
theorem d_Model_readOneHouse_47 : decode b_Model_readOneHouse 47 = .ok (.if_icmp .ne 7, 3) := by decide +kernel
theorem d_Model_readOneHouse_50 : decode b_Model_readOneHouse 50 = .ok (.iconst 1, 1) := by decide +kernel
theorem d_Model_readOneHouse_51 : decode b_Model_readOneHouse 51 = .ok (.goto 15, 3) := by decide +kernel
theorem d_Model_readOneHouse_54 : decode b_Model_readOneHouse 54 = .ok (.iload_n 3, 1) := by decide +kernel
theorem d_Model_readOneHouse_55 : decode b_Model_readOneHouse 55 = .ok (.bipush 108, 2) := by decide +kernel
theorem d_Model_readOneHouse_57 : decode b_Model_readOneHouse 57 = .ok (.if_icmp .ne 7, 3) := by decide +kernel
theorem d_Model_readOneHouse_60 : decode b_Model_readOneHouse 60 = .ok (.iconst 2, 1) := by decide +kernel
theorem d_Model_readOneHouse_61 : decode b_Model_readOneHouse 61 = .ok (.goto 5, 3) := by decide +kernel
theorem d_Model_readOneHouse_64 : decode b_Model_readOneHouse 64 = .ok (.bipush (-9), 2) := by decide +kernel
theorem d_Model_readOneHouse_66 : decode b_Model_readOneHouse 66 = .ok (.iastore, 1) := by decide +kernel
theorem d_Model_readOneHouse_67 : decode b_Model_readOneHouse 67 = .ok (.aload_n 0, 1) := by decide +kernel
theorem d_Model_readOneHouse_68 : decode b_Model_readOneHouse 68 = .ok (.getfield 38, 3) := by decide +kernel
theorem d_Model_readOneHouse_71 : decode b_Model_readOneHouse 71 = .ok (.iload_n 2, 1) := by decide +kernel
theorem d_Model_readOneHouse_72 : decode b_Model_readOneHouse 72 = .ok (.iaload, 1) := by decide +kernel
theorem d_Model_readOneHouse_73 : decode b_Model_readOneHouse 73 = .ok (.bipush (-9), 2) := by decide +kernel
theorem d_Model_readOneHouse_75 : decode b_Model_readOneHouse 75 = .ok (.if_icmp .ne 5, 3) := by decide +kernel
theorem d_Model_readOneHouse_78 : decode b_Model_readOneHouse 78 = .ok (.iconst 0, 1) := by decide +kernel
theorem d_Model_readOneHouse_79 : decode b_Model_readOneHouse 79 = .ok (.ireturn, 1) := by decide +kernel
theorem d_Model_readOneHouse_80 : decode b_Model_readOneHouse 80 = .ok (.aload_n 0, 1) := by decide +kernel
theorem d_Model_readOneHouse_81 : decode b_Model_readOneHouse 81 = .ok (.dup, 1) := by decide +kernel
theorem d_Model_readOneHouse_82 : decode b_Model_readOneHouse 82 = .ok (.getfield 77, 3) := by decide +kernel
theorem d_Model_readOneHouse_85 : decode b_Model_readOneHouse 85 = .ok (.iconst 1, 1) := by decide +kernel
theorem d_Model_readOneHouse_86 : decode b_Model_readOneHouse 86 = .ok (.iadd, 1) := by decide +kernel
theorem d_Model_readOneHouse_87 : decode b_Model_readOneHouse 87 = .ok (.putfield 77, 3) := by decide +kernel
theorem d_Model_readOneHouse_90 : decode b_Model_readOneHouse 90 = .ok (.iconst 1, 1) := by decide +kernel
theorem d_Model_readOneHouse_91 : decode b_Model_readOneHouse 91 = .ok (.istore 4, 2) := by decide +kernel
theorem d_Model_readOneHouse_93 : decode b_Model_readOneHouse 93 = .ok (.iload 4, 2) := by decide +kernel
theorem d_Model_readOneHouse_95 : decode b_Model_readOneHouse 95 = .ok (.iconst 4, 1) := by decide +kernel
theorem d_Model_readOneHouse_96 : decode b_Model_readOneHouse 96 = .ok (.if_icmp .ge 52, 3) := by decide +kernel
theorem d_Model_readOneHouse_99 : decode b_Model_readOneHouse 99 = .ok (.aload_n 0, 1) := by decide +kernel
theorem d_Model_readOneHouse_100 : decode b_Model_readOneHouse 100 = .ok (.getfield 38, 3) := by decide +kernel
theorem d_Model_readOneHouse_103 : decode b_Model_readOneHouse 103 = .ok (.iload_n 2, 1) := by decide +kernel
theorem d_Model_readOneHouse_104 : decode b_Model_readOneHouse 104 = .ok (.iload 4, 2) := by decide +kernel
theorem d_Model_readOneHouse_106 : decode b_Model_readOneHouse 106 = .ok (.iadd, 1) := by decide +kernel
theorem d_Model_readOneHouse_107 : decode b_Model_readOneHouse 107 = .ok (.aload_n 0, 1) := by decide +kernel
theorem d_Model_readOneHouse_108 : decode b_Model_readOneHouse 108 = .ok (.iload_n 1, 1) := by decide +kernel
theorem d_Model_readOneHouse_109 : decode b_Model_readOneHouse 109 = .ok (.iconst 0, 1) := by decide +kernel
theorem d_Model_readOneHouse_110 : decode b_Model_readOneHouse 110 = .ok (.iload 4, 2) := by decide +kernel
theorem d_Model_readOneHouse_112 : decode b_Model_readOneHouse 112 = .ok (.iconst 3, 1) := by decide +kernel
theorem d_Model_readOneHouse_113 : decode b_Model_readOneHouse 113 = .ok (.if_icmp .ne 8, 3) := by decide +kernel
theorem d_Model_readOneHouse_116 : decode b_Model_readOneHouse 116 = .ok (.bipush 6, 2) := by decide +kernel
theorem d_Model_readOneHouse_118 : decode b_Model_readOneHouse 118 = .ok (.goto 4, 3) := by decide +kernel
theorem d_Model_readOneHouse_121 : decode b_Model_readOneHouse 121 = .ok (.iconst 5, 1) := by decide +kernel
theorem d_Model_readOneHouse_122 : decode b_Model_readOneHouse 122 = .ok (.invokevirtual 117, 3) := by decide +kernel
theorem d_Model_readOneHouse_125 : decode b_Model_readOneHouse 125 = .ok (.iastore, 1) := by decide +kernel
theorem d_Model_readOneHouse_126 : decode b_Model_readOneHouse 126 = .ok (.aload_n 0, 1) := by decide +kernel
theorem d_Model_readOneHouse_127 : decode b_Model_readOneHouse 127 = .ok (.getfield 38, 3) := by decide +kernel
theorem d_Model_readOneHouse_130 : decode b_Model_readOneHouse 130 = .ok (.iload_n 2, 1) := by decide +kernel
theorem d_Model_readOneHouse_131 : decode b_Model_readOneHouse 131 = .ok (.iload 4, 2) := by decide +kernel
theorem d_Model_readOneHouse_133 : decode b_Model_readOneHouse 133 = .ok (.iadd, 1) := by decide +kernel
theorem d_Model_readOneHouse_134 : decode b_Model_readOneHouse 134 = .ok (.iaload, 1) := by decide +kernel
theorem d_Model_readOneHouse_135 : decode b_Model_readOneHouse 135 = .ok (.bipush (-9), 2) := by decide +kernel
theorem d_Model_readOneHouse_137 : decode b_Model_readOneHouse 137 = .ok (.if_icmp .ne 5, 3) := by decide +kernel
theorem d_Model_readOneHouse_140 : decode b_Model_readOneHouse 140 = .ok (.iconst 0, 1) := by decide +kernel
theorem d_Model_readOneHouse_141 : decode b_Model_readOneHouse 141 = .ok (.ireturn, 1) := by decide +kernel
theorem d_Model_readOneHouse_142 : decode b_Model_readOneHouse 142 = .ok (.iinc 4 1, 3) := by decide +kernel
theorem d_Model_readOneHouse_145 : decode b_Model_readOneHouse 145 = .ok (.goto (-52), 3) := by decide +kernel
theorem d_Model_readOneHouse_148 : decode b_Model_readOneHouse 148 = .ok (.aload_n 0, 1) := by decide +kernel
theorem d_Model_readOneHouse_149 : decode b_Model_readOneHouse 149 = .ok (.dup, 1) := by decide +kernel
theorem d_Model_readOneHouse_150 : decode b_Model_readOneHouse 150 = .ok (.getfield 98, 3) := by decide +kernel
theorem d_Model_readOneHouse_153 : decode b_Model_readOneHouse 153 = .ok (.iconst 1, 1) := by decide +kernel
theorem d_Model_readOneHouse_154 : decode b_Model_readOneHouse 154 = .ok (.iadd, 1) := by decide +kernel
theorem d_Model_readOneHouse_155 : decode b_Model_readOneHouse 155 = .ok (.putfield 98, 3) := by decide +kernel
theorem d_Model_readOneHouse_158 : decode b_Model_readOneHouse 158 = .ok (.iconst 1, 1) := by decide +kernel
theorem d_Model_readOneHouse_159 : decode b_Model_readOneHouse 159 = .ok (.ireturn, 1) := by decide +kernel
set_option maxRecDepth 20000 in
theorem c_Model_readOneHouse {l : Launch} {g : GG} (hI : WI g) (a1 : Int32) (M : Mem) (R : Int32 → Mem → Prop) (h : wp_Model_readOneHouse a1 M R) : Met l y_Model_readOneHouse (wm y_Model_readOneHouse b_Model_readOneHouse 5 (some .boolean)) (RM 2 45) (PP g M [.ref (g.2.2.2 29), .int a1]) (PQ g (RZ R)) 0 0 (AW g) := by
  refine m_of (own := N_Model) (by decide) rfl (Nat.le_of_ble_eq_true rfl) ?_
  intro p e s m below meth c ls C hr hlocks hW hP hS hl
  obtain ⟨hx, hb, hml, hown, hts⟩ := id C
  have hl : lv_has ls 5 [(0, .ref (g.2.2.2 29)), (1, .int a1)] := hl
  unfold wp_Model_readOneHouse at h
  obtain ⟨X93, eX93⟩ : ∃ X : Int32 → Int32 → Int32 → Mem → Prop, ∀ (x1 : Int32) (x2 : Int32) (x4 : Int32) (M : Mem), X x1 x2 x4 M ↔ (∀ (H : Heap) (locs : List Loc) (ls : Array Slot), WP g M H → va_S (AW g) s.heap H locs → lv_has ls 5 [(0, .ref (g.2.2.2 29)), (1, .int x1), (2, .int x2), (4, .int x4)] → W p l e (RM 2 45) s m ([.ref (g.2.2.2 29), .int a1] : List Value).toArray below meth c H locs 0 0 (MQ below (PQ g (RZ R)) ([.ref (g.2.2.2 29), .int a1] : List Value).toArray s 0 0 (AW g)) (F0 m 93 ls [])) := ⟨fun x1 x2 x4 M => _, fun _ _ _ _ => Iff.rfl⟩
  have J122 : ∀ (x1 : Int32) (x2 : Int32) (x4 : Int32) (s1 : Int32) (s3 : Int32) (s4 : Int32) (s5 : Int32) (M : Mem), wp_Model_readOneHouse_122 X93 R x1 x2 x4 s1 s3 s4 s5 M → ∀ (H : Heap) (locs : List Loc) (ls : Array Slot), WP g M H → va_S (AW g) s.heap H locs → lv_has ls 5 [(0, .ref (g.2.2.2 29)), (1, .int x1), (2, .int x2), (4, .int x4)] → W p l e (RM 2 45) s m ([.ref (g.2.2.2 29), .int a1] : List Value).toArray below meth c H locs 0 0 (MQ below (PQ g (RZ R)) ([.ref (g.2.2.2 29), .int a1] : List Value).toArray s 0 0 (AW g)) (F0 m 122 ls [.int s5, .int s4, .int s3, .ref (g.2.2.2 29), .int s1, .ref (g.2.2.2 38)]) := by
    intro x1 x2 x4 s1 s3 s4 s5 M hk H locs ls hP hS hl
    unfold wp_Model_readOneHouse_122 at hk
    refine r_runI (k_V (As := [.int s3, .int s4, .int s5]) (rest := [.int s1, .ref (g.2.2.2 38)]) C hW hP (c_Model_digit hI s3 s4 s5 M _ hk) cb_Model_digit ml_Model_117 (io_29 g M) ⟨by decide, by decide⟩ rfl hl.1 rfl (Nat.le_of_ble_eq_true rfl) d_Model_readOneHouse_122 ⟨by decide, by decide⟩) hS (fun r13 M12 H locs hk hP hS => ?_)
    obtain ⟨h14, hk⟩ := hk
    refine as_38 hI C hW hP hS h14 d_Model_readOneHouse_125 (fun M15 eM15 H locs hP hS => ?_)
    have hk := hk M15 eM15
    refine lv_aload_n hx hb d_Model_readOneHouse_126 rfl (lv_at hl 0 rfl) ?_
    refine gf_29_16 C hW hP fl_Model_38 d_Model_readOneHouse_127 ?_
    refine lv_iload_n hx hb d_Model_readOneHouse_130 rfl (lv_at hl 2 rfl) ?_
    refine lv_iload hx hb d_Model_readOneHouse_131 (lv_at hl 3 rfl) ?_
    refine lv_iadd hx hb d_Model_readOneHouse_133 ?_
    obtain ⟨h16, hk⟩ := hk
    refine al_38 C hW hP h16 d_Model_readOneHouse_134 ?_
    refine lv_bipush (v := -9) hx hb d_Model_readOneHouse_135 (by decide) ?_
    refine lv_icmp_ne (tgt := 142) hx hb d_Model_readOneHouse_137 (by decide) (fun c17 => ?_) (fun c17 => ?_)
    · have hk := hk.1 c17
      obtain ⟨x4_18, ex4_18⟩ : ∃ y : Int32, y = x4 + (1 : Int32) := ⟨_, rfl⟩
      have hk := hk x4_18 ex4_18
      refine lv_iinc (v := x4_18) (lv' := [(4, .int x4_18), (0, .ref (g.2.2.2 29)), (1, .int x1), (2, .int x2)]) hx hb d_Model_readOneHouse_142 hl (k := 3) rfl (by rw [ex4_18]; rfl) (by decide) rfl (fun ls hl => ?_)
      refine lv_goto (tgt := 93) hx hb d_Model_readOneHouse_145 (by decide) ?_
      exact (eX93 x1 x2 x4_18 M15).mp hk _ _ _ hP hS (lv_sub hl [1, 2, 3, 0] rfl)
    · have hk := hk.2 c17
      refine lv_iconst (v := 0) hx hb d_Model_readOneHouse_140 (by decide) ?_
      exact r_zret rfl C hr hlocks hP hS hk d_Model_readOneHouse_141
  have J66 : ∀ (x1 : Int32) (x2 : Int32) (s1 : Int32) (s2 : Int32) (M : Mem), wp_Model_readOneHouse_66 X93 R x1 x2 s1 s2 M → ∀ (H : Heap) (locs : List Loc) (ls : Array Slot), WP g M H → va_S (AW g) s.heap H locs → lv_has ls 5 [(0, .ref (g.2.2.2 29)), (1, .int x1), (2, .int x2)] → W p l e (RM 2 45) s m ([.ref (g.2.2.2 29), .int a1] : List Value).toArray below meth c H locs 0 0 (MQ below (PQ g (RZ R)) ([.ref (g.2.2.2 29), .int a1] : List Value).toArray s 0 0 (AW g)) (F0 m 66 ls [.int s2, .int s1, .ref (g.2.2.2 38)]) := by
    intro x1 x2 s1 s2 M hk H locs ls hP hS hl
    unfold wp_Model_readOneHouse_66 at hk
    obtain ⟨h4, hk⟩ := hk
    refine as_38 hI C hW hP hS h4 d_Model_readOneHouse_66 (fun M5 eM5 H locs hP hS => ?_)
    have hk := hk M5 eM5
    refine lv_aload_n hx hb d_Model_readOneHouse_67 rfl (lv_at hl 0 rfl) ?_
    refine gf_29_16 C hW hP fl_Model_38 d_Model_readOneHouse_68 ?_
    refine lv_iload_n hx hb d_Model_readOneHouse_71 rfl (lv_at hl 2 rfl) ?_
    obtain ⟨h6, hk⟩ := hk
    refine al_38 C hW hP h6 d_Model_readOneHouse_72 ?_
    refine lv_bipush (v := -9) hx hb d_Model_readOneHouse_73 (by decide) ?_
    refine lv_icmp_ne (tgt := 80) hx hb d_Model_readOneHouse_75 (by decide) (fun c7 => ?_) (fun c7 => ?_)
    · have hk := hk.1 c7
      refine lv_aload_n hx hb d_Model_readOneHouse_80 rfl (lv_at hl 0 rfl) ?_
      refine lv_dup hx hb d_Model_readOneHouse_81 rfl ?_
      refine gf_29_13 C hW hP fl_Model_77 d_Model_readOneHouse_82 ?_
      refine lv_iconst (v := 1) hx hb d_Model_readOneHouse_85 (by decide) ?_
      refine lv_iadd hx hb d_Model_readOneHouse_86 ?_
      refine pf_29_13 hI C hW hP hS fl_Model_77 d_Model_readOneHouse_87 (fun M8 eM8 H locs hP hS => ?_)
      have hk := hk M8 eM8
      refine lv_iconst (v := 1) hx hb d_Model_readOneHouse_90 (by decide) ?_
      refine lv_istore (lv' := [(4, .int (1 : Int32)), (0, .ref (g.2.2.2 29)), (1, .int x1), (2, .int x2)]) hx hb d_Model_readOneHouse_91 hl (by decide) rfl (fun ls hl => ?_)
      exact (eX93 x1 x2 (1 : Int32) M8).mp hk _ _ _ hP hS (lv_sub hl [1, 2, 3, 0] rfl)
    · have hk := hk.2 c7
      refine lv_iconst (v := 0) hx hb d_Model_readOneHouse_78 (by decide) ?_
      exact r_zret rfl C hr hlocks hP hS hk d_Model_readOneHouse_79
  have J28 : ∀ (x1 : Int32) (x2 : Int32) (s0 : Int32) (M : Mem), wp_Model_readOneHouse_28 X93 R x1 x2 s0 M → ∀ (H : Heap) (locs : List Loc) (ls : Array Slot), WP g M H → va_S (AW g) s.heap H locs → lv_has ls 5 [(0, .ref (g.2.2.2 29)), (1, .int x1), (2, .int x2)] → W p l e (RM 2 45) s m ([.ref (g.2.2.2 29), .int a1] : List Value).toArray below meth c H locs 0 0 (MQ below (PQ g (RZ R)) ([.ref (g.2.2.2 29), .int a1] : List Value).toArray s 0 0 (AW g)) (F0 m 28 ls [.int s0]) := by
    intro x1 x2 s0 M hk H locs ls hP hS hl
    unfold wp_Model_readOneHouse_28 at hk
    refine lv_istore_n (lv' := [(3, .int s0), (0, .ref (g.2.2.2 29)), (1, .int x1), (2, .int x2)]) hx hb d_Model_readOneHouse_28 rfl hl (by decide) rfl (fun ls hl => ?_)
    refine lv_aload_n hx hb d_Model_readOneHouse_29 rfl (lv_at hl 1 rfl) ?_
    refine gf_29_16 C hW hP fl_Model_38 d_Model_readOneHouse_30 ?_
    refine lv_iload_n hx hb d_Model_readOneHouse_33 rfl (lv_at hl 3 rfl) ?_
    refine lv_iload_n hx hb d_Model_readOneHouse_34 rfl (lv_at hl 0 rfl) ?_
    refine lv_bipush (v := 104) hx hb d_Model_readOneHouse_35 (by decide) ?_
    refine lv_icmp_ne (tgt := 44) hx hb d_Model_readOneHouse_37 (by decide) (fun c1 => ?_) (fun c1 => ?_)
    · have hk := hk.1 c1
      refine lv_iload_n hx hb d_Model_readOneHouse_44 rfl (lv_at hl 0 rfl) ?_
      refine lv_bipush (v := 100) hx hb d_Model_readOneHouse_45 (by decide) ?_
      refine lv_icmp_ne (tgt := 54) hx hb d_Model_readOneHouse_47 (by decide) (fun c2 => ?_) (fun c2 => ?_)
      · have hk := hk.1 c2
        refine lv_iload_n hx hb d_Model_readOneHouse_54 rfl (lv_at hl 0 rfl) ?_
        refine lv_bipush (v := 108) hx hb d_Model_readOneHouse_55 (by decide) ?_
        refine lv_icmp_ne (tgt := 64) hx hb d_Model_readOneHouse_57 (by decide) (fun c3 => ?_) (fun c3 => ?_)
        · have hk := hk.1 c3
          refine lv_bipush (v := -9) hx hb d_Model_readOneHouse_64 (by decide) ?_
          exact J66 x1 x2 x2 (-9 : Int32) M hk _ _ _ hP hS (lv_sub hl [1, 2, 3] rfl)
        · have hk := hk.2 c3
          refine lv_iconst (v := 2) hx hb d_Model_readOneHouse_60 (by decide) ?_
          refine lv_goto (tgt := 66) hx hb d_Model_readOneHouse_61 (by decide) ?_
          exact J66 x1 x2 x2 (2 : Int32) M hk _ _ _ hP hS (lv_sub hl [1, 2, 3] rfl)
      · have hk := hk.2 c2
        refine lv_iconst (v := 1) hx hb d_Model_readOneHouse_50 (by decide) ?_
        refine lv_goto (tgt := 66) hx hb d_Model_readOneHouse_51 (by decide) ?_
        exact J66 x1 x2 x2 (1 : Int32) M hk _ _ _ hP hS (lv_sub hl [1, 2, 3] rfl)
    · have hk := hk.2 c1
      refine lv_iconst (v := 0) hx hb d_Model_readOneHouse_40 (by decide) ?_
      refine lv_goto (tgt := 66) hx hb d_Model_readOneHouse_41 (by decide) ?_
      exact J66 x1 x2 x2 (0 : Int32) M hk _ _ _ hP hS (lv_sub hl [1, 2, 3] rfl)
  suffices hcl : (∀ (x1 : Int32) (x2 : Int32) (x4 : Int32) (M : Mem), wp_Model_readOneHouse_93 X93 R x1 x2 x4 M → X93 x1 x2 x4 M) by
    have hk := h X93 hcl
    refine lv_iconst (v := 4) hx hb d_Model_readOneHouse_0 (by decide) ?_
    refine lv_aload_n hx hb d_Model_readOneHouse_1 rfl (lv_at hl 0 rfl) ?_
    refine gf_29_14 C hW hP fl_Model_98 d_Model_readOneHouse_2 ?_
    refine lv_imul hx hb d_Model_readOneHouse_5 ?_
    refine lv_topi (fun x2_19 ex2_19 => ?_)
    have hk := hk x2_19 ex2_19
    refine lv_istore_n (lv' := [(2, .int x2_19), (0, .ref (g.2.2.2 29)), (1, .int a1)]) hx hb d_Model_readOneHouse_6 rfl hl (by decide) rfl (fun ls hl => ?_)
    refine lv_aload_n hx hb d_Model_readOneHouse_7 rfl (lv_at hl 1 rfl) ?_
    refine gf_29_13 C hW hP fl_Model_77 d_Model_readOneHouse_8 ?_
    refine lv_iload_n hx hb d_Model_readOneHouse_11 rfl (lv_at hl 2 rfl) ?_
    refine lv_icmp_ge (tgt := 27) hx hb d_Model_readOneHouse_12 (by decide) (fun c20 => ?_) (fun c20 => ?_)
    · have hk := hk.1 c20
      refine lv_iconst (v := 0) hx hb d_Model_readOneHouse_27 (by decide) ?_
      exact J28 a1 x2_19 (0 : Int32) M hk _ _ _ hP hS (lv_sub hl [1, 2, 0] rfl)
    · have hk := hk.2 c20
      refine lv_aload_n hx hb d_Model_readOneHouse_15 rfl (lv_at hl 1 rfl) ?_
      refine gf_29_4 C hW hP fl_Model_16 d_Model_readOneHouse_16 ?_
      refine lv_aload_n hx hb d_Model_readOneHouse_19 rfl (lv_at hl 1 rfl) ?_
      refine gf_29_13 C hW hP fl_Model_77 d_Model_readOneHouse_20 ?_
      obtain ⟨h21, hk⟩ := hk
      refine al_32 C hW hP h21 d_Model_readOneHouse_23 ?_
      refine lv_goto (tgt := 28) hx hb d_Model_readOneHouse_24 (by decide) ?_
      exact J28 a1 x2_19 (M 32 (M 29 13).toNatClampNeg) M hk _ _ _ hP hS (lv_sub hl [1, 2, 0] rfl)
  · intro x1 x2 x4 M hk
    refine (eX93 x1 x2 x4 M).mpr ?_
    intro H locs ls hP hS hl
    unfold wp_Model_readOneHouse_93 at hk
    refine lv_iload hx hb d_Model_readOneHouse_93 (lv_at hl 3 rfl) ?_
    refine lv_iconst (v := 4) hx hb d_Model_readOneHouse_95 (by decide) ?_
    refine lv_icmp_ge (tgt := 148) hx hb d_Model_readOneHouse_96 (by decide) (fun c9 => ?_) (fun c9 => ?_)
    · have hk := hk.1 c9
      refine lv_aload_n hx hb d_Model_readOneHouse_148 rfl (lv_at hl 0 rfl) ?_
      refine lv_dup hx hb d_Model_readOneHouse_149 rfl ?_
      refine gf_29_14 C hW hP fl_Model_98 d_Model_readOneHouse_150 ?_
      refine lv_iconst (v := 1) hx hb d_Model_readOneHouse_153 (by decide) ?_
      refine lv_iadd hx hb d_Model_readOneHouse_154 ?_
      refine pf_29_14 hI C hW hP hS fl_Model_98 d_Model_readOneHouse_155 (fun M10 eM10 H locs hP hS => ?_)
      have hk := hk M10 eM10
      refine lv_iconst (v := 1) hx hb d_Model_readOneHouse_158 (by decide) ?_
      exact r_zret rfl C hr hlocks hP hS hk d_Model_readOneHouse_159
    · have hk := hk.2 c9
      refine lv_aload_n hx hb d_Model_readOneHouse_99 rfl (lv_at hl 0 rfl) ?_
      refine gf_29_16 C hW hP fl_Model_38 d_Model_readOneHouse_100 ?_
      refine lv_iload_n hx hb d_Model_readOneHouse_103 rfl (lv_at hl 2 rfl) ?_
      refine lv_iload hx hb d_Model_readOneHouse_104 (lv_at hl 3 rfl) ?_
      refine lv_iadd hx hb d_Model_readOneHouse_106 ?_
      refine lv_aload_n hx hb d_Model_readOneHouse_107 rfl (lv_at hl 0 rfl) ?_
      refine lv_iload_n hx hb d_Model_readOneHouse_108 rfl (lv_at hl 1 rfl) ?_
      refine lv_iconst (v := 0) hx hb d_Model_readOneHouse_109 (by decide) ?_
      refine lv_iload hx hb d_Model_readOneHouse_110 (lv_at hl 3 rfl) ?_
      refine lv_iconst (v := 3) hx hb d_Model_readOneHouse_112 (by decide) ?_
      refine lv_icmp_ne (tgt := 121) hx hb d_Model_readOneHouse_113 (by decide) (fun c11 => ?_) (fun c11 => ?_)
      · have hk := hk.1 c11
        refine lv_iconst (v := 5) hx hb d_Model_readOneHouse_121 (by decide) ?_
        exact J122 x1 x2 x4 (x2 + x4) x1 (0 : Int32) (5 : Int32) M hk _ _ _ hP hS (lv_sub hl [0, 1, 2, 3] rfl)
      · have hk := hk.2 c11
        refine lv_bipush (v := 6) hx hb d_Model_readOneHouse_116 (by decide) ?_
        refine lv_goto (tgt := 122) hx hb d_Model_readOneHouse_118 (by decide) ?_
        exact J122 x1 x2 x4 (x2 + x4) x1 (0 : Int32) (6 : Int32) M hk _ _ _ hP hS (lv_sub hl [0, 1, 2, 3] rfl)
theorem d_Model_readGuest_0 : decode b_Model_readGuest 0 = .ok (.aload_n 0, 1) := by decide +kernel
theorem d_Model_readGuest_1 : decode b_Model_readGuest 1 = .ok (.iload_n 1, 1) := by decide +kernel
theorem d_Model_readGuest_2 : decode b_Model_readGuest 2 = .ok (.iconst 0, 1) := by decide +kernel
theorem d_Model_readGuest_3 : decode b_Model_readGuest 3 = .ok (.bipush 6, 2) := by decide +kernel
theorem d_Model_readGuest_5 : decode b_Model_readGuest 5 = .ok (.invokevirtual 117, 3) := by decide +kernel
theorem d_Model_readGuest_8 : decode b_Model_readGuest 8 = .ok (.istore_n 2, 1) := by decide +kernel
theorem d_Model_readGuest_9 : decode b_Model_readGuest 9 = .ok (.iload_n 2, 1) := by decide +kernel
theorem d_Model_readGuest_10 : decode b_Model_readGuest 10 = .ok (.bipush (-9), 2) := by decide +kernel
theorem d_Model_readGuest_12 : decode b_Model_readGuest 12 = .ok (.if_icmp .ne 5, 3) := by decide +kernel
theorem d_Model_readGuest_15 : decode b_Model_readGuest 15 = .ok (.iconst 0, 1) := by decide +kernel
theorem d_Model_readGuest_16 : decode b_Model_readGuest 16 = .ok (.ireturn, 1) := by decide +kernel
theorem d_Model_readGuest_17 : decode b_Model_readGuest 17 = .ok (.aload_n 0, 1) := by decide +kernel
theorem d_Model_readGuest_18 : decode b_Model_readGuest 18 = .ok (.iload_n 1, 1) := by decide +kernel
theorem d_Model_readGuest_19 : decode b_Model_readGuest 19 = .ok (.iconst 0, 1) := by decide +kernel
theorem d_Model_readGuest_20 : decode b_Model_readGuest 20 = .ok (.iload_n 2, 1) := by decide +kernel
theorem d_Model_readGuest_21 : decode b_Model_readGuest 21 = .ok (.bipush 6, 2) := by decide +kernel
theorem d_Model_readGuest_23 : decode b_Model_readGuest 23 = .ok (.if_icmp .ne 7, 3) := by decide +kernel
theorem d_Model_readGuest_26 : decode b_Model_readGuest 26 = .ok (.iconst 3, 1) := by decide +kernel
theorem d_Model_readGuest_27 : decode b_Model_readGuest 27 = .ok (.goto 5, 3) := by decide +kernel
theorem d_Model_readGuest_30 : decode b_Model_readGuest 30 = .ok (.bipush 9, 2) := by decide +kernel
theorem d_Model_readGuest_32 : decode b_Model_readGuest 32 = .ok (.invokevirtual 117, 3) := by decide +kernel
theorem d_Model_readGuest_35 : decode b_Model_readGuest 35 = .ok (.istore_n 3, 1) := by decide +kernel
theorem d_Model_readGuest_36 : decode b_Model_readGuest 36 = .ok (.aload_n 0, 1) := by decide +kernel
theorem d_Model_readGuest_37 : decode b_Model_readGuest 37 = .ok (.getfield 41, 3) := by decide +kernel
theorem d_Model_readGuest_40 : decode b_Model_readGuest 40 = .ok (.aload_n 0, 1) := by decide +kernel
theorem d_Model_readGuest_41 : decode b_Model_readGuest 41 = .ok (.getfield 101, 3) := by decide +kernel
theorem d_Model_readGuest_44 : decode b_Model_readGuest 44 = .ok (.bipush 10, 2) := by decide +kernel
theorem d_Model_readGuest_46 : decode b_Model_readGuest 46 = .ok (.iload_n 2, 1) := by decide +kernel
theorem d_Model_readGuest_47 : decode b_Model_readGuest 47 = .ok (.imul, 1) := by decide +kernel
theorem d_Model_readGuest_48 : decode b_Model_readGuest 48 = .ok (.iload_n 3, 1) := by decide +kernel
theorem d_Model_readGuest_49 : decode b_Model_readGuest 49 = .ok (.iadd, 1) := by decide +kernel
theorem d_Model_readGuest_50 : decode b_Model_readGuest 50 = .ok (.iastore, 1) := by decide +kernel
theorem d_Model_readGuest_51 : decode b_Model_readGuest 51 = .ok (.aload_n 0, 1) := by decide +kernel
theorem d_Model_readGuest_52 : decode b_Model_readGuest 52 = .ok (.dup, 1) := by decide +kernel
theorem d_Model_readGuest_53 : decode b_Model_readGuest 53 = .ok (.getfield 101, 3) := by decide +kernel
theorem d_Model_readGuest_56 : decode b_Model_readGuest 56 = .ok (.iconst 1, 1) := by decide +kernel
theorem d_Model_readGuest_57 : decode b_Model_readGuest 57 = .ok (.iadd, 1) := by decide +kernel
theorem d_Model_readGuest_58 : decode b_Model_readGuest 58 = .ok (.putfield 101, 3) := by decide +kernel
theorem d_Model_readGuest_61 : decode b_Model_readGuest 61 = .ok (.iload_n 3, 1) := by decide +kernel
theorem d_Model_readGuest_62 : decode b_Model_readGuest 62 = .ok (.bipush (-9), 2) := by decide +kernel
theorem d_Model_readGuest_64 : decode b_Model_readGuest 64 = .ok (.if_icmp .eq 7, 3) := by decide +kernel
theorem d_Model_readGuest_67 : decode b_Model_readGuest 67 = .ok (.iconst 1, 1) := by decide +kernel
theorem d_Model_readGuest_68 : decode b_Model_readGuest 68 = .ok (.goto 4, 3) := by decide +kernel
theorem d_Model_readGuest_71 : decode b_Model_readGuest 71 = .ok (.iconst 0, 1) := by decide +kernel
theorem d_Model_readGuest_72 : decode b_Model_readGuest 72 = .ok (.ireturn, 1) := by decide +kernel
set_option maxRecDepth 20000 in
theorem c_Model_readGuest {l : Launch} {g : GG} (hI : WI g) (a1 : Int32) (M : Mem) (R : Int32 → Mem → Prop) (h : wp_Model_readGuest a1 M R) : Met l y_Model_readGuest (wm y_Model_readGuest b_Model_readGuest 4 (some .boolean)) (RM 2 45) (PP g M [.ref (g.2.2.2 29), .int a1]) (PQ g (RZ R)) 0 0 (AW g) := by
  refine m_of (own := N_Model) (by decide) rfl (Nat.le_of_ble_eq_true rfl) ?_
  intro p e s m below meth c ls C hr hlocks hW hP hS hl
  obtain ⟨hx, hb, hml, hown, hts⟩ := id C
  have hl : lv_has ls 4 [(0, .ref (g.2.2.2 29)), (1, .int a1)] := hl
  unfold wp_Model_readGuest at h
  have J32 : ∀ (x2 : Int32) (s1 : Int32) (s2 : Int32) (s3 : Int32) (M : Mem), wp_Model_readGuest_32  R x2 s1 s2 s3 M → ∀ (H : Heap) (locs : List Loc) (ls : Array Slot), WP g M H → va_S (AW g) s.heap H locs → lv_has ls 4 [(0, .ref (g.2.2.2 29)), (2, .int x2)] → W p l e (RM 2 45) s m ([.ref (g.2.2.2 29), .int a1] : List Value).toArray below meth c H locs 0 0 (MQ below (PQ g (RZ R)) ([.ref (g.2.2.2 29), .int a1] : List Value).toArray s 0 0 (AW g)) (F0 m 32 ls [.int s3, .int s2, .int s1, .ref (g.2.2.2 29)]) := by
    intro x2 s1 s2 s3 M hk H locs ls hP hS hl
    unfold wp_Model_readGuest_32 at hk
    refine r_runI (k_V (As := [.int s1, .int s2, .int s3]) (rest := []) C hW hP (c_Model_digit hI s1 s2 s3 M _ hk) cb_Model_digit ml_Model_117 (io_29 g M) ⟨by decide, by decide⟩ rfl hl.1 rfl (Nat.le_of_ble_eq_true rfl) d_Model_readGuest_32 ⟨by decide, by decide⟩) hS (fun r2 M1 H locs hk hP hS => ?_)
    refine lv_istore_n (lv' := [(3, .int r2), (0, .ref (g.2.2.2 29)), (2, .int x2)]) hx hb d_Model_readGuest_35 rfl hl (by decide) rfl (fun ls hl => ?_)
    refine lv_aload_n hx hb d_Model_readGuest_36 rfl (lv_at hl 1 rfl) ?_
    refine gf_29_17 C hW hP fl_Model_41 d_Model_readGuest_37 ?_
    refine lv_aload_n hx hb d_Model_readGuest_40 rfl (lv_at hl 1 rfl) ?_
    refine gf_29_15 C hW hP fl_Model_101 d_Model_readGuest_41 ?_
    refine lv_bipush (v := 10) hx hb d_Model_readGuest_44 (by decide) ?_
    refine lv_iload_n hx hb d_Model_readGuest_46 rfl (lv_at hl 2 rfl) ?_
    refine lv_imul hx hb d_Model_readGuest_47 ?_
    refine lv_iload_n hx hb d_Model_readGuest_48 rfl (lv_at hl 0 rfl) ?_
    refine lv_iadd hx hb d_Model_readGuest_49 ?_
    obtain ⟨h3, hk⟩ := hk
    refine as_39 hI C hW hP hS h3 d_Model_readGuest_50 (fun M4 eM4 H locs hP hS => ?_)
    have hk := hk M4 eM4
    refine lv_aload_n hx hb d_Model_readGuest_51 rfl (lv_at hl 1 rfl) ?_
    refine lv_dup hx hb d_Model_readGuest_52 rfl ?_
    refine gf_29_15 C hW hP fl_Model_101 d_Model_readGuest_53 ?_
    refine lv_iconst (v := 1) hx hb d_Model_readGuest_56 (by decide) ?_
    refine lv_iadd hx hb d_Model_readGuest_57 ?_
    refine pf_29_15 hI C hW hP hS fl_Model_101 d_Model_readGuest_58 (fun M5 eM5 H locs hP hS => ?_)
    have hk := hk M5 eM5
    refine lv_iload_n hx hb d_Model_readGuest_61 rfl (lv_at hl 0 rfl) ?_
    refine lv_bipush (v := -9) hx hb d_Model_readGuest_62 (by decide) ?_
    refine lv_icmp_eq (tgt := 71) hx hb d_Model_readGuest_64 (by decide) (fun c6 => ?_) (fun c6 => ?_)
    · have hk := hk.1 c6
      refine lv_iconst (v := 0) hx hb d_Model_readGuest_71 (by decide) ?_
      exact r_zret rfl C hr hlocks hP hS hk d_Model_readGuest_72
    · have hk := hk.2 c6
      refine lv_iconst (v := 1) hx hb d_Model_readGuest_67 (by decide) ?_
      refine lv_goto (tgt := 72) hx hb d_Model_readGuest_68 (by decide) ?_
      exact r_zret rfl C hr hlocks hP hS hk d_Model_readGuest_72
  have hk := h
  refine lv_aload_n hx hb d_Model_readGuest_0 rfl (lv_at hl 0 rfl) ?_
  refine lv_iload_n hx hb d_Model_readGuest_1 rfl (lv_at hl 1 rfl) ?_
  refine lv_iconst (v := 0) hx hb d_Model_readGuest_2 (by decide) ?_
  refine lv_bipush (v := 6) hx hb d_Model_readGuest_3 (by decide) ?_
  refine r_runI (k_V (As := [.int a1, .int (0 : Int32), .int (6 : Int32)]) (rest := []) C hW hP (c_Model_digit hI a1 (0 : Int32) (6 : Int32) M _ hk) cb_Model_digit ml_Model_117 (io_29 g M) ⟨by decide, by decide⟩ rfl hl.1 rfl (Nat.le_of_ble_eq_true rfl) d_Model_readGuest_5 ⟨by decide, by decide⟩) hS (fun r8 M7 H locs hk hP hS => ?_)
  refine lv_istore_n (lv' := [(2, .int r8), (0, .ref (g.2.2.2 29)), (1, .int a1)]) hx hb d_Model_readGuest_8 rfl hl (by decide) rfl (fun ls hl => ?_)
  refine lv_iload_n hx hb d_Model_readGuest_9 rfl (lv_at hl 0 rfl) ?_
  refine lv_bipush (v := -9) hx hb d_Model_readGuest_10 (by decide) ?_
  refine lv_icmp_ne (tgt := 17) hx hb d_Model_readGuest_12 (by decide) (fun c9 => ?_) (fun c9 => ?_)
  · have hk := hk.1 c9
    refine lv_aload_n hx hb d_Model_readGuest_17 rfl (lv_at hl 1 rfl) ?_
    refine lv_iload_n hx hb d_Model_readGuest_18 rfl (lv_at hl 2 rfl) ?_
    refine lv_iconst (v := 0) hx hb d_Model_readGuest_19 (by decide) ?_
    refine lv_iload_n hx hb d_Model_readGuest_20 rfl (lv_at hl 0 rfl) ?_
    refine lv_bipush (v := 6) hx hb d_Model_readGuest_21 (by decide) ?_
    refine lv_icmp_ne (tgt := 30) hx hb d_Model_readGuest_23 (by decide) (fun c10 => ?_) (fun c10 => ?_)
    · have hk := hk.1 c10
      refine lv_bipush (v := 9) hx hb d_Model_readGuest_30 (by decide) ?_
      exact J32 r8 a1 (0 : Int32) (9 : Int32) M7 hk _ _ _ hP hS (lv_sub hl [1, 0] rfl)
    · have hk := hk.2 c10
      refine lv_iconst (v := 3) hx hb d_Model_readGuest_26 (by decide) ?_
      refine lv_goto (tgt := 32) hx hb d_Model_readGuest_27 (by decide) ?_
      exact J32 r8 a1 (0 : Int32) (3 : Int32) M7 hk _ _ _ hP hS (lv_sub hl [1, 0] rfl)
  · have hk := hk.2 c9
    refine lv_iconst (v := 0) hx hb d_Model_readGuest_15 (by decide) ?_
    exact r_zret rfl C hr hlocks hP hS hk d_Model_readGuest_16
theorem d_Model_readWay_0 : decode b_Model_readWay 0 = .ok (.aload_n 0, 1) := by decide +kernel
theorem d_Model_readWay_1 : decode b_Model_readWay 1 = .ok (.iconst 0, 1) := by decide +kernel
theorem d_Model_readWay_2 : decode b_Model_readWay 2 = .ok (.putfield 98, 3) := by decide +kernel
theorem d_Model_readWay_5 : decode b_Model_readWay 5 = .ok (.aload_n 0, 1) := by decide +kernel
theorem d_Model_readWay_6 : decode b_Model_readWay 6 = .ok (.iconst 0, 1) := by decide +kernel
theorem d_Model_readWay_7 : decode b_Model_readWay 7 = .ok (.putfield 101, 3) := by decide +kernel
theorem d_Model_readWay_10 : decode b_Model_readWay 10 = .ok (.aload_n 0, 1) := by decide +kernel
theorem d_Model_readWay_11 : decode b_Model_readWay 11 = .ok (.iload_n 1, 1) := by decide +kernel
theorem d_Model_readWay_12 : decode b_Model_readWay 12 = .ok (.bipush 120, 2) := by decide +kernel
theorem d_Model_readWay_14 : decode b_Model_readWay 14 = .ok (.invokevirtual 107, 3) := by decide +kernel
theorem d_Model_readWay_17 : decode b_Model_readWay 17 = .ok (.ifCond .eq 21, 3) := by decide +kernel
theorem d_Model_readWay_20 : decode b_Model_readWay 20 = .ok (.aload_n 0, 1) := by decide +kernel
theorem d_Model_readWay_21 : decode b_Model_readWay 21 = .ok (.iload_n 1, 1) := by decide +kernel
theorem d_Model_readWay_22 : decode b_Model_readWay 22 = .ok (.bipush 59, 2) := by decide +kernel
theorem d_Model_readWay_24 : decode b_Model_readWay 24 = .ok (.invokevirtual 107, 3) := by decide +kernel
theorem d_Model_readWay_27 : decode b_Model_readWay 27 = .ok (.ifCond .eq 11, 3) := by decide +kernel
theorem d_Model_readWay_30 : decode b_Model_readWay 30 = .ok (.aload_n 0, 1) := by decide +kernel
theorem d_Model_readWay_31 : decode b_Model_readWay 31 = .ok (.iload_n 1, 1) := by decide +kernel
theorem d_Model_readWay_32 : decode b_Model_readWay 32 = .ok (.invokevirtual 111, 3) := by decide +kernel
theorem d_Model_readWay_35 : decode b_Model_readWay 35 = .ok (.ifCond .ne 5, 3) := by decide +kernel
theorem d_Model_readWay_38 : decode b_Model_readWay 38 = .ok (.iconst 0, 1) := by decide +kernel
theorem d_Model_readWay_39 : decode b_Model_readWay 39 = .ok (.ireturn, 1) := by decide +kernel
theorem d_Model_readWay_40 : decode b_Model_readWay 40 = .ok (.aload_n 0, 1) := by decide +kernel
theorem d_Model_readWay_41 : decode b_Model_readWay 41 = .ok (.getfield 98, 3) := by decide +kernel
theorem d_Model_readWay_44 : decode b_Model_readWay 44 = .ok (.bipush 6, 2) := by decide +kernel
theorem d_Model_readWay_46 : decode b_Model_readWay 46 = .ok (.if_icmp .ge 23, 3) := by decide +kernel
theorem d_Model_readWay_49 : decode b_Model_readWay 49 = .ok (.aload_n 0, 1) := by decide +kernel
theorem d_Model_readWay_50 : decode b_Model_readWay 50 = .ok (.iload_n 1, 1) := by decide +kernel
theorem d_Model_readWay_51 : decode b_Model_readWay 51 = .ok (.bipush 59, 2) := by decide +kernel
theorem d_Model_readWay_53 : decode b_Model_readWay 53 = .ok (.invokevirtual 107, 3) := by decide +kernel
theorem d_Model_readWay_56 : decode b_Model_readWay 56 = .ok (.ifCond .eq 13, 3) := by decide +kernel
theorem d_Model_readWay_59 : decode b_Model_readWay 59 = .ok (.aload_n 0, 1) := by decide +kernel
theorem d_Model_readWay_60 : decode b_Model_readWay 60 = .ok (.iload_n 1, 1) := by decide +kernel
theorem d_Model_readWay_61 : decode b_Model_readWay 61 = .ok (.invokevirtual 111, 3) := by decide +kernel
theorem d_Model_readWay_64 : decode b_Model_readWay 64 = .ok (.ifCond .ne (-24), 3) := by decide +kernel
theorem d_Model_readWay_67 : decode b_Model_readWay 67 = .ok (.iconst 0, 1) := by decide +kernel
theorem d_Model_readWay_68 : decode b_Model_readWay 68 = .ok (.ireturn, 1) := by decide +kernel
theorem d_Model_readWay_69 : decode b_Model_readWay 69 = .ok (.aload_n 0, 1) := by decide +kernel
theorem d_Model_readWay_70 : decode b_Model_readWay 70 = .ok (.iload_n 1, 1) := by decide +kernel
theorem d_Model_readWay_71 : decode b_Model_readWay 71 = .ok (.bipush 44, 2) := by decide +kernel
theorem d_Model_readWay_73 : decode b_Model_readWay 73 = .ok (.invokevirtual 107, 3) := by decide +kernel
theorem d_Model_readWay_76 : decode b_Model_readWay 76 = .ok (.ifCond .eq 11, 3) := by decide +kernel
theorem d_Model_readWay_79 : decode b_Model_readWay 79 = .ok (.aload_n 0, 1) := by decide +kernel
theorem d_Model_readWay_80 : decode b_Model_readWay 80 = .ok (.iload_n 1, 1) := by decide +kernel
theorem d_Model_readWay_81 : decode b_Model_readWay 81 = .ok (.invokevirtual 114, 3) := by decide +kernel
theorem d_Model_readWay_84 : decode b_Model_readWay 84 = .ok (.ifCond .ne 5, 3) := by decide +kernel
theorem d_Model_readWay_87 : decode b_Model_readWay 87 = .ok (.iconst 0, 1) := by decide +kernel
theorem d_Model_readWay_88 : decode b_Model_readWay 88 = .ok (.ireturn, 1) := by decide +kernel
theorem d_Model_readWay_89 : decode b_Model_readWay 89 = .ok (.aload_n 0, 1) := by decide +kernel
theorem d_Model_readWay_90 : decode b_Model_readWay 90 = .ok (.getfield 101, 3) := by decide +kernel
theorem d_Model_readWay_93 : decode b_Model_readWay 93 = .ok (.iconst 5, 1) := by decide +kernel
theorem d_Model_readWay_94 : decode b_Model_readWay 94 = .ok (.if_icmp .ge 23, 3) := by decide +kernel
theorem d_Model_readWay_97 : decode b_Model_readWay 97 = .ok (.aload_n 0, 1) := by decide +kernel
theorem d_Model_readWay_98 : decode b_Model_readWay 98 = .ok (.iload_n 1, 1) := by decide +kernel
theorem d_Model_readWay_99 : decode b_Model_readWay 99 = .ok (.bipush 44, 2) := by decide +kernel
theorem d_Model_readWay_101 : decode b_Model_readWay 101 = .ok (.invokevirtual 107, 3) := by decide +kernel
theorem d_Model_readWay_104 : decode b_Model_readWay 104 = .ok (.ifCond .eq 13, 3) := by decide +kernel
theorem d_Model_readWay_107 : decode b_Model_readWay 107 = .ok (.aload_n 0, 1) := by decide +kernel
theorem d_Model_readWay_108 : decode b_Model_readWay 108 = .ok (.iload_n 1, 1) := by decide +kernel
theorem d_Model_readWay_109 : decode b_Model_readWay 109 = .ok (.invokevirtual 114, 3) := by decide +kernel
theorem d_Model_readWay_112 : decode b_Model_readWay 112 = .ok (.ifCond .ne (-23), 3) := by decide +kernel
theorem d_Model_readWay_115 : decode b_Model_readWay 115 = .ok (.iconst 0, 1) := by decide +kernel
theorem d_Model_readWay_116 : decode b_Model_readWay 116 = .ok (.ireturn, 1) := by decide +kernel
theorem d_Model_readWay_117 : decode b_Model_readWay 117 = .ok (.aload_n 0, 1) := by decide +kernel
theorem d_Model_readWay_118 : decode b_Model_readWay 118 = .ok (.getfield 77, 3) := by decide +kernel
theorem d_Model_readWay_121 : decode b_Model_readWay 121 = .ok (.iload_n 1, 1) := by decide +kernel
theorem d_Model_readWay_122 : decode b_Model_readWay 122 = .ok (.if_icmp .ne 7, 3) := by decide +kernel
theorem d_Model_readWay_125 : decode b_Model_readWay 125 = .ok (.iconst 1, 1) := by decide +kernel
theorem d_Model_readWay_126 : decode b_Model_readWay 126 = .ok (.goto 4, 3) := by decide +kernel
theorem d_Model_readWay_129 : decode b_Model_readWay 129 = .ok (.iconst 0, 1) := by decide +kernel
theorem d_Model_readWay_130 : decode b_Model_readWay 130 = .ok (.ireturn, 1) := by decide +kernel
set_option maxRecDepth 20000 in
theorem c_Model_readWay {l : Launch} {g : GG} (hI : WI g) (a1 : Int32) (M : Mem) (R : Int32 → Mem → Prop) (h : wp_Model_readWay a1 M R) : Met l y_Model_readWay (wm y_Model_readWay b_Model_readWay 2 (some .boolean)) (RM 3 69) (PP g M [.ref (g.2.2.2 29), .int a1]) (PQ g (RZ R)) 0 0 (AW g) := by
  refine m_of (own := N_Model) (by decide) rfl (Nat.le_of_ble_eq_true rfl) ?_
  intro p e s m below meth c ls C hr hlocks hW hP hS hl
  obtain ⟨hx, hb, hml, hown, hts⟩ := id C
  have hl : lv_has ls 2 [(0, .ref (g.2.2.2 29)), (1, .int a1)] := hl
  unfold wp_Model_readWay at h
  obtain ⟨X40, eX40⟩ : ∃ X : Int32 → Mem → Prop, ∀ (x1 : Int32) (M : Mem), X x1 M ↔ (∀ (H : Heap) (locs : List Loc) (ls : Array Slot), WP g M H → va_S (AW g) s.heap H locs → lv_has ls 2 [(0, .ref (g.2.2.2 29)), (1, .int x1)] → W p l e (RM 3 69) s m ([.ref (g.2.2.2 29), .int a1] : List Value).toArray below meth c H locs 0 0 (MQ below (PQ g (RZ R)) ([.ref (g.2.2.2 29), .int a1] : List Value).toArray s 0 0 (AW g)) (F0 m 40 ls [])) := ⟨fun x1 M => _, fun _ _ => Iff.rfl⟩
  obtain ⟨X89, eX89⟩ : ∃ X : Int32 → Mem → Prop, ∀ (x1 : Int32) (M : Mem), X x1 M ↔ (∀ (H : Heap) (locs : List Loc) (ls : Array Slot), WP g M H → va_S (AW g) s.heap H locs → lv_has ls 2 [(0, .ref (g.2.2.2 29)), (1, .int x1)] → W p l e (RM 3 69) s m ([.ref (g.2.2.2 29), .int a1] : List Value).toArray below meth c H locs 0 0 (MQ below (PQ g (RZ R)) ([.ref (g.2.2.2 29), .int a1] : List Value).toArray s 0 0 (AW g)) (F0 m 89 ls [])) := ⟨fun x1 M => _, fun _ _ => Iff.rfl⟩
  have J117 : ∀ (x1 : Int32) (M : Mem), wp_Model_readWay_117 X40 X89 R x1 M → ∀ (H : Heap) (locs : List Loc) (ls : Array Slot), WP g M H → va_S (AW g) s.heap H locs → lv_has ls 2 [(0, .ref (g.2.2.2 29)), (1, .int x1)] → W p l e (RM 3 69) s m ([.ref (g.2.2.2 29), .int a1] : List Value).toArray below meth c H locs 0 0 (MQ below (PQ g (RZ R)) ([.ref (g.2.2.2 29), .int a1] : List Value).toArray s 0 0 (AW g)) (F0 m 117 ls []) := by
    intro x1 M hk H locs ls hP hS hl
    unfold wp_Model_readWay_117 at hk
    refine lv_aload_n hx hb d_Model_readWay_117 rfl (lv_at hl 0 rfl) ?_
    refine gf_29_13 C hW hP fl_Model_77 d_Model_readWay_118 ?_
    refine lv_iload_n hx hb d_Model_readWay_121 rfl (lv_at hl 1 rfl) ?_
    refine lv_icmp_ne (tgt := 129) hx hb d_Model_readWay_122 (by decide) (fun c21 => ?_) (fun c21 => ?_)
    · have hk := hk.1 c21
      refine lv_iconst (v := 0) hx hb d_Model_readWay_129 (by decide) ?_
      exact r_zret rfl C hr hlocks hP hS hk d_Model_readWay_130
    · have hk := hk.2 c21
      refine lv_iconst (v := 1) hx hb d_Model_readWay_125 (by decide) ?_
      refine lv_goto (tgt := 130) hx hb d_Model_readWay_126 (by decide) ?_
      exact r_zret rfl C hr hlocks hP hS hk d_Model_readWay_130
  have J69 : ∀ (x1 : Int32) (M : Mem), wp_Model_readWay_69 X40 X89 R x1 M → ∀ (H : Heap) (locs : List Loc) (ls : Array Slot), WP g M H → va_S (AW g) s.heap H locs → lv_has ls 2 [(0, .ref (g.2.2.2 29)), (1, .int x1)] → W p l e (RM 3 69) s m ([.ref (g.2.2.2 29), .int a1] : List Value).toArray below meth c H locs 0 0 (MQ below (PQ g (RZ R)) ([.ref (g.2.2.2 29), .int a1] : List Value).toArray s 0 0 (AW g)) (F0 m 69 ls []) := by
    intro x1 M hk H locs ls hP hS hl
    unfold wp_Model_readWay_69 at hk
    refine lv_aload_n hx hb d_Model_readWay_69 rfl (lv_at hl 0 rfl) ?_
    refine lv_iload_n hx hb d_Model_readWay_70 rfl (lv_at hl 1 rfl) ?_
    refine lv_bipush (v := 44) hx hb d_Model_readWay_71 (by decide) ?_
    refine r_runZ (k_V (As := [.int x1, .int (44 : Int32)]) (rest := []) C hW hP (c_Model_isSign hI x1 (44 : Int32) M _ hk) cb_Model_isSign ml_Model_107 (io_29 g M) ⟨by decide, by decide⟩ rfl hl.1 rfl (Nat.le_of_ble_eq_true rfl) d_Model_readWay_73 ⟨by decide, by decide⟩) hS (fun r9 M8 H locs zr9 hk hP hS => ?_)
    refine lv_if_eq (tgt := 87) hx hb d_Model_readWay_76 (by decide) (fun c10 => ?_) (fun c10 => ?_)
    · have hk := hk.1 c10
      refine lv_iconst (v := 0) hx hb d_Model_readWay_87 (by decide) ?_
      exact r_zret rfl C hr hlocks hP hS hk d_Model_readWay_88
    · have hk := hk.2 c10
      refine lv_aload_n hx hb d_Model_readWay_79 rfl (lv_at hl 0 rfl) ?_
      refine lv_iload_n hx hb d_Model_readWay_80 rfl (lv_at hl 1 rfl) ?_
      refine r_runZ (k_V (As := [.int x1]) (rest := []) C hW hP (c_Model_readGuest hI x1 M8 _ hk) cb_Model_readGuest ml_Model_114 (io_29 g M8) ⟨by decide, by decide⟩ rfl hl.1 rfl (Nat.le_of_ble_eq_true rfl) d_Model_readWay_81 ⟨by decide, by decide⟩) hS (fun r12 M11 H locs zr12 hk hP hS => ?_)
      refine lv_if_ne (tgt := 89) hx hb d_Model_readWay_84 (by decide) (fun c13 => ?_) (fun c13 => ?_)
      · have hk := hk.1 c13
        exact (eX89 x1 M11).mp hk _ _ _ hP hS (lv_sub hl [0, 1] rfl)
      · have hk := hk.2 c13
        refine lv_iconst (v := 0) hx hb d_Model_readWay_87 (by decide) ?_
        exact r_zret rfl C hr hlocks hP hS hk d_Model_readWay_88
  suffices hcl : (∀ (x1 : Int32) (M : Mem), wp_Model_readWay_40 X40 X89 R x1 M → X40 x1 M) ∧ (∀ (x1 : Int32) (M : Mem), wp_Model_readWay_89 X40 X89 R x1 M → X89 x1 M) by
    have hk := h X40 X89 (hcl.1) (hcl.2)
    refine lv_aload_n hx hb d_Model_readWay_0 rfl (lv_at hl 0 rfl) ?_
    refine lv_iconst (v := 0) hx hb d_Model_readWay_1 (by decide) ?_
    refine pf_29_14 hI C hW hP hS fl_Model_98 d_Model_readWay_2 (fun M22 eM22 H locs hP hS => ?_)
    have hk := hk M22 eM22
    refine lv_aload_n hx hb d_Model_readWay_5 rfl (lv_at hl 0 rfl) ?_
    refine lv_iconst (v := 0) hx hb d_Model_readWay_6 (by decide) ?_
    refine pf_29_15 hI C hW hP hS fl_Model_101 d_Model_readWay_7 (fun M23 eM23 H locs hP hS => ?_)
    have hk := hk M23 eM23
    refine lv_aload_n hx hb d_Model_readWay_10 rfl (lv_at hl 0 rfl) ?_
    refine lv_iload_n hx hb d_Model_readWay_11 rfl (lv_at hl 1 rfl) ?_
    refine lv_bipush (v := 120) hx hb d_Model_readWay_12 (by decide) ?_
    refine r_runZ (k_V (As := [.int a1, .int (120 : Int32)]) (rest := []) C hW hP (c_Model_isSign hI a1 (120 : Int32) M23 _ hk) cb_Model_isSign ml_Model_107 (io_29 g M23) ⟨by decide, by decide⟩ rfl hl.1 rfl (Nat.le_of_ble_eq_true rfl) d_Model_readWay_14 ⟨by decide, by decide⟩) hS (fun r25 M24 H locs zr25 hk hP hS => ?_)
    refine lv_if_eq (tgt := 38) hx hb d_Model_readWay_17 (by decide) (fun c26 => ?_) (fun c26 => ?_)
    · have hk := hk.1 c26
      refine lv_iconst (v := 0) hx hb d_Model_readWay_38 (by decide) ?_
      exact r_zret rfl C hr hlocks hP hS hk d_Model_readWay_39
    · have hk := hk.2 c26
      refine lv_aload_n hx hb d_Model_readWay_20 rfl (lv_at hl 0 rfl) ?_
      refine lv_iload_n hx hb d_Model_readWay_21 rfl (lv_at hl 1 rfl) ?_
      refine lv_bipush (v := 59) hx hb d_Model_readWay_22 (by decide) ?_
      refine r_runZ (k_V (As := [.int a1, .int (59 : Int32)]) (rest := []) C hW hP (c_Model_isSign hI a1 (59 : Int32) M24 _ hk) cb_Model_isSign ml_Model_107 (io_29 g M24) ⟨by decide, by decide⟩ rfl hl.1 rfl (Nat.le_of_ble_eq_true rfl) d_Model_readWay_24 ⟨by decide, by decide⟩) hS (fun r28 M27 H locs zr28 hk hP hS => ?_)
      refine lv_if_eq (tgt := 38) hx hb d_Model_readWay_27 (by decide) (fun c29 => ?_) (fun c29 => ?_)
      · have hk := hk.1 c29
        refine lv_iconst (v := 0) hx hb d_Model_readWay_38 (by decide) ?_
        exact r_zret rfl C hr hlocks hP hS hk d_Model_readWay_39
      · have hk := hk.2 c29
        refine lv_aload_n hx hb d_Model_readWay_30 rfl (lv_at hl 0 rfl) ?_
        refine lv_iload_n hx hb d_Model_readWay_31 rfl (lv_at hl 1 rfl) ?_
        refine r_runZ (k_V (As := [.int a1]) (rest := []) C hW hP (c_Model_readOneHouse hI a1 M27 _ hk) cb_Model_readOneHouse ml_Model_111 (io_29 g M27) ⟨by decide, by decide⟩ rfl hl.1 rfl (Nat.le_of_ble_eq_true rfl) d_Model_readWay_32 ⟨by decide, by decide⟩) hS (fun r31 M30 H locs zr31 hk hP hS => ?_)
        refine lv_if_ne (tgt := 40) hx hb d_Model_readWay_35 (by decide) (fun c32 => ?_) (fun c32 => ?_)
        · have hk := hk.1 c32
          exact (eX40 a1 M30).mp hk _ _ _ hP hS (lv_sub hl [0, 1] rfl)
        · have hk := hk.2 c32
          refine lv_iconst (v := 0) hx hb d_Model_readWay_38 (by decide) ?_
          exact r_zret rfl C hr hlocks hP hS hk d_Model_readWay_39
  refine ⟨?_, ?_⟩
  · intro x1 M hk
    refine (eX40 x1 M).mpr ?_
    intro H locs ls hP hS hl
    unfold wp_Model_readWay_40 at hk
    refine lv_aload_n hx hb d_Model_readWay_40 rfl (lv_at hl 0 rfl) ?_
    refine gf_29_14 C hW hP fl_Model_98 d_Model_readWay_41 ?_
    refine lv_bipush (v := 6) hx hb d_Model_readWay_44 (by decide) ?_
    refine lv_icmp_ge (tgt := 69) hx hb d_Model_readWay_46 (by decide) (fun c1 => ?_) (fun c1 => ?_)
    · have hk := hk.1 c1
      exact J69 x1 M hk _ _ _ hP hS (lv_sub hl [0, 1] rfl)
    · have hk := hk.2 c1
      refine lv_aload_n hx hb d_Model_readWay_49 rfl (lv_at hl 0 rfl) ?_
      refine lv_iload_n hx hb d_Model_readWay_50 rfl (lv_at hl 1 rfl) ?_
      refine lv_bipush (v := 59) hx hb d_Model_readWay_51 (by decide) ?_
      refine r_runZ (k_V (As := [.int x1, .int (59 : Int32)]) (rest := []) C hW hP (c_Model_isSign hI x1 (59 : Int32) M _ hk) cb_Model_isSign ml_Model_107 (io_29 g M) ⟨by decide, by decide⟩ rfl hl.1 rfl (Nat.le_of_ble_eq_true rfl) d_Model_readWay_53 ⟨by decide, by decide⟩) hS (fun r3 M2 H locs zr3 hk hP hS => ?_)
      refine lv_if_eq (tgt := 69) hx hb d_Model_readWay_56 (by decide) (fun c4 => ?_) (fun c4 => ?_)
      · have hk := hk.1 c4
        exact J69 x1 M2 hk _ _ _ hP hS (lv_sub hl [0, 1] rfl)
      · have hk := hk.2 c4
        refine lv_aload_n hx hb d_Model_readWay_59 rfl (lv_at hl 0 rfl) ?_
        refine lv_iload_n hx hb d_Model_readWay_60 rfl (lv_at hl 1 rfl) ?_
        refine r_runZ (k_V (As := [.int x1]) (rest := []) C hW hP (c_Model_readOneHouse hI x1 M2 _ hk) cb_Model_readOneHouse ml_Model_111 (io_29 g M2) ⟨by decide, by decide⟩ rfl hl.1 rfl (Nat.le_of_ble_eq_true rfl) d_Model_readWay_61 ⟨by decide, by decide⟩) hS (fun r6 M5 H locs zr6 hk hP hS => ?_)
        refine lv_if_ne (tgt := 40) hx hb d_Model_readWay_64 (by decide) (fun c7 => ?_) (fun c7 => ?_)
        · have hk := hk.1 c7
          exact (eX40 x1 M5).mp hk _ _ _ hP hS (lv_sub hl [0, 1] rfl)
        · have hk := hk.2 c7
          refine lv_iconst (v := 0) hx hb d_Model_readWay_67 (by decide) ?_
          exact r_zret rfl C hr hlocks hP hS hk d_Model_readWay_68
  · intro x1 M hk
    refine (eX89 x1 M).mpr ?_
    intro H locs ls hP hS hl
    unfold wp_Model_readWay_89 at hk
    refine lv_aload_n hx hb d_Model_readWay_89 rfl (lv_at hl 0 rfl) ?_
    refine gf_29_15 C hW hP fl_Model_101 d_Model_readWay_90 ?_
    refine lv_iconst (v := 5) hx hb d_Model_readWay_93 (by decide) ?_
    refine lv_icmp_ge (tgt := 117) hx hb d_Model_readWay_94 (by decide) (fun c14 => ?_) (fun c14 => ?_)
    · have hk := hk.1 c14
      exact J117 x1 M hk _ _ _ hP hS (lv_sub hl [0, 1] rfl)
    · have hk := hk.2 c14
      refine lv_aload_n hx hb d_Model_readWay_97 rfl (lv_at hl 0 rfl) ?_
      refine lv_iload_n hx hb d_Model_readWay_98 rfl (lv_at hl 1 rfl) ?_
      refine lv_bipush (v := 44) hx hb d_Model_readWay_99 (by decide) ?_
      refine r_runZ (k_V (As := [.int x1, .int (44 : Int32)]) (rest := []) C hW hP (c_Model_isSign hI x1 (44 : Int32) M _ hk) cb_Model_isSign ml_Model_107 (io_29 g M) ⟨by decide, by decide⟩ rfl hl.1 rfl (Nat.le_of_ble_eq_true rfl) d_Model_readWay_101 ⟨by decide, by decide⟩) hS (fun r16 M15 H locs zr16 hk hP hS => ?_)
      refine lv_if_eq (tgt := 117) hx hb d_Model_readWay_104 (by decide) (fun c17 => ?_) (fun c17 => ?_)
      · have hk := hk.1 c17
        exact J117 x1 M15 hk _ _ _ hP hS (lv_sub hl [0, 1] rfl)
      · have hk := hk.2 c17
        refine lv_aload_n hx hb d_Model_readWay_107 rfl (lv_at hl 0 rfl) ?_
        refine lv_iload_n hx hb d_Model_readWay_108 rfl (lv_at hl 1 rfl) ?_
        refine r_runZ (k_V (As := [.int x1]) (rest := []) C hW hP (c_Model_readGuest hI x1 M15 _ hk) cb_Model_readGuest ml_Model_114 (io_29 g M15) ⟨by decide, by decide⟩ rfl hl.1 rfl (Nat.le_of_ble_eq_true rfl) d_Model_readWay_109 ⟨by decide, by decide⟩) hS (fun r19 M18 H locs zr19 hk hP hS => ?_)
        refine lv_if_ne (tgt := 89) hx hb d_Model_readWay_112 (by decide) (fun c20 => ?_) (fun c20 => ?_)
        · have hk := hk.1 c20
          exact (eX89 x1 M18).mp hk _ _ _ hP hS (lv_sub hl [0, 1] rfl)
        · have hk := hk.2 c20
          refine lv_iconst (v := 0) hx hb d_Model_readWay_115 (by decide) ?_
          exact r_zret rfl C hr hlocks hP hS hk d_Model_readWay_116
