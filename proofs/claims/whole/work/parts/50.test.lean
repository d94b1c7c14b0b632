theorem d_Main_isBelow_0 : decode b_Main_isBelow 0 = .ok (.iload_n 0, 1) := by decide +kernel
theorem d_Main_isBelow_1 : decode b_Main_isBelow 1 = .ok (.ifCond .lt 12, 3) := by decide +kernel
theorem d_Main_isBelow_4 : decode b_Main_isBelow 4 = .ok (.iload_n 0, 1) := by decide +kernel
theorem d_Main_isBelow_5 : decode b_Main_isBelow 5 = .ok (.iload_n 1, 1) := by decide +kernel
theorem d_Main_isBelow_6 : decode b_Main_isBelow 6 = .ok (.if_icmp .ge 7, 3) := by decide +kernel
theorem d_Main_isBelow_9 : decode b_Main_isBelow 9 = .ok (.iconst 1, 1) := by decide +kernel
theorem d_Main_isBelow_10 : decode b_Main_isBelow 10 = .ok (.goto 4, 3) := by decide +kernel
theorem d_Main_isBelow_13 : decode b_Main_isBelow 13 = .ok (.iconst 0, 1) := by decide +kernel
theorem d_Main_isBelow_14 : decode b_Main_isBelow 14 = .ok (.ireturn, 1) := by decide +kernel
set_option maxRecDepth 20000 in
theorem c_Main_isBelow {l : Launch} {g : GG} (hI : WI g) (a0 : Int32) (a1 : Int32) (M : Mem) (R : Int32 → Mem → Prop) (h : wp_Main_isBelow a0 a1 M R) : Met l y_Main_isBelow (wm y_Main_isBelow b_Main_isBelow 2 (some .boolean)) (RM 0 0) (PP g M [.int a0, .int a1]) (PQ g (RZ R)) 0 0 (AW g) := by
  refine m_of (own := N_Main) (by decide) rfl (Nat.le_of_ble_eq_true rfl) ?_
  intro p e s m below meth c ls C hr hlocks hW hP hS hl
  obtain ⟨hx, hb, hml, hown, hts⟩ := id C
  have hl : lv_has ls 2 [(0, .int a0), (1, .int a1)] := hl
  unfold wp_Main_isBelow at h
  have hk := h
  refine lv_iload_n hx hb d_Main_isBelow_0 rfl (lv_at hl 0 rfl) ?_
  refine lv_if_lt (tgt := 13) hx hb d_Main_isBelow_1 (by decide) (fun c1 => ?_) (fun c1 => ?_)
  · have hk := hk.1 c1
    refine lv_iconst (v := 0) hx hb d_Main_isBelow_13 (by decide) ?_
    exact r_zret rfl C hr hlocks hP hS hk d_Main_isBelow_14
  · have hk := hk.2 c1
    refine lv_iload_n hx hb d_Main_isBelow_4 rfl (lv_at hl 0 rfl) ?_
    refine lv_iload_n hx hb d_Main_isBelow_5 rfl (lv_at hl 1 rfl) ?_
    refine lv_icmp_ge (tgt := 13) hx hb d_Main_isBelow_6 (by decide) (fun c2 => ?_) (fun c2 => ?_)
    · have hk := hk.1 c2
      refine lv_iconst (v := 0) hx hb d_Main_isBelow_13 (by decide) ?_
      exact r_zret rfl C hr hlocks hP hS hk d_Main_isBelow_14
    · have hk := hk.2 c2
      refine lv_iconst (v := 1) hx hb d_Main_isBelow_9 (by decide) ?_
      refine lv_goto (tgt := 14) hx hb d_Main_isBelow_10 (by decide) ?_
      exact r_zret rfl C hr hlocks hP hS hk d_Main_isBelow_14
theorem d_Sheet_holds_0 : decode b_Sheet_holds 0 = .ok (.iload_n 1, 1) := by decide +kernel
theorem d_Sheet_holds_1 : decode b_Sheet_holds 1 = .ok (.ifCond .lt 29, 3) := by decide +kernel
theorem d_Sheet_holds_4 : decode b_Sheet_holds 4 = .ok (.iload_n 1, 1) := by decide +kernel
theorem d_Sheet_holds_5 : decode b_Sheet_holds 5 = .ok (.aload_n 0, 1) := by decide +kernel
theorem d_Sheet_holds_6 : decode b_Sheet_holds 6 = .ok (.getfield 23, 3) := by decide +kernel
theorem d_Sheet_holds_9 : decode b_Sheet_holds 9 = .ok (.if_icmp .gt 21, 3) := by decide +kernel
theorem d_Sheet_holds_12 : decode b_Sheet_holds 12 = .ok (.iload_n 2, 1) := by decide +kernel
theorem d_Sheet_holds_13 : decode b_Sheet_holds 13 = .ok (.ifCond .lt 17, 3) := by decide +kernel
theorem d_Sheet_holds_16 : decode b_Sheet_holds 16 = .ok (.iload_n 2, 1) := by decide +kernel
theorem d_Sheet_holds_17 : decode b_Sheet_holds 17 = .ok (.aload_n 0, 1) := by decide +kernel
theorem d_Sheet_holds_18 : decode b_Sheet_holds 18 = .ok (.getfield 23, 3) := by decide +kernel
theorem d_Sheet_holds_21 : decode b_Sheet_holds 21 = .ok (.iload_n 1, 1) := by decide +kernel
theorem d_Sheet_holds_22 : decode b_Sheet_holds 22 = .ok (.isub, 1) := by decide +kernel
theorem d_Sheet_holds_23 : decode b_Sheet_holds 23 = .ok (.if_icmp .gt 7, 3) := by decide +kernel
theorem d_Sheet_holds_26 : decode b_Sheet_holds 26 = .ok (.iconst 1, 1) := by decide +kernel
theorem d_Sheet_holds_27 : decode b_Sheet_holds 27 = .ok (.goto 4, 3) := by decide +kernel
theorem d_Sheet_holds_30 : decode b_Sheet_holds 30 = .ok (.iconst 0, 1) := by decide +kernel
theorem d_Sheet_holds_31 : decode b_Sheet_holds 31 = .ok (.ireturn, 1) := by decide +kernel
set_option maxRecDepth 20000 in
theorem c_Sheet_holds {l : Launch} {g : GG} {q0 : Nat} (hq0 : q0 < 4) (hI : WI g) (a1 : Int32) (a2 : Int32) (M : Mem) (R : Int32 → Mem → Prop) (h : wp_Sheet_holds q0 a1 a2 M R) : Met l y_Sheet_holds (wm y_Sheet_holds b_Sheet_holds 3 (some .boolean)) (RM 0 0) (PP g M [.ref (g.2.2.2 (2 + q0)), .int a1, .int a2]) (PQ g (RZ R)) 0 0 (AW g) := by
  refine m_of (own := N_Sheet) (by decide) rfl (Nat.le_of_ble_eq_true rfl) ?_
  intro p e s m below meth c ls C hr hlocks hW hP hS hl
  obtain ⟨hx, hb, hml, hown, hts⟩ := id C
  have hl : lv_has ls 3 [(0, .ref (g.2.2.2 (2 + q0))), (1, .int a1), (2, .int a2)] := hl
  unfold wp_Sheet_holds at h
  have hk := h
  refine lv_iload_n hx hb d_Sheet_holds_0 rfl (lv_at hl 1 rfl) ?_
  refine lv_if_lt (tgt := 30) hx hb d_Sheet_holds_1 (by decide) (fun c1 => ?_) (fun c1 => ?_)
  · have hk := hk.1 c1
    refine lv_iconst (v := 0) hx hb d_Sheet_holds_30 (by decide) ?_
    exact r_zret rfl C hr hlocks hP hS hk d_Sheet_holds_31
  · have hk := hk.2 c1
    refine lv_iload_n hx hb d_Sheet_holds_4 rfl (lv_at hl 1 rfl) ?_
    refine lv_aload_n hx hb d_Sheet_holds_5 rfl (lv_at hl 0 rfl) ?_
    refine gf_sh_3 hq0 C hW hP fl_Sheet_23 d_Sheet_holds_6 ?_
    refine lv_icmp_gt (tgt := 30) hx hb d_Sheet_holds_9 (by decide) (fun c2 => ?_) (fun c2 => ?_)
    · have hk := hk.1 c2
      refine lv_iconst (v := 0) hx hb d_Sheet_holds_30 (by decide) ?_
      exact r_zret rfl C hr hlocks hP hS hk d_Sheet_holds_31
    · have hk := hk.2 c2
      refine lv_iload_n hx hb d_Sheet_holds_12 rfl (lv_at hl 2 rfl) ?_
      refine lv_if_lt (tgt := 30) hx hb d_Sheet_holds_13 (by decide) (fun c3 => ?_) (fun c3 => ?_)
      · have hk := hk.1 c3
        refine lv_iconst (v := 0) hx hb d_Sheet_holds_30 (by decide) ?_
        exact r_zret rfl C hr hlocks hP hS hk d_Sheet_holds_31
      · have hk := hk.2 c3
        refine lv_iload_n hx hb d_Sheet_holds_16 rfl (lv_at hl 2 rfl) ?_
        refine lv_aload_n hx hb d_Sheet_holds_17 rfl (lv_at hl 0 rfl) ?_
        refine gf_sh_3 hq0 C hW hP fl_Sheet_23 d_Sheet_holds_18 ?_
        refine lv_iload_n hx hb d_Sheet_holds_21 rfl (lv_at hl 1 rfl) ?_
        refine lv_isub hx hb d_Sheet_holds_22 ?_
        refine lv_icmp_gt (tgt := 30) hx hb d_Sheet_holds_23 (by decide) (fun c4 => ?_) (fun c4 => ?_)
        · have hk := hk.1 c4
          refine lv_iconst (v := 0) hx hb d_Sheet_holds_30 (by decide) ?_
          exact r_zret rfl C hr hlocks hP hS hk d_Sheet_holds_31
        · have hk := hk.2 c4
          refine lv_iconst (v := 1) hx hb d_Sheet_holds_26 (by decide) ?_
          refine lv_goto (tgt := 31) hx hb d_Sheet_holds_27 (by decide) ?_
          exact r_zret rfl C hr hlocks hP hS hk d_Sheet_holds_31
theorem d_Sheet_faultOfTaking_0 : decode b_Sheet_faultOfTaking 0 = .ok (.aload_n 0, 1) := by decide +kernel
theorem d_Sheet_faultOfTaking_1 : decode b_Sheet_faultOfTaking 1 = .ok (.getfield 15, 3) := by decide +kernel
theorem d_Sheet_faultOfTaking_4 : decode b_Sheet_faultOfTaking 4 = .ok (.ifCond .ne 5, 3) := by decide +kernel
theorem d_Sheet_faultOfTaking_7 : decode b_Sheet_faultOfTaking 7 = .ok (.iconst 1, 1) := by decide +kernel
theorem d_Sheet_faultOfTaking_8 : decode b_Sheet_faultOfTaking 8 = .ok (.ireturn, 1) := by decide +kernel
theorem d_Sheet_faultOfTaking_9 : decode b_Sheet_faultOfTaking 9 = .ok (.aload_n 0, 1) := by decide +kernel
theorem d_Sheet_faultOfTaking_10 : decode b_Sheet_faultOfTaking 10 = .ok (.getfield 19, 3) := by decide +kernel
theorem d_Sheet_faultOfTaking_13 : decode b_Sheet_faultOfTaking 13 = .ok (.iload_n 1, 1) := by decide +kernel
theorem d_Sheet_faultOfTaking_14 : decode b_Sheet_faultOfTaking 14 = .ok (.if_icmp .eq 5, 3) := by decide +kernel
theorem d_Sheet_faultOfTaking_17 : decode b_Sheet_faultOfTaking 17 = .ok (.iconst 2, 1) := by decide +kernel
theorem d_Sheet_faultOfTaking_18 : decode b_Sheet_faultOfTaking 18 = .ok (.ireturn, 1) := by decide +kernel
theorem d_Sheet_faultOfTaking_19 : decode b_Sheet_faultOfTaking 19 = .ok (.iload_n 3, 1) := by decide +kernel
theorem d_Sheet_faultOfTaking_20 : decode b_Sheet_faultOfTaking 20 = .ok (.ifCond .ge 5, 3) := by decide +kernel
theorem d_Sheet_faultOfTaking_23 : decode b_Sheet_faultOfTaking 23 = .ok (.iconst 4, 1) := by decide +kernel
theorem d_Sheet_faultOfTaking_24 : decode b_Sheet_faultOfTaking 24 = .ok (.ireturn, 1) := by decide +kernel
theorem d_Sheet_faultOfTaking_25 : decode b_Sheet_faultOfTaking 25 = .ok (.aload_n 0, 1) := by decide +kernel
theorem d_Sheet_faultOfTaking_26 : decode b_Sheet_faultOfTaking 26 = .ok (.iload_n 2, 1) := by decide +kernel
theorem d_Sheet_faultOfTaking_27 : decode b_Sheet_faultOfTaking 27 = .ok (.iload_n 3, 1) := by decide +kernel
theorem d_Sheet_faultOfTaking_28 : decode b_Sheet_faultOfTaking 28 = .ok (.invokevirtual 32, 3) := by decide +kernel
theorem d_Sheet_faultOfTaking_31 : decode b_Sheet_faultOfTaking 31 = .ok (.ifCond .eq 7, 3) := by decide +kernel
theorem d_Sheet_faultOfTaking_34 : decode b_Sheet_faultOfTaking 34 = .ok (.iconst 0, 1) := by decide +kernel
theorem d_Sheet_faultOfTaking_35 : decode b_Sheet_faultOfTaking 35 = .ok (.goto 4, 3) := by decide +kernel
theorem d_Sheet_faultOfTaking_38 : decode b_Sheet_faultOfTaking 38 = .ok (.iconst 3, 1) := by decide +kernel
theorem d_Sheet_faultOfTaking_39 : decode b_Sheet_faultOfTaking 39 = .ok (.ireturn, 1) := by decide +kernel
set_option maxRecDepth 20000 in
theorem c_Sheet_faultOfTaking {l : Launch} {g : GG} {q0 : Nat} (hq0 : q0 < 4) (hI : WI g) (a1 : Int32) (a2 : Int32) (a3 : Int32) (M : Mem) (R : Int32 → Mem → Prop) (h : wp_Sheet_faultOfTaking q0 a1 a2 a3 M R) : Met l y_Sheet_faultOfTaking (wm y_Sheet_faultOfTaking b_Sheet_faultOfTaking 4 (some .int)) (RM 1 22) (PP g M [.ref (g.2.2.2 (2 + q0)), .int a1, .int a2, .int a3]) (PQ g (RI R)) 0 0 (AW g) := by
  refine m_of (own := N_Sheet) (by decide) rfl (Nat.le_of_ble_eq_true rfl) ?_
  intro p e s m below meth c ls C hr hlocks hW hP hS hl
  obtain ⟨hx, hb, hml, hown, hts⟩ := id C
  have hl : lv_has ls 4 [(0, .ref (g.2.2.2 (2 + q0))), (1, .int a1), (2, .int a2), (3, .int a3)] := hl
  unfold wp_Sheet_faultOfTaking at h
  have hk := h
  refine lv_aload_n hx hb d_Sheet_faultOfTaking_0 rfl (lv_at hl 0 rfl) ?_
  refine gf_sh_1 hq0 C hW hP fl_Sheet_15 d_Sheet_faultOfTaking_1 ?_
  refine lv_if_ne (tgt := 9) hx hb d_Sheet_faultOfTaking_4 (by decide) (fun c1 => ?_) (fun c1 => ?_)
  · have hk := hk.1 c1
    refine lv_aload_n hx hb d_Sheet_faultOfTaking_9 rfl (lv_at hl 0 rfl) ?_
    refine gf_sh_2 hq0 C hW hP fl_Sheet_19 d_Sheet_faultOfTaking_10 ?_
    refine lv_iload_n hx hb d_Sheet_faultOfTaking_13 rfl (lv_at hl 1 rfl) ?_
    refine lv_icmp_eq (tgt := 19) hx hb d_Sheet_faultOfTaking_14 (by decide) (fun c2 => ?_) (fun c2 => ?_)
    · have hk := hk.1 c2
      refine lv_iload_n hx hb d_Sheet_faultOfTaking_19 rfl (lv_at hl 3 rfl) ?_
      refine lv_if_ge (tgt := 25) hx hb d_Sheet_faultOfTaking_20 (by decide) (fun c3 => ?_) (fun c3 => ?_)
      · have hk := hk.1 c3
        refine lv_aload_n hx hb d_Sheet_faultOfTaking_25 rfl (lv_at hl 0 rfl) ?_
        refine lv_iload_n hx hb d_Sheet_faultOfTaking_26 rfl (lv_at hl 2 rfl) ?_
        refine lv_iload_n hx hb d_Sheet_faultOfTaking_27 rfl (lv_at hl 3 rfl) ?_
        refine r_runZ (k_V (As := [.int a2, .int a3]) (rest := []) C hW hP (c_Sheet_holds hq0 hI a2 a3 M _ hk) cb_Sheet_holds ml_Sheet_32 (io_sh q0 hq0 M) ⟨by decide, by decide⟩ rfl hl.1 rfl (Nat.le_of_ble_eq_true rfl) d_Sheet_faultOfTaking_28 ⟨by decide, by decide⟩) hS (fun r5 M4 H locs zr5 hk hP hS => ?_)
        refine lv_if_eq (tgt := 38) hx hb d_Sheet_faultOfTaking_31 (by decide) (fun c6 => ?_) (fun c6 => ?_)
        · have hk := hk.1 c6
          refine lv_iconst (v := 3) hx hb d_Sheet_faultOfTaking_38 (by decide) ?_
          exact r_iret C hr hlocks hP hS hk d_Sheet_faultOfTaking_39
        · have hk := hk.2 c6
          refine lv_iconst (v := 0) hx hb d_Sheet_faultOfTaking_34 (by decide) ?_
          refine lv_goto (tgt := 39) hx hb d_Sheet_faultOfTaking_35 (by decide) ?_
          exact r_iret C hr hlocks hP hS hk d_Sheet_faultOfTaking_39
      · have hk := hk.2 c3
        refine lv_iconst (v := 4) hx hb d_Sheet_faultOfTaking_23 (by decide) ?_
        exact r_iret C hr hlocks hP hS hk d_Sheet_faultOfTaking_24
    · have hk := hk.2 c2
      refine lv_iconst (v := 2) hx hb d_Sheet_faultOfTaking_17 (by decide) ?_
      exact r_iret C hr hlocks hP hS hk d_Sheet_faultOfTaking_18
  · have hk := hk.2 c1
    refine lv_iconst (v := 1) hx hb d_Sheet_faultOfTaking_7 (by decide) ?_
    exact r_iret C hr hlocks hP hS hk d_Sheet_faultOfTaking_8
theorem d_Sheet_cut_0 : decode b_Sheet_cut 0 = .ok (.aload_n 0, 1) := by decide +kernel
theorem d_Sheet_cut_1 : decode b_Sheet_cut 1 = .ok (.getfield 19, 3) := by decide +kernel
theorem d_Sheet_cut_4 : decode b_Sheet_cut 4 = .ok (.lookupswitch 34 #[(0, 28), (1, 31)], 28) := by decide +kernel
theorem d_Sheet_cut_32 : decode b_Sheet_cut 32 = .ok (.iload_n 1, 1) := by decide +kernel
theorem d_Sheet_cut_33 : decode b_Sheet_cut 33 = .ok (.i2b, 1) := by decide +kernel
theorem d_Sheet_cut_34 : decode b_Sheet_cut 34 = .ok (.ireturn, 1) := by decide +kernel
theorem d_Sheet_cut_35 : decode b_Sheet_cut 35 = .ok (.iload_n 1, 1) := by decide +kernel
theorem d_Sheet_cut_36 : decode b_Sheet_cut 36 = .ok (.i2s, 1) := by decide +kernel
theorem d_Sheet_cut_37 : decode b_Sheet_cut 37 = .ok (.ireturn, 1) := by decide +kernel
theorem d_Sheet_cut_38 : decode b_Sheet_cut 38 = .ok (.iload_n 1, 1) := by decide +kernel
theorem d_Sheet_cut_39 : decode b_Sheet_cut 39 = .ok (.ireturn, 1) := by decide +kernel
set_option maxRecDepth 20000 in
theorem c_Sheet_cut {l : Launch} {g : GG} {q0 : Nat} (hq0 : q0 < 4) (hI : WI g) (a1 : Int32) (M : Mem) (R : Int32 → Mem → Prop) (h : wp_Sheet_cut q0 a1 M R) : Met l y_Sheet_cut (wm y_Sheet_cut b_Sheet_cut 2 (some .int)) (RM 0 0) (PP g M [.ref (g.2.2.2 (2 + q0)), .int a1]) (PQ g (RI R)) 0 0 (AW g) := by
  refine m_of (own := N_Sheet) (by decide) rfl (Nat.le_of_ble_eq_true rfl) ?_
  intro p e s m below meth c ls C hr hlocks hW hP hS hl
  obtain ⟨hx, hb, hml, hown, hts⟩ := id C
  have hl : lv_has ls 2 [(0, .ref (g.2.2.2 (2 + q0))), (1, .int a1)] := hl
  unfold wp_Sheet_cut at h
  have hk := h
  refine lv_aload_n hx hb d_Sheet_cut_0 rfl (lv_at hl 0 rfl) ?_
  refine gf_sh_2 hq0 C hW hP fl_Sheet_19 d_Sheet_cut_1 ?_
  by_cases c1 : (M (2 + q0) 2) = (0 : Int32)
  · have hk := hk.1 c1
    refine lv_lookup (tgt := 32) hx hb d_Sheet_cut_4 (by decide) (by rw [c1] <;> rfl) (by decide) ?_
    refine lv_iload_n hx hb d_Sheet_cut_32 rfl (lv_at hl 1 rfl) ?_
    refine lv_i2b hx hb d_Sheet_cut_33 rfl ?_
    exact r_iret C hr hlocks hP hS hk d_Sheet_cut_34
  · have hk := hk.2 c1
    by_cases c2 : (M (2 + q0) 2) = (1 : Int32)
    · have hk := hk.1 c2
      refine lv_lookup (tgt := 35) hx hb d_Sheet_cut_4 (by decide) (by rw [c2] <;> rfl) (by decide) ?_
      refine lv_iload_n hx hb d_Sheet_cut_35 rfl (lv_at hl 1 rfl) ?_
      refine lv_i2s hx hb d_Sheet_cut_36 rfl ?_
      exact r_iret C hr hlocks hP hS hk d_Sheet_cut_37
    · have hk := hk.2 c2
      refine lv_lookup (tgt := 38) hx hb d_Sheet_cut_4 (by decide) (by simp [Op.lookupswitch.offset, sw_ne (k := 0) c1, sw_ne (k := 1) c2] <;> rfl) (by decide) ?_
      refine lv_iload_n hx hb d_Sheet_cut_38 rfl (lv_at hl 1 rfl) ?_
      exact r_iret C hr hlocks hP hS hk d_Sheet_cut_39
theorem d_Way_hasHouse_0 : decode b_Way_hasHouse 0 = .ok (.iload_n 1, 1) := by decide +kernel
theorem d_Way_hasHouse_1 : decode b_Way_hasHouse 1 = .ok (.aload_n 0, 1) := by decide +kernel
theorem d_Way_hasHouse_2 : decode b_Way_hasHouse 2 = .ok (.getfield 27, 3) := by decide +kernel
theorem d_Way_hasHouse_5 : decode b_Way_hasHouse 5 = .ok (.invokestatic 52, 3) := by decide +kernel
theorem d_Way_hasHouse_8 : decode b_Way_hasHouse 8 = .ok (.ireturn, 1) := by decide +kernel
set_option maxRecDepth 20000 in
theorem c_Way_hasHouse {l : Launch} {g : GG} (hI : WI g) (a1 : Int32) (M : Mem) (R : Int32 → Mem → Prop) (h : wp_Way_hasHouse a1 M R) : Met l y_Way_hasHouse (wm y_Way_hasHouse b_Way_hasHouse 2 (some .boolean)) (RM 1 21) (PP g M [.ref (g.2.2.2 12), .int a1]) (PQ g (RZ R)) 0 0 (AW g) := by
  refine m_of (own := N_Way) (by decide) rfl (Nat.le_of_ble_eq_true rfl) ?_
  intro p e s m below meth c ls C hr hlocks hW hP hS hl
  obtain ⟨hx, hb, hml, hown, hts⟩ := id C
  have hl : lv_has ls 2 [(0, .ref (g.2.2.2 12)), (1, .int a1)] := hl
  unfold wp_Way_hasHouse at h
  have hk := h
  refine lv_iload_n hx hb d_Way_hasHouse_0 rfl (lv_at hl 1 rfl) ?_
  refine lv_aload_n hx hb d_Way_hasHouse_1 rfl (lv_at hl 0 rfl) ?_
  refine gf_12_5 C hW hP fl_Way_27 d_Way_hasHouse_2 ?_
  refine r_runZ (k_N (As := [.int a1, .int (M 12 5)]) (rest := []) C hW hP (c_Main_isBelow hI a1 (M 12 5) M _ hk) cb_Main_isBelow hW.2.2 ⟨by decide, by decide⟩ rfl hl.1 rfl (Nat.le_of_ble_eq_true rfl) d_Way_hasHouse_5 ⟨by decide, by decide⟩) hS (fun r2 M1 H locs zr2 hk hP hS => ?_)
  exact r_zret zr2 C hr hlocks hP hS hk d_Way_hasHouse_8
theorem d_Way_gearOf_0 : decode b_Way_gearOf 0 = .ok (.iconst 0, 1) := by decide +kernel
theorem d_Way_gearOf_1 : decode b_Way_gearOf 1 = .ok (.istore_n 2, 1) := by decide +kernel
theorem d_Way_gearOf_2 : decode b_Way_gearOf 2 = .ok (.iconst 0, 1) := by decide +kernel
theorem d_Way_gearOf_3 : decode b_Way_gearOf 3 = .ok (.istore_n 3, 1) := by decide +kernel
theorem d_Way_gearOf_4 : decode b_Way_gearOf 4 = .ok (.iload_n 3, 1) := by decide +kernel
theorem d_Way_gearOf_5 : decode b_Way_gearOf 5 = .ok (.aload_n 0, 1) := by decide +kernel
theorem d_Way_gearOf_6 : decode b_Way_gearOf 6 = .ok (.getfield 31, 3) := by decide +kernel
theorem d_Way_gearOf_9 : decode b_Way_gearOf 9 = .ok (.if_icmp .ge 26, 3) := by decide +kernel
theorem d_Way_gearOf_12 : decode b_Way_gearOf 12 = .ok (.iload_n 1, 1) := by decide +kernel
theorem d_Way_gearOf_13 : decode b_Way_gearOf 13 = .ok (.iconst 1, 1) := by decide +kernel
theorem d_Way_gearOf_14 : decode b_Way_gearOf 14 = .ok (.iload_n 3, 1) := by decide +kernel
theorem d_Way_gearOf_15 : decode b_Way_gearOf 15 = .ok (.ishl, 1) := by decide +kernel
theorem d_Way_gearOf_16 : decode b_Way_gearOf 16 = .ok (.iand, 1) := by decide +kernel
theorem d_Way_gearOf_17 : decode b_Way_gearOf 17 = .ok (.ifCond .eq 12, 3) := by decide +kernel
theorem d_Way_gearOf_20 : decode b_Way_gearOf 20 = .ok (.iload_n 2, 1) := by decide +kernel
theorem d_Way_gearOf_21 : decode b_Way_gearOf 21 = .ok (.aload_n 0, 1) := by decide +kernel
theorem d_Way_gearOf_22 : decode b_Way_gearOf 22 = .ok (.getfield 24, 3) := by decide +kernel
theorem d_Way_gearOf_25 : decode b_Way_gearOf 25 = .ok (.iload_n 3, 1) := by decide +kernel
theorem d_Way_gearOf_26 : decode b_Way_gearOf 26 = .ok (.iaload, 1) := by decide +kernel
theorem d_Way_gearOf_27 : decode b_Way_gearOf 27 = .ok (.ior, 1) := by decide +kernel
theorem d_Way_gearOf_28 : decode b_Way_gearOf 28 = .ok (.istore_n 2, 1) := by decide +kernel
theorem d_Way_gearOf_29 : decode b_Way_gearOf 29 = .ok (.iinc 3 1, 3) := by decide +kernel
theorem d_Way_gearOf_32 : decode b_Way_gearOf 32 = .ok (.goto (-28), 3) := by decide +kernel
theorem d_Way_gearOf_35 : decode b_Way_gearOf 35 = .ok (.iload_n 2, 1) := by decide +kernel
theorem d_Way_gearOf_36 : decode b_Way_gearOf 36 = .ok (.ireturn, 1) := by decide +kernel
set_option maxRecDepth 20000 in
theorem c_Way_gearOf {l : Launch} {g : GG} (hI : WI g) (a1 : Int32) (M : Mem) (R : Int32 → Mem → Prop) (h : wp_Way_gearOf a1 M R) : Met l y_Way_gearOf (wm y_Way_gearOf b_Way_gearOf 4 (some .int)) (RM 0 0) (PP g M [.ref (g.2.2.2 12), .int a1]) (PQ g (RI R)) 0 0 (AW g) := by
  refine m_of (own := N_Way) (by decide) rfl (Nat.le_of_ble_eq_true rfl) ?_
  intro p e s m below meth c ls C hr hlocks hW hP hS hl
  obtain ⟨hx, hb, hml, hown, hts⟩ := id C
  have hl : lv_has ls 4 [(0, .ref (g.2.2.2 12)), (1, .int a1)] := hl
  unfold wp_Way_gearOf at h
  obtain ⟨X4, eX4⟩ : ∃ X : Int32 → Int32 → Int32 → Mem → Prop, ∀ (x1 : Int32) (x2 : Int32) (x3 : Int32) (M : Mem), X x1 x2 x3 M ↔ (∀ (H : Heap) (locs : List Loc) (ls : Array Slot), WP g M H → va_S (AW g) s.heap H locs → lv_has ls 4 [(0, .ref (g.2.2.2 12)), (1, .int x1), (2, .int x2), (3, .int x3)] → W p l e (RM 0 0) s m ([.ref (g.2.2.2 12), .int a1] : List Value).toArray below meth c H locs 0 0 (MQ below (PQ g (RI R)) ([.ref (g.2.2.2 12), .int a1] : List Value).toArray s 0 0 (AW g)) (F0 m 4 ls [])) := ⟨fun x1 x2 x3 M => _, fun _ _ _ _ => Iff.rfl⟩
  have J29 : ∀ (x1 : Int32) (x2 : Int32) (x3 : Int32) (M : Mem), wp_Way_gearOf_29 X4 R x1 x2 x3 M → ∀ (H : Heap) (locs : List Loc) (ls : Array Slot), WP g M H → va_S (AW g) s.heap H locs → lv_has ls 4 [(0, .ref (g.2.2.2 12)), (1, .int x1), (2, .int x2), (3, .int x3)] → W p l e (RM 0 0) s m ([.ref (g.2.2.2 12), .int a1] : List Value).toArray below meth c H locs 0 0 (MQ below (PQ g (RI R)) ([.ref (g.2.2.2 12), .int a1] : List Value).toArray s 0 0 (AW g)) (F0 m 29 ls []) := by
    intro x1 x2 x3 M hk H locs ls hP hS hl
    unfold wp_Way_gearOf_29 at hk
    obtain ⟨x3_5, ex3_5⟩ : ∃ y : Int32, y = x3 + (1 : Int32) := ⟨_, rfl⟩
    have hk := hk x3_5 ex3_5
    refine lv_iinc (v := x3_5) (lv' := [(3, .int x3_5), (0, .ref (g.2.2.2 12)), (1, .int x1), (2, .int x2)]) hx hb d_Way_gearOf_29 hl (k := 3) rfl (by rw [ex3_5]; rfl) (by decide) rfl (fun ls hl => ?_)
    refine lv_goto (tgt := 4) hx hb d_Way_gearOf_32 (by decide) ?_
    exact (eX4 x1 x2 x3_5 M).mp hk _ _ _ hP hS (lv_sub hl [1, 2, 3, 0] rfl)
  suffices hcl : (∀ (x1 : Int32) (x2 : Int32) (x3 : Int32) (M : Mem), wp_Way_gearOf_4 X4 R x1 x2 x3 M → X4 x1 x2 x3 M) by
    have hk := h X4 hcl
    refine lv_iconst (v := 0) hx hb d_Way_gearOf_0 (by decide) ?_
    refine lv_istore_n (lv' := [(2, .int (0 : Int32)), (0, .ref (g.2.2.2 12)), (1, .int a1)]) hx hb d_Way_gearOf_1 rfl hl (by decide) rfl (fun ls hl => ?_)
    refine lv_iconst (v := 0) hx hb d_Way_gearOf_2 (by decide) ?_
    refine lv_istore_n (lv' := [(3, .int (0 : Int32)), (2, .int (0 : Int32)), (0, .ref (g.2.2.2 12)), (1, .int a1)]) hx hb d_Way_gearOf_3 rfl hl (by decide) rfl (fun ls hl => ?_)
    exact (eX4 a1 (0 : Int32) (0 : Int32) M).mp hk _ _ _ hP hS (lv_sub hl [2, 3, 1, 0] rfl)
  · intro x1 x2 x3 M hk
    refine (eX4 x1 x2 x3 M).mpr ?_
    intro H locs ls hP hS hl
    unfold wp_Way_gearOf_4 at hk
    refine lv_iload_n hx hb d_Way_gearOf_4 rfl (lv_at hl 3 rfl) ?_
    refine lv_aload_n hx hb d_Way_gearOf_5 rfl (lv_at hl 0 rfl) ?_
    refine gf_12_6 C hW hP fl_Way_31 d_Way_gearOf_6 ?_
    refine lv_icmp_ge (tgt := 35) hx hb d_Way_gearOf_9 (by decide) (fun c1 => ?_) (fun c1 => ?_)
    · have hk := hk.1 c1
      refine lv_iload_n hx hb d_Way_gearOf_35 rfl (lv_at hl 2 rfl) ?_
      exact r_iret C hr hlocks hP hS hk d_Way_gearOf_36
    · have hk := hk.2 c1
      refine lv_iload_n hx hb d_Way_gearOf_12 rfl (lv_at hl 1 rfl) ?_
      refine lv_iconst (v := 1) hx hb d_Way_gearOf_13 (by decide) ?_
      refine lv_iload_n hx hb d_Way_gearOf_14 rfl (lv_at hl 3 rfl) ?_
      refine lv_ishl hx hb d_Way_gearOf_15 ?_
      refine lv_iand hx hb d_Way_gearOf_16 ?_
      refine lv_if_eq (tgt := 29) hx hb d_Way_gearOf_17 (by decide) (fun c2 => ?_) (fun c2 => ?_)
      · have hk := hk.1 c2
        exact J29 x1 x2 x3 M hk _ _ _ hP hS (lv_sub hl [0, 1, 2, 3] rfl)
      · have hk := hk.2 c2
        refine lv_iload_n hx hb d_Way_gearOf_20 rfl (lv_at hl 2 rfl) ?_
        refine lv_aload_n hx hb d_Way_gearOf_21 rfl (lv_at hl 0 rfl) ?_
        refine gf_12_4 C hW hP fl_Way_24 d_Way_gearOf_22 ?_
        refine lv_iload_n hx hb d_Way_gearOf_25 rfl (lv_at hl 3 rfl) ?_
        obtain ⟨h3, hk⟩ := hk
        refine al_17 C hW hP h3 d_Way_gearOf_26 ?_
        refine lv_ior hx hb d_Way_gearOf_27 ?_
        refine lv_topi (fun x2_4 ex2_4 => ?_)
        have hk := hk x2_4 ex2_4
        refine lv_istore_n (lv' := [(2, .int x2_4), (0, .ref (g.2.2.2 12)), (1, .int x1), (3, .int x3)]) hx hb d_Way_gearOf_28 rfl hl (by decide) rfl (fun ls hl => ?_)
        exact J29 x1 x2_4 x3 M hk _ _ _ hP hS (lv_sub hl [1, 2, 0, 3] rfl)
theorem d_Way_usedIn_0 : decode b_Way_usedIn 0 = .ok (.iload_n 2, 1) := by decide +kernel
theorem d_Way_usedIn_1 : decode b_Way_usedIn 1 = .ok (.iload_n 3, 1) := by decide +kernel
theorem d_Way_usedIn_2 : decode b_Way_usedIn 2 = .ok (.iconst (-1), 1) := by decide +kernel
theorem d_Way_usedIn_3 : decode b_Way_usedIn 3 = .ok (.ixor, 1) := by decide +kernel
theorem d_Way_usedIn_4 : decode b_Way_usedIn 4 = .ok (.iand, 1) := by decide +kernel
theorem d_Way_usedIn_5 : decode b_Way_usedIn 5 = .ok (.iconst 1, 1) := by decide +kernel
theorem d_Way_usedIn_6 : decode b_Way_usedIn 6 = .ok (.aload_n 0, 1) := by decide +kernel
theorem d_Way_usedIn_7 : decode b_Way_usedIn 7 = .ok (.getfield 21, 3) := by decide +kernel
theorem d_Way_usedIn_10 : decode b_Way_usedIn 10 = .ok (.iload_n 1, 1) := by decide +kernel
theorem d_Way_usedIn_11 : decode b_Way_usedIn 11 = .ok (.iaload, 1) := by decide +kernel
theorem d_Way_usedIn_12 : decode b_Way_usedIn 12 = .ok (.ishl, 1) := by decide +kernel
theorem d_Way_usedIn_13 : decode b_Way_usedIn 13 = .ok (.iconst (-1), 1) := by decide +kernel
theorem d_Way_usedIn_14 : decode b_Way_usedIn 14 = .ok (.ixor, 1) := by decide +kernel
theorem d_Way_usedIn_15 : decode b_Way_usedIn 15 = .ok (.iand, 1) := by decide +kernel
theorem d_Way_usedIn_16 : decode b_Way_usedIn 16 = .ok (.iconst 1, 1) := by decide +kernel
theorem d_Way_usedIn_17 : decode b_Way_usedIn 17 = .ok (.aload_n 0, 1) := by decide +kernel
theorem d_Way_usedIn_18 : decode b_Way_usedIn 18 = .ok (.getfield 34, 3) := by decide +kernel
theorem d_Way_usedIn_21 : decode b_Way_usedIn 21 = .ok (.ishl, 1) := by decide +kernel
theorem d_Way_usedIn_22 : decode b_Way_usedIn 22 = .ok (.iconst (-1), 1) := by decide +kernel
theorem d_Way_usedIn_23 : decode b_Way_usedIn 23 = .ok (.ixor, 1) := by decide +kernel
theorem d_Way_usedIn_24 : decode b_Way_usedIn 24 = .ok (.iand, 1) := by decide +kernel
theorem d_Way_usedIn_25 : decode b_Way_usedIn 25 = .ok (.istore 4, 2) := by decide +kernel
theorem d_Way_usedIn_27 : decode b_Way_usedIn 27 = .ok (.iconst 1, 1) := by decide +kernel
theorem d_Way_usedIn_28 : decode b_Way_usedIn 28 = .ok (.aload_n 0, 1) := by decide +kernel
theorem d_Way_usedIn_29 : decode b_Way_usedIn 29 = .ok (.getfield 15, 3) := by decide +kernel
theorem d_Way_usedIn_32 : decode b_Way_usedIn 32 = .ok (.iload_n 1, 1) := by decide +kernel
theorem d_Way_usedIn_33 : decode b_Way_usedIn 33 = .ok (.iaload, 1) := by decide +kernel
theorem d_Way_usedIn_34 : decode b_Way_usedIn 34 = .ok (.ishl, 1) := by decide +kernel
theorem d_Way_usedIn_35 : decode b_Way_usedIn 35 = .ok (.istore 5, 2) := by decide +kernel
theorem d_Way_usedIn_37 : decode b_Way_usedIn 37 = .ok (.iconst 1, 1) := by decide +kernel
theorem d_Way_usedIn_38 : decode b_Way_usedIn 38 = .ok (.aload_n 0, 1) := by decide +kernel
theorem d_Way_usedIn_39 : decode b_Way_usedIn 39 = .ok (.getfield 18, 3) := by decide +kernel
theorem d_Way_usedIn_42 : decode b_Way_usedIn 42 = .ok (.iload_n 1, 1) := by decide +kernel
theorem d_Way_usedIn_43 : decode b_Way_usedIn 43 = .ok (.iaload, 1) := by decide +kernel
theorem d_Way_usedIn_44 : decode b_Way_usedIn 44 = .ok (.ishl, 1) := by decide +kernel
theorem d_Way_usedIn_45 : decode b_Way_usedIn 45 = .ok (.istore 6, 2) := by decide +kernel
theorem d_Way_usedIn_47 : decode b_Way_usedIn 47 = .ok (.aload_n 0, 1) := by decide +kernel
theorem d_Way_usedIn_48 : decode b_Way_usedIn 48 = .ok (.getfield 9, 3) := by decide +kernel
theorem d_Way_usedIn_51 : decode b_Way_usedIn 51 = .ok (.iload_n 1, 1) := by decide +kernel
theorem d_Way_usedIn_52 : decode b_Way_usedIn 52 = .ok (.iaload, 1) := by decide +kernel
theorem d_Way_usedIn_53 : decode b_Way_usedIn 53 = .ok (.iconst 1, 1) := by decide +kernel
theorem d_Way_usedIn_54 : decode b_Way_usedIn 54 = .ok (.if_icmp .ne 28, 3) := by decide +kernel
theorem d_Way_usedIn_57 : decode b_Way_usedIn 57 = .ok (.iload 5, 2) := by decide +kernel
theorem d_Way_usedIn_59 : decode b_Way_usedIn 59 = .ok (.iload 6, 2) := by decide +kernel
theorem d_Way_usedIn_61 : decode b_Way_usedIn 61 = .ok (.ior, 1) := by decide +kernel
theorem d_Way_usedIn_62 : decode b_Way_usedIn 62 = .ok (.istore 7, 2) := by decide +kernel
theorem d_Way_usedIn_64 : decode b_Way_usedIn 64 = .ok (.iload 4, 2) := by decide +kernel
theorem d_Way_usedIn_66 : decode b_Way_usedIn 66 = .ok (.iload 7, 2) := by decide +kernel
theorem d_Way_usedIn_68 : decode b_Way_usedIn 68 = .ok (.iand, 1) := by decide +kernel
theorem d_Way_usedIn_69 : decode b_Way_usedIn 69 = .ok (.iload 7, 2) := by decide +kernel
theorem d_Way_usedIn_71 : decode b_Way_usedIn 71 = .ok (.if_icmp .ne 8, 3) := by decide +kernel
theorem d_Way_usedIn_74 : decode b_Way_usedIn 74 = .ok (.iload 7, 2) := by decide +kernel
theorem d_Way_usedIn_76 : decode b_Way_usedIn 76 = .ok (.goto 5, 3) := by decide +kernel
theorem d_Way_usedIn_79 : decode b_Way_usedIn 79 = .ok (.bipush (-9), 2) := by decide +kernel
theorem d_Way_usedIn_81 : decode b_Way_usedIn 81 = .ok (.ireturn, 1) := by decide +kernel
theorem d_Way_usedIn_82 : decode b_Way_usedIn 82 = .ok (.iload 4, 2) := by decide +kernel
theorem d_Way_usedIn_84 : decode b_Way_usedIn 84 = .ok (.iload 5, 2) := by decide +kernel
theorem d_Way_usedIn_86 : decode b_Way_usedIn 86 = .ok (.iand, 1) := by decide +kernel
theorem d_Way_usedIn_87 : decode b_Way_usedIn 87 = .ok (.ifCond .eq 6, 3) := by decide +kernel
theorem d_Way_usedIn_90 : decode b_Way_usedIn 90 = .ok (.iload 5, 2) := by decide +kernel
theorem d_Way_usedIn_92 : decode b_Way_usedIn 92 = .ok (.ireturn, 1) := by decide +kernel
theorem d_Way_usedIn_93 : decode b_Way_usedIn 93 = .ok (.iload 4, 2) := by decide +kernel
theorem d_Way_usedIn_95 : decode b_Way_usedIn 95 = .ok (.iload 6, 2) := by decide +kernel
theorem d_Way_usedIn_97 : decode b_Way_usedIn 97 = .ok (.iand, 1) := by decide +kernel
theorem d_Way_usedIn_98 : decode b_Way_usedIn 98 = .ok (.ifCond .eq 8, 3) := by decide +kernel
theorem d_Way_usedIn_101 : decode b_Way_usedIn 101 = .ok (.iload 6, 2) := by decide +kernel
theorem d_Way_usedIn_103 : decode b_Way_usedIn 103 = .ok (.goto 5, 3) := by decide +kernel
theorem d_Way_usedIn_106 : decode b_Way_usedIn 106 = .ok (.bipush (-9), 2) := by decide +kernel
theorem d_Way_usedIn_108 : decode b_Way_usedIn 108 = .ok (.ireturn, 1) := by decide +kernel
set_option maxRecDepth 20000 in
theorem c_Way_usedIn {l : Launch} {g : GG} (hI : WI g) (a1 : Int32) (a2 : Int32) (a3 : Int32) (M : Mem) (R : Int32 → Mem → Prop) (h : wp_Way_usedIn a1 a2 a3 M R) : Met l y_Way_usedIn (wm y_Way_usedIn b_Way_usedIn 8 (some .int)) (RM 0 0) (PP g M [.ref (g.2.2.2 12), .int a1, .int a2, .int a3]) (PQ g (RI R)) 0 0 (AW g) := by
  refine m_of (own := N_Way) (by decide) rfl (Nat.le_of_ble_eq_true rfl) ?_
  intro p e s m below meth c ls C hr hlocks hW hP hS hl
  obtain ⟨hx, hb, hml, hown, hts⟩ := id C
  have hl : lv_has ls 8 [(0, .ref (g.2.2.2 12)), (1, .int a1), (2, .int a2), (3, .int a3)] := hl
  unfold wp_Way_usedIn at h
  have hk := h
  refine lv_iload_n hx hb d_Way_usedIn_0 rfl (lv_at hl 2 rfl) ?_
  refine lv_iload_n hx hb d_Way_usedIn_1 rfl (lv_at hl 3 rfl) ?_
  refine lv_iconst (v := -1) hx hb d_Way_usedIn_2 (by decide) ?_
  refine lv_ixor hx hb d_Way_usedIn_3 ?_
  refine lv_iand hx hb d_Way_usedIn_4 ?_
  refine lv_iconst (v := 1) hx hb d_Way_usedIn_5 (by decide) ?_
  refine lv_aload_n hx hb d_Way_usedIn_6 rfl (lv_at hl 0 rfl) ?_
  refine gf_12_3 C hW hP fl_Way_21 d_Way_usedIn_7 ?_
  refine lv_iload_n hx hb d_Way_usedIn_10 rfl (lv_at hl 1 rfl) ?_
  obtain ⟨h1, hk⟩ := hk
  refine al_16 C hW hP h1 d_Way_usedIn_11 ?_
  refine lv_ishl hx hb d_Way_usedIn_12 ?_
  refine lv_iconst (v := -1) hx hb d_Way_usedIn_13 (by decide) ?_
  refine lv_ixor hx hb d_Way_usedIn_14 ?_
  refine lv_iand hx hb d_Way_usedIn_15 ?_
  refine lv_iconst (v := 1) hx hb d_Way_usedIn_16 (by decide) ?_
  refine lv_aload_n hx hb d_Way_usedIn_17 rfl (lv_at hl 0 rfl) ?_
  refine gf_12_7 C hW hP fl_Way_34 d_Way_usedIn_18 ?_
  refine lv_ishl hx hb d_Way_usedIn_21 ?_
  refine lv_iconst (v := -1) hx hb d_Way_usedIn_22 (by decide) ?_
  refine lv_ixor hx hb d_Way_usedIn_23 ?_
  refine lv_iand hx hb d_Way_usedIn_24 ?_
  refine lv_topi (fun x4_2 ex4_2 => ?_)
  have hk := hk x4_2 ex4_2
  refine lv_istore (lv' := [(4, .int x4_2), (0, .ref (g.2.2.2 12)), (1, .int a1), (2, .int a2), (3, .int a3)]) hx hb d_Way_usedIn_25 hl (by decide) rfl (fun ls hl => ?_)
  refine lv_iconst (v := 1) hx hb d_Way_usedIn_27 (by decide) ?_
  refine lv_aload_n hx hb d_Way_usedIn_28 rfl (lv_at hl 1 rfl) ?_
  refine gf_12_1 C hW hP fl_Way_15 d_Way_usedIn_29 ?_
  refine lv_iload_n hx hb d_Way_usedIn_32 rfl (lv_at hl 2 rfl) ?_
  obtain ⟨h3, hk⟩ := hk
  refine al_14 C hW hP h3 d_Way_usedIn_33 ?_
  refine lv_ishl hx hb d_Way_usedIn_34 ?_
  refine lv_topi (fun x5_4 ex5_4 => ?_)
  have hk := hk x5_4 ex5_4
  refine lv_istore (lv' := [(5, .int x5_4), (4, .int x4_2), (0, .ref (g.2.2.2 12)), (1, .int a1), (2, .int a2), (3, .int a3)]) hx hb d_Way_usedIn_35 hl (by decide) rfl (fun ls hl => ?_)
  refine lv_iconst (v := 1) hx hb d_Way_usedIn_37 (by decide) ?_
  refine lv_aload_n hx hb d_Way_usedIn_38 rfl (lv_at hl 2 rfl) ?_
  refine gf_12_2 C hW hP fl_Way_18 d_Way_usedIn_39 ?_
  refine lv_iload_n hx hb d_Way_usedIn_42 rfl (lv_at hl 3 rfl) ?_
  obtain ⟨h5, hk⟩ := hk
  refine al_15 C hW hP h5 d_Way_usedIn_43 ?_
  refine lv_ishl hx hb d_Way_usedIn_44 ?_
  refine lv_topi (fun x6_6 ex6_6 => ?_)
  have hk := hk x6_6 ex6_6
  refine lv_istore (lv' := [(6, .int x6_6), (5, .int x5_4), (4, .int x4_2), (0, .ref (g.2.2.2 12)), (1, .int a1), (2, .int a2), (3, .int a3)]) hx hb d_Way_usedIn_45 hl (by decide) rfl (fun ls hl => ?_)
  refine lv_aload_n hx hb d_Way_usedIn_47 rfl (lv_at hl 3 rfl) ?_
  refine gf_12_0 C hW hP fl_Way_9 d_Way_usedIn_48 ?_
  refine lv_iload_n hx hb d_Way_usedIn_51 rfl (lv_at hl 4 rfl) ?_
  obtain ⟨h7, hk⟩ := hk
  refine al_13 C hW hP h7 d_Way_usedIn_52 ?_
  refine lv_iconst (v := 1) hx hb d_Way_usedIn_53 (by decide) ?_
  refine lv_icmp_ne (tgt := 82) hx hb d_Way_usedIn_54 (by decide) (fun c8 => ?_) (fun c8 => ?_)
  · have hk := hk.1 c8
    refine lv_iload hx hb d_Way_usedIn_82 (lv_at hl 2 rfl) ?_
    refine lv_iload hx hb d_Way_usedIn_84 (lv_at hl 1 rfl) ?_
    refine lv_iand hx hb d_Way_usedIn_86 ?_
    refine lv_if_eq (tgt := 93) hx hb d_Way_usedIn_87 (by decide) (fun c9 => ?_) (fun c9 => ?_)
    · have hk := hk.1 c9
      refine lv_iload hx hb d_Way_usedIn_93 (lv_at hl 2 rfl) ?_
      refine lv_iload hx hb d_Way_usedIn_95 (lv_at hl 0 rfl) ?_
      refine lv_iand hx hb d_Way_usedIn_97 ?_
      refine lv_if_eq (tgt := 106) hx hb d_Way_usedIn_98 (by decide) (fun c10 => ?_) (fun c10 => ?_)
      · have hk := hk.1 c10
        refine lv_bipush (v := -9) hx hb d_Way_usedIn_106 (by decide) ?_
        exact r_iret C hr hlocks hP hS hk d_Way_usedIn_108
      · have hk := hk.2 c10
        refine lv_iload hx hb d_Way_usedIn_101 (lv_at hl 0 rfl) ?_
        refine lv_goto (tgt := 108) hx hb d_Way_usedIn_103 (by decide) ?_
        exact r_iret C hr hlocks hP hS hk d_Way_usedIn_108
    · have hk := hk.2 c9
      refine lv_iload hx hb d_Way_usedIn_90 (lv_at hl 1 rfl) ?_
      exact r_iret C hr hlocks hP hS hk d_Way_usedIn_92
  · have hk := hk.2 c8
    refine lv_iload hx hb d_Way_usedIn_57 (lv_at hl 1 rfl) ?_
    refine lv_iload hx hb d_Way_usedIn_59 (lv_at hl 0 rfl) ?_
    refine lv_ior hx hb d_Way_usedIn_61 ?_
    refine lv_topi (fun x7_11 ex7_11 => ?_)
    have hk := hk x7_11 ex7_11
    refine lv_istore (lv' := [(7, .int x7_11), (6, .int x6_6), (5, .int x5_4), (4, .int x4_2), (0, .ref (g.2.2.2 12)), (1, .int a1), (2, .int a2), (3, .int a3)]) hx hb d_Way_usedIn_62 hl (by decide) rfl (fun ls hl => ?_)
    refine lv_iload hx hb d_Way_usedIn_64 (lv_at hl 3 rfl) ?_
    refine lv_iload hx hb d_Way_usedIn_66 (lv_at hl 0 rfl) ?_
    refine lv_iand hx hb d_Way_usedIn_68 ?_
    refine lv_iload hx hb d_Way_usedIn_69 (lv_at hl 0 rfl) ?_
    refine lv_icmp_ne (tgt := 79) hx hb d_Way_usedIn_71 (by decide) (fun c12 => ?_) (fun c12 => ?_)
    · have hk := hk.1 c12
      refine lv_bipush (v := -9) hx hb d_Way_usedIn_79 (by decide) ?_
      exact r_iret C hr hlocks hP hS hk d_Way_usedIn_81
    · have hk := hk.2 c12
      refine lv_iload hx hb d_Way_usedIn_74 (lv_at hl 0 rfl) ?_
      refine lv_goto (tgt := 81) hx hb d_Way_usedIn_76 (by decide) ?_
      exact r_iret C hr hlocks hP hS hk d_Way_usedIn_81
theorem d_Int_bitCount_0 : decode b_Int_bitCount 0 = .ok (.iload_n 0, 1) := by decide +kernel
theorem d_Int_bitCount_1 : decode b_Int_bitCount 1 = .ok (.iload_n 0, 1) := by decide +kernel
theorem d_Int_bitCount_2 : decode b_Int_bitCount 2 = .ok (.iconst 1, 1) := by decide +kernel
theorem d_Int_bitCount_3 : decode b_Int_bitCount 3 = .ok (.iushr, 1) := by decide +kernel
theorem d_Int_bitCount_4 : decode b_Int_bitCount 4 = .ok (.ldc_w 265, 3) := by decide +kernel
theorem d_Int_bitCount_7 : decode b_Int_bitCount 7 = .ok (.iand, 1) := by decide +kernel
theorem d_Int_bitCount_8 : decode b_Int_bitCount 8 = .ok (.isub, 1) := by decide +kernel
theorem d_Int_bitCount_9 : decode b_Int_bitCount 9 = .ok (.istore_n 0, 1) := by decide +kernel
theorem d_Int_bitCount_10 : decode b_Int_bitCount 10 = .ok (.iload_n 0, 1) := by decide +kernel
theorem d_Int_bitCount_11 : decode b_Int_bitCount 11 = .ok (.ldc_w 266, 3) := by decide +kernel
theorem d_Int_bitCount_14 : decode b_Int_bitCount 14 = .ok (.iand, 1) := by decide +kernel
theorem d_Int_bitCount_15 : decode b_Int_bitCount 15 = .ok (.iload_n 0, 1) := by decide +kernel
theorem d_Int_bitCount_16 : decode b_Int_bitCount 16 = .ok (.iconst 2, 1) := by decide +kernel
theorem d_Int_bitCount_17 : decode b_Int_bitCount 17 = .ok (.iushr, 1) := by decide +kernel
theorem d_Int_bitCount_18 : decode b_Int_bitCount 18 = .ok (.ldc_w 266, 3) := by decide +kernel
theorem d_Int_bitCount_21 : decode b_Int_bitCount 21 = .ok (.iand, 1) := by decide +kernel
theorem d_Int_bitCount_22 : decode b_Int_bitCount 22 = .ok (.iadd, 1) := by decide +kernel
theorem d_Int_bitCount_23 : decode b_Int_bitCount 23 = .ok (.istore_n 0, 1) := by decide +kernel
theorem d_Int_bitCount_24 : decode b_Int_bitCount 24 = .ok (.iload_n 0, 1) := by decide +kernel
theorem d_Int_bitCount_25 : decode b_Int_bitCount 25 = .ok (.iload_n 0, 1) := by decide +kernel
theorem d_Int_bitCount_26 : decode b_Int_bitCount 26 = .ok (.iconst 4, 1) := by decide +kernel
theorem d_Int_bitCount_27 : decode b_Int_bitCount 27 = .ok (.iushr, 1) := by decide +kernel
theorem d_Int_bitCount_28 : decode b_Int_bitCount 28 = .ok (.iadd, 1) := by decide +kernel
theorem d_Int_bitCount_29 : decode b_Int_bitCount 29 = .ok (.ldc_w 267, 3) := by decide +kernel
theorem d_Int_bitCount_32 : decode b_Int_bitCount 32 = .ok (.iand, 1) := by decide +kernel
theorem d_Int_bitCount_33 : decode b_Int_bitCount 33 = .ok (.istore_n 0, 1) := by decide +kernel
theorem d_Int_bitCount_34 : decode b_Int_bitCount 34 = .ok (.iload_n 0, 1) := by decide +kernel
theorem d_Int_bitCount_35 : decode b_Int_bitCount 35 = .ok (.iload_n 0, 1) := by decide +kernel
theorem d_Int_bitCount_36 : decode b_Int_bitCount 36 = .ok (.bipush 8, 2) := by decide +kernel
theorem d_Int_bitCount_38 : decode b_Int_bitCount 38 = .ok (.iushr, 1) := by decide +kernel
theorem d_Int_bitCount_39 : decode b_Int_bitCount 39 = .ok (.iadd, 1) := by decide +kernel
theorem d_Int_bitCount_40 : decode b_Int_bitCount 40 = .ok (.istore_n 0, 1) := by decide +kernel
theorem d_Int_bitCount_41 : decode b_Int_bitCount 41 = .ok (.iload_n 0, 1) := by decide +kernel
theorem d_Int_bitCount_42 : decode b_Int_bitCount 42 = .ok (.iload_n 0, 1) := by decide +kernel
theorem d_Int_bitCount_43 : decode b_Int_bitCount 43 = .ok (.bipush 16, 2) := by decide +kernel
theorem d_Int_bitCount_45 : decode b_Int_bitCount 45 = .ok (.iushr, 1) := by decide +kernel
theorem d_Int_bitCount_46 : decode b_Int_bitCount 46 = .ok (.iadd, 1) := by decide +kernel
theorem d_Int_bitCount_47 : decode b_Int_bitCount 47 = .ok (.istore_n 0, 1) := by decide +kernel
theorem d_Int_bitCount_48 : decode b_Int_bitCount 48 = .ok (.iload_n 0, 1) := by decide +kernel
theorem d_Int_bitCount_49 : decode b_Int_bitCount 49 = .ok (.bipush 63, 2) := by decide +kernel
theorem d_Int_bitCount_51 : decode b_Int_bitCount 51 = .ok (.iand, 1) := by decide +kernel
theorem d_Int_bitCount_52 : decode b_Int_bitCount 52 = .ok (.ireturn, 1) := by decide +kernel
set_option maxRecDepth 20000 in
theorem c_Int_bitCount {l : Launch} {g : GG} (hI : WI g) (a0 : Int32) (M : Mem) (R : Int32 → Mem → Prop) (h : wp_Int_bitCount a0 M R) : Met l y_Int_bitCount (wm y_Int_bitCount b_Int_bitCount 1 (some .int)) (RM 0 0) (PP g M [.int a0]) (PQ g (RI R)) 0 0 (AW g) := by
  refine m_of (own := N_Int) (by decide) rfl (Nat.le_of_ble_eq_true rfl) ?_
  intro p e s m below meth c ls C hr hlocks hW hP hS hl
  obtain ⟨hx, hb, hml, hown, hts⟩ := id C
  have hl : lv_has ls 1 [(0, .int a0)] := hl
  unfold wp_Int_bitCount at h
  have hk := h
  refine lv_iload_n hx hb d_Int_bitCount_0 rfl (lv_at hl 0 rfl) ?_
  refine lv_iload_n hx hb d_Int_bitCount_1 rfl (lv_at hl 0 rfl) ?_
  refine lv_iconst (v := 1) hx hb d_Int_bitCount_2 (by decide) ?_
  refine lv_iushr hx hb d_Int_bitCount_3 rfl ?_
  refine lv_ldcw (v := 1431655765) hx hb hown (C.2.2.2.2 _ kc_Int_265) d_Int_bitCount_4 ?_
  refine lv_iand hx hb d_Int_bitCount_7 ?_
  refine lv_isub hx hb d_Int_bitCount_8 ?_
  refine lv_topi (fun x0_1 ex0_1 => ?_)
  have hk := hk x0_1 ex0_1
  refine lv_istore_n (lv' := [(0, .int x0_1)]) hx hb d_Int_bitCount_9 rfl hl (by decide) rfl (fun ls hl => ?_)
  refine lv_iload_n hx hb d_Int_bitCount_10 rfl (lv_at hl 0 rfl) ?_
  refine lv_ldcw (v := 858993459) hx hb hown (C.2.2.2.2 _ kc_Int_266) d_Int_bitCount_11 ?_
  refine lv_iand hx hb d_Int_bitCount_14 ?_
  refine lv_iload_n hx hb d_Int_bitCount_15 rfl (lv_at hl 0 rfl) ?_
  refine lv_iconst (v := 2) hx hb d_Int_bitCount_16 (by decide) ?_
  refine lv_iushr hx hb d_Int_bitCount_17 rfl ?_
  refine lv_ldcw (v := 858993459) hx hb hown (C.2.2.2.2 _ kc_Int_266) d_Int_bitCount_18 ?_
  refine lv_iand hx hb d_Int_bitCount_21 ?_
  refine lv_iadd hx hb d_Int_bitCount_22 ?_
  refine lv_topi (fun x0_2 ex0_2 => ?_)
  have hk := hk x0_2 ex0_2
  refine lv_istore_n (lv' := [(0, .int x0_2)]) hx hb d_Int_bitCount_23 rfl hl (by decide) rfl (fun ls hl => ?_)
  refine lv_iload_n hx hb d_Int_bitCount_24 rfl (lv_at hl 0 rfl) ?_
  refine lv_iload_n hx hb d_Int_bitCount_25 rfl (lv_at hl 0 rfl) ?_
  refine lv_iconst (v := 4) hx hb d_Int_bitCount_26 (by decide) ?_
  refine lv_iushr hx hb d_Int_bitCount_27 rfl ?_
  refine lv_iadd hx hb d_Int_bitCount_28 ?_
  refine lv_ldcw (v := 252645135) hx hb hown (C.2.2.2.2 _ kc_Int_267) d_Int_bitCount_29 ?_
  refine lv_iand hx hb d_Int_bitCount_32 ?_
  refine lv_topi (fun x0_3 ex0_3 => ?_)
  have hk := hk x0_3 ex0_3
  refine lv_istore_n (lv' := [(0, .int x0_3)]) hx hb d_Int_bitCount_33 rfl hl (by decide) rfl (fun ls hl => ?_)
  refine lv_iload_n hx hb d_Int_bitCount_34 rfl (lv_at hl 0 rfl) ?_
  refine lv_iload_n hx hb d_Int_bitCount_35 rfl (lv_at hl 0 rfl) ?_
  refine lv_bipush (v := 8) hx hb d_Int_bitCount_36 (by decide) ?_
  refine lv_iushr hx hb d_Int_bitCount_38 rfl ?_
  refine lv_iadd hx hb d_Int_bitCount_39 ?_
  refine lv_topi (fun x0_4 ex0_4 => ?_)
  have hk := hk x0_4 ex0_4
  refine lv_istore_n (lv' := [(0, .int x0_4)]) hx hb d_Int_bitCount_40 rfl hl (by decide) rfl (fun ls hl => ?_)
  refine lv_iload_n hx hb d_Int_bitCount_41 rfl (lv_at hl 0 rfl) ?_
  refine lv_iload_n hx hb d_Int_bitCount_42 rfl (lv_at hl 0 rfl) ?_
  refine lv_bipush (v := 16) hx hb d_Int_bitCount_43 (by decide) ?_
  refine lv_iushr hx hb d_Int_bitCount_45 rfl ?_
  refine lv_iadd hx hb d_Int_bitCount_46 ?_
  refine lv_topi (fun x0_5 ex0_5 => ?_)
  have hk := hk x0_5 ex0_5
  refine lv_istore_n (lv' := [(0, .int x0_5)]) hx hb d_Int_bitCount_47 rfl hl (by decide) rfl (fun ls hl => ?_)
  refine lv_iload_n hx hb d_Int_bitCount_48 rfl (lv_at hl 0 rfl) ?_
  refine lv_bipush (v := 63) hx hb d_Int_bitCount_49 (by decide) ?_
  refine lv_iand hx hb d_Int_bitCount_51 ?_
  exact r_iret C hr hlocks hP hS hk d_Int_bitCount_52
theorem d_Walk_enter_0 : decode b_Walk_enter 0 = .ok (.aload_n 0, 1) := by decide +kernel
theorem d_Walk_enter_1 : decode b_Walk_enter 1 = .ok (.getfield 9, 3) := by decide +kernel
theorem d_Walk_enter_4 : decode b_Walk_enter 4 = .ok (.iload_n 1, 1) := by decide +kernel
theorem d_Walk_enter_5 : decode b_Walk_enter 5 = .ok (.iload_n 2, 1) := by decide +kernel
theorem d_Walk_enter_6 : decode b_Walk_enter 6 = .ok (.aload_n 0, 1) := by decide +kernel
theorem d_Walk_enter_7 : decode b_Walk_enter 7 = .ok (.getfield 15, 3) := by decide +kernel
theorem d_Walk_enter_10 : decode b_Walk_enter 10 = .ok (.iload_n 1, 1) := by decide +kernel
theorem d_Walk_enter_11 : decode b_Walk_enter 11 = .ok (.iaload, 1) := by decide +kernel
theorem d_Walk_enter_12 : decode b_Walk_enter 12 = .ok (.invokevirtual 69, 3) := by decide +kernel
theorem d_Walk_enter_15 : decode b_Walk_enter 15 = .ok (.istore_n 3, 1) := by decide +kernel
theorem d_Walk_enter_16 : decode b_Walk_enter 16 = .ok (.iload_n 3, 1) := by decide +kernel
theorem d_Walk_enter_17 : decode b_Walk_enter 17 = .ok (.bipush (-9), 2) := by decide +kernel
theorem d_Walk_enter_19 : decode b_Walk_enter 19 = .ok (.if_icmp .eq 26, 3) := by decide +kernel
theorem d_Walk_enter_22 : decode b_Walk_enter 22 = .ok (.aload_n 0, 1) := by decide +kernel
theorem d_Walk_enter_23 : decode b_Walk_enter 23 = .ok (.getfield 9, 3) := by decide +kernel
theorem d_Walk_enter_26 : decode b_Walk_enter 26 = .ok (.getfield 73, 3) := by decide +kernel
theorem d_Walk_enter_29 : decode b_Walk_enter 29 = .ok (.iload_n 1, 1) := by decide +kernel
theorem d_Walk_enter_30 : decode b_Walk_enter 30 = .ok (.iaload, 1) := by decide +kernel
theorem d_Walk_enter_31 : decode b_Walk_enter 31 = .ok (.iconst 2, 1) := by decide +kernel
theorem d_Walk_enter_32 : decode b_Walk_enter 32 = .ok (.if_icmp .ne 13, 3) := by decide +kernel
theorem d_Walk_enter_35 : decode b_Walk_enter 35 = .ok (.aload_n 0, 1) := by decide +kernel
theorem d_Walk_enter_36 : decode b_Walk_enter 36 = .ok (.getfield 15, 3) := by decide +kernel
theorem d_Walk_enter_39 : decode b_Walk_enter 39 = .ok (.iload_n 1, 1) := by decide +kernel
theorem d_Walk_enter_40 : decode b_Walk_enter 40 = .ok (.dup2, 1) := by decide +kernel
theorem d_Walk_enter_41 : decode b_Walk_enter 41 = .ok (.iaload, 1) := by decide +kernel
theorem d_Walk_enter_42 : decode b_Walk_enter 42 = .ok (.iload_n 3, 1) := by decide +kernel
theorem d_Walk_enter_43 : decode b_Walk_enter 43 = .ok (.ior, 1) := by decide +kernel
theorem d_Walk_enter_44 : decode b_Walk_enter 44 = .ok (.iastore, 1) := by decide +kernel
theorem d_Walk_enter_45 : decode b_Walk_enter 45 = .ok (.iload_n 3, 1) := by decide +kernel
theorem d_Walk_enter_46 : decode b_Walk_enter 46 = .ok (.bipush (-9), 2) := by decide +kernel
theorem d_Walk_enter_48 : decode b_Walk_enter 48 = .ok (.if_icmp .eq 7, 3) := by decide +kernel
theorem d_Walk_enter_51 : decode b_Walk_enter 51 = .ok (.iconst 1, 1) := by decide +kernel
theorem d_Walk_enter_52 : decode b_Walk_enter 52 = .ok (.goto 4, 3) := by decide +kernel
theorem d_Walk_enter_55 : decode b_Walk_enter 55 = .ok (.iconst 0, 1) := by decide +kernel
theorem d_Walk_enter_56 : decode b_Walk_enter 56 = .ok (.ireturn, 1) := by decide +kernel
set_option maxRecDepth 20000 in
theorem c_Walk_enter {l : Launch} {g : GG} (hI : WI g) (a1 : Int32) (a2 : Int32) (M : Mem) (R : Int32 → Mem → Prop) (h : wp_Walk_enter a1 a2 M R) : Met l y_Walk_enter (wm y_Walk_enter b_Walk_enter 4 (some .boolean)) (RM 1 27) (PP g M [.ref (g.2.2.2 18), .int a1, .int a2]) (PQ g (RZ R)) 0 0 (AW g) := by
  refine m_of (own := N_Walk) (by decide) rfl (Nat.le_of_ble_eq_true rfl) ?_
  intro p e s m below meth c ls C hr hlocks hW hP hS hl
  obtain ⟨hx, hb, hml, hown, hts⟩ := id C
  have hl : lv_has ls 4 [(0, .ref (g.2.2.2 18)), (1, .int a1), (2, .int a2)] := hl
  unfold wp_Walk_enter at h
  have J45 : ∀ (x3 : Int32) (M : Mem), wp_Walk_enter_45  R x3 M → ∀ (H : Heap) (locs : List Loc) (ls : Array Slot), WP g M H → va_S (AW g) s.heap H locs → lv_has ls 4 [(3, .int x3)] → W p l e (RM 1 27) s m ([.ref (g.2.2.2 18), .int a1, .int a2] : List Value).toArray below meth c H locs 0 0 (MQ below (PQ g (RZ R)) ([.ref (g.2.2.2 18), .int a1, .int a2] : List Value).toArray s 0 0 (AW g)) (F0 m 45 ls []) := by
    intro x3 M hk H locs ls hP hS hl
    unfold wp_Walk_enter_45 at hk
    refine lv_iload_n hx hb d_Walk_enter_45 rfl (lv_at hl 0 rfl) ?_
    refine lv_bipush (v := -9) hx hb d_Walk_enter_46 (by decide) ?_
    refine lv_icmp_eq (tgt := 55) hx hb d_Walk_enter_48 (by decide) (fun c1 => ?_) (fun c1 => ?_)
    · have hk := hk.1 c1
      refine lv_iconst (v := 0) hx hb d_Walk_enter_55 (by decide) ?_
      exact r_zret rfl C hr hlocks hP hS hk d_Walk_enter_56
    · have hk := hk.2 c1
      refine lv_iconst (v := 1) hx hb d_Walk_enter_51 (by decide) ?_
      refine lv_goto (tgt := 56) hx hb d_Walk_enter_52 (by decide) ?_
      exact r_zret rfl C hr hlocks hP hS hk d_Walk_enter_56
  have hk := h
  refine lv_aload_n hx hb d_Walk_enter_0 rfl (lv_at hl 0 rfl) ?_
  refine gf_18_0 C hW hP fl_Walk_9 d_Walk_enter_1 ?_
  refine lv_iload_n hx hb d_Walk_enter_4 rfl (lv_at hl 1 rfl) ?_
  refine lv_iload_n hx hb d_Walk_enter_5 rfl (lv_at hl 2 rfl) ?_
  refine lv_aload_n hx hb d_Walk_enter_6 rfl (lv_at hl 0 rfl) ?_
  refine gf_18_1 C hW hP fl_Walk_15 d_Walk_enter_7 ?_
  refine lv_iload_n hx hb d_Walk_enter_10 rfl (lv_at hl 1 rfl) ?_
  obtain ⟨h2, hk⟩ := hk
  refine al_19 C hW hP h2 d_Walk_enter_11 ?_
  refine r_runI (k_V (As := [.int a1, .int a2, .int (M 19 a1.toNatClampNeg)]) (rest := []) C hW hP (c_Way_usedIn hI a1 a2 (M 19 a1.toNatClampNeg) M _ hk) cb_Way_usedIn ml_Walk_69 (io_12 g M) ⟨by decide, by decide⟩ rfl hl.1 rfl (Nat.le_of_ble_eq_true rfl) d_Walk_enter_12 ⟨by decide, by decide⟩) hS (fun r4 M3 H locs hk hP hS => ?_)
  refine lv_istore_n (lv' := [(3, .int r4), (0, .ref (g.2.2.2 18)), (1, .int a1), (2, .int a2)]) hx hb d_Walk_enter_15 rfl hl (by decide) rfl (fun ls hl => ?_)
  refine lv_iload_n hx hb d_Walk_enter_16 rfl (lv_at hl 0 rfl) ?_
  refine lv_bipush (v := -9) hx hb d_Walk_enter_17 (by decide) ?_
  refine lv_icmp_eq (tgt := 45) hx hb d_Walk_enter_19 (by decide) (fun c5 => ?_) (fun c5 => ?_)
  · have hk := hk.1 c5
    exact J45 r4 M3 hk _ _ _ hP hS (lv_sub hl [0] rfl)
  · have hk := hk.2 c5
    refine lv_aload_n hx hb d_Walk_enter_22 rfl (lv_at hl 1 rfl) ?_
    refine gf_18_0 C hW hP fl_Walk_9 d_Walk_enter_23 ?_
    refine gf_12_0 C hW hP fl_Walk_73 d_Walk_enter_26 ?_
    refine lv_iload_n hx hb d_Walk_enter_29 rfl (lv_at hl 2 rfl) ?_
    obtain ⟨h6, hk⟩ := hk
    refine al_13 C hW hP h6 d_Walk_enter_30 ?_
    refine lv_iconst (v := 2) hx hb d_Walk_enter_31 (by decide) ?_
    refine lv_icmp_ne (tgt := 45) hx hb d_Walk_enter_32 (by decide) (fun c7 => ?_) (fun c7 => ?_)
    · have hk := hk.1 c7
      exact J45 r4 M3 hk _ _ _ hP hS (lv_sub hl [0] rfl)
    · have hk := hk.2 c7
      refine lv_aload_n hx hb d_Walk_enter_35 rfl (lv_at hl 1 rfl) ?_
      refine gf_18_1 C hW hP fl_Walk_15 d_Walk_enter_36 ?_
      refine lv_iload_n hx hb d_Walk_enter_39 rfl (lv_at hl 2 rfl) ?_
      refine lv_dup2_11 hx hb d_Walk_enter_40 rfl rfl ?_
      obtain ⟨h8, hk⟩ := hk
      refine al_19 C hW hP h8 d_Walk_enter_41 ?_
      refine lv_iload_n hx hb d_Walk_enter_42 rfl (lv_at hl 0 rfl) ?_
      refine lv_ior hx hb d_Walk_enter_43 ?_
      obtain ⟨h9, hk⟩ := hk
      refine as_19 hI C hW hP hS h9 d_Walk_enter_44 (fun M10 eM10 H locs hP hS => ?_)
      have hk := hk M10 eM10
      exact J45 r4 M10 hk _ _ _ hP hS (lv_sub hl [0] rfl)
