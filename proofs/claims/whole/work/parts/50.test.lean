theorem d_Main_isBelow_0 : decode b_Main_isBelow 0 = .ok (.iload_n 0, 1) := by decide +kernel
theorem d_Main_isBelow_1 : decode b_Main_isBelow 1 = .ok (.ifCond .lt 12, 3) := by decide +kernel
theorem d_Main_isBelow_4 : decode b_Main_isBelow 4 = .ok (.iload_n 0, 1) := by decide +kernel
theorem d_Main_isBelow_5 : decode b_Main_isBelow 5 = .ok (.iload_n 1, 1) := by decide +kernel
theorem d_Main_isBelow_6 : decode b_Main_isBelow 6 = .ok (.if_icmp .ge 7, 3) := by decide +kernel
theorem d_Main_isBelow_9 : decode b_Main_isBelow 9 = .ok (.iconst 1, 1) := by decide +kernel
theorem d_Main_isBelow_10 : decode b_Main_isBelow 10 = .ok (.goto 4, 3) := by decide +kernel
theorem d_Main_isBelow_13 : decode b_Main_isBelow 13 = .ok (.iconst 0, 1) := by decide +kernel
theorem d_Main_isBelow_14 : decode b_Main_isBelow 14 = .ok (.ireturn, 1) := by decide +kernel
set_option maxRecDepth 20000 in
theorem c_Main_isBelow {l : Launch} {g : GG} (hI : WI g) (a0 : Int32) (a1 : Int32) (M : Mem) (R : Int32 → Mem → Prop) (h : wp_Main_isBelow a0 a1 M R) : Met l y_Main_isBelow (wm y_Main_isBelow b_Main_isBelow 2 (some .boolean)) (RM 0 0) (PP g M [.int a0, .int a1]) (PQ g (RZ R)) 0 0 (AW g) := by
  refine m_of (own := N_Main) (by decide) rfl (by decide) ?_
  intro p e s m below meth c ls C hr hlocks hW hP hS hl
  obtain ⟨hx, hb, hml, hown, hts⟩ := id C
  have hl : lv_has ls 2 [(0, .int a0), (1, .int a1)] := hl
  unfold wp_Main_isBelow at h
  have hk := h
  refine lv_iload_n hx hb d_Main_isBelow_0 rfl (lv_at hl 0 rfl) ?_
  refine lv_if_lt (tgt := 13) hx hb d_Main_isBelow_1 (by decide) (fun c1 => ?_) (fun c1 => ?_)
  · have hk := hk.1 c1
    refine lv_iconst (v := 0) hx hb d_Main_isBelow_13 (by decide) ?_
    exact r_zret rfl C hr hlocks hP hS hk d_Main_isBelow_14
  · have hk := hk.2 c1
    refine lv_iload_n hx hb d_Main_isBelow_4 rfl (lv_at hl 0 rfl) ?_
    refine lv_iload_n hx hb d_Main_isBelow_5 rfl (lv_at hl 1 rfl) ?_
    refine lv_icmp_ge (tgt := 13) hx hb d_Main_isBelow_6 (by decide) (fun c2 => ?_) (fun c2 => ?_)
    · have hk := hk.1 c2
      refine lv_iconst (v := 0) hx hb d_Main_isBelow_13 (by decide) ?_
      exact r_zret rfl C hr hlocks hP hS hk d_Main_isBelow_14
    · have hk := hk.2 c2
      refine lv_iconst (v := 1) hx hb d_Main_isBelow_9 (by decide) ?_
      refine lv_goto (tgt := 14) hx hb d_Main_isBelow_10 (by decide) ?_
      exact r_zret rfl C hr hlocks hP hS hk d_Main_isBelow_14
theorem d_Sheet_holds_0 : decode b_Sheet_holds 0 = .ok (.iload_n 1, 1) := by decide +kernel
theorem d_Sheet_holds_1 : decode b_Sheet_holds 1 = .ok (.ifCond .lt 29, 3) := by decide +kernel
theorem d_Sheet_holds_4 : decode b_Sheet_holds 4 = .ok (.iload_n 1, 1) := by decide +kernel
theorem d_Sheet_holds_5 : decode b_Sheet_holds 5 = .ok (.aload_n 0, 1) := by decide +kernel
theorem d_Sheet_holds_6 : decode b_Sheet_holds 6 = .ok (.getfield 23, 3) := by decide +kernel
theorem d_Sheet_holds_9 : decode b_Sheet_holds 9 = .ok (.if_icmp .gt 21, 3) := by decide +kernel
theorem d_Sheet_holds_12 : decode b_Sheet_holds 12 = .ok (.iload_n 2, 1) := by decide +kernel
theorem d_Sheet_holds_13 : decode b_Sheet_holds 13 = .ok (.ifCond .lt 17, 3) := by decide +kernel
theorem d_Sheet_holds_16 : decode b_Sheet_holds 16 = .ok (.iload_n 2, 1) := by decide +kernel
theorem d_Sheet_holds_17 : decode b_Sheet_holds 17 = .ok (.aload_n 0, 1) := by decide +kernel
theorem d_Sheet_holds_18 : decode b_Sheet_holds 18 = .ok (.getfield 23, 3) := by decide +kernel
theorem d_Sheet_holds_21 : decode b_Sheet_holds 21 = .ok (.iload_n 1, 1) := by decide +kernel
theorem d_Sheet_holds_22 : decode b_Sheet_holds 22 = .ok (.isub, 1) := by decide +kernel
theorem d_Sheet_holds_23 : decode b_Sheet_holds 23 = .ok (.if_icmp .gt 7, 3) := by decide +kernel
theorem d_Sheet_holds_26 : decode b_Sheet_holds 26 = .ok (.iconst 1, 1) := by decide +kernel
theorem d_Sheet_holds_27 : decode b_Sheet_holds 27 = .ok (.goto 4, 3) := by decide +kernel
theorem d_Sheet_holds_30 : decode b_Sheet_holds 30 = .ok (.iconst 0, 1) := by decide +kernel
theorem d_Sheet_holds_31 : decode b_Sheet_holds 31 = .ok (.ireturn, 1) := by decide +kernel
set_option maxRecDepth 20000 in
theorem c_Sheet_holds {l : Launch} {g : GG} {q0 : Nat} (hq0 : q0 < 4) (hI : WI g) (a1 : Int32) (a2 : Int32) (M : Mem) (R : Int32 → Mem → Prop) (h : wp_Sheet_holds q0 a1 a2 M R) : Met l y_Sheet_holds (wm y_Sheet_holds b_Sheet_holds 3 (some .boolean)) (RM 0 0) (PP g M [.ref (g.2.2.2 (2 + q0)), .int a1, .int a2]) (PQ g (RZ R)) 0 0 (AW g) := by
  refine m_of (own := N_Sheet) (by decide) rfl (by decide) ?_
  intro p e s m below meth c ls C hr hlocks hW hP hS hl
  obtain ⟨hx, hb, hml, hown, hts⟩ := id C
  have hl : lv_has ls 3 [(0, .ref (g.2.2.2 (2 + q0))), (1, .int a1), (2, .int a2)] := hl
  unfold wp_Sheet_holds at h
  have hk := h
  refine lv_iload_n hx hb d_Sheet_holds_0 rfl (lv_at hl 1 rfl) ?_
  refine lv_if_lt (tgt := 30) hx hb d_Sheet_holds_1 (by decide) (fun c1 => ?_) (fun c1 => ?_)
  · have hk := hk.1 c1
    refine lv_iconst (v := 0) hx hb d_Sheet_holds_30 (by decide) ?_
    exact r_zret rfl C hr hlocks hP hS hk d_Sheet_holds_31
  · have hk := hk.2 c1
    refine lv_iload_n hx hb d_Sheet_holds_4 rfl (lv_at hl 1 rfl) ?_
    refine lv_aload_n hx hb d_Sheet_holds_5 rfl (lv_at hl 0 rfl) ?_
    refine gf_sh_3 hq0 C hW hP fl_Sheet_23 d_Sheet_holds_6 ?_
    refine lv_icmp_gt (tgt := 30) hx hb d_Sheet_holds_9 (by decide) (fun c2 => ?_) (fun c2 => ?_)
    · have hk := hk.1 c2
      refine lv_iconst (v := 0) hx hb d_Sheet_holds_30 (by decide) ?_
      exact r_zret rfl C hr hlocks hP hS hk d_Sheet_holds_31
    · have hk := hk.2 c2
      refine lv_iload_n hx hb d_Sheet_holds_12 rfl (lv_at hl 2 rfl) ?_
      refine lv_if_lt (tgt := 30) hx hb d_Sheet_holds_13 (by decide) (fun c3 => ?_) (fun c3 => ?_)
      · have hk := hk.1 c3
        refine lv_iconst (v := 0) hx hb d_Sheet_holds_30 (by decide) ?_
        exact r_zret rfl C hr hlocks hP hS hk d_Sheet_holds_31
      · have hk := hk.2 c3
        refine lv_iload_n hx hb d_Sheet_holds_16 rfl (lv_at hl 2 rfl) ?_
        refine lv_aload_n hx hb d_Sheet_holds_17 rfl (lv_at hl 0 rfl) ?_
        refine gf_sh_3 hq0 C hW hP fl_Sheet_23 d_Sheet_holds_18 ?_
        refine lv_iload_n hx hb d_Sheet_holds_21 rfl (lv_at hl 1 rfl) ?_
        refine lv_isub hx hb d_Sheet_holds_22 ?_
        refine lv_icmp_gt (tgt := 30) hx hb d_Sheet_holds_23 (by decide) (fun c4 => ?_) (fun c4 => ?_)
        · have hk := hk.1 c4
          refine lv_iconst (v := 0) hx hb d_Sheet_holds_30 (by decide) ?_
          exact r_zret rfl C hr hlocks hP hS hk d_Sheet_holds_31
        · have hk := hk.2 c4
          refine lv_iconst (v := 1) hx hb d_Sheet_holds_26 (by decide) ?_
          refine lv_goto (tgt := 31) hx hb d_Sheet_holds_27 (by decide) ?_
          exact r_zret rfl C hr hlocks hP hS hk d_Sheet_holds_31
theorem d_Sheet_faultOfTaking_0 : decode b_Sheet_faultOfTaking 0 = .ok (.aload_n 0, 1) := by decide +kernel
theorem d_Sheet_faultOfTaking_1 : decode b_Sheet_faultOfTaking 1 = .ok (.getfield 15, 3) := by decide +kernel
theorem d_Sheet_faultOfTaking_4 : decode b_Sheet_faultOfTaking 4 = .ok (.ifCond .ne 5, 3) := by decide +kernel
theorem d_Sheet_faultOfTaking_7 : decode b_Sheet_faultOfTaking 7 = .ok (.iconst 1, 1) := by decide +kernel
theorem d_Sheet_faultOfTaking_8 : decode b_Sheet_faultOfTaking 8 = .ok (.ireturn, 1) := by decide +kernel
theorem d_Sheet_faultOfTaking_9 : decode b_Sheet_faultOfTaking 9 = .ok (.aload_n 0, 1) := by decide +kernel
theorem d_Sheet_faultOfTaking_10 : decode b_Sheet_faultOfTaking 10 = .ok (.getfield 19, 3) := by decide +kernel
theorem d_Sheet_faultOfTaking_13 : decode b_Sheet_faultOfTaking 13 = .ok (.iload_n 1, 1) := by decide +kernel
theorem d_Sheet_faultOfTaking_14 : decode b_Sheet_faultOfTaking 14 = .ok (.if_icmp .eq 5, 3) := by decide +kernel
theorem d_Sheet_faultOfTaking_17 : decode b_Sheet_faultOfTaking 17 = .ok (.iconst 2, 1) := by decide +kernel
theorem d_Sheet_faultOfTaking_18 : decode b_Sheet_faultOfTaking 18 = .ok (.ireturn, 1) := by decide +kernel
theorem d_Sheet_faultOfTaking_19 : decode b_Sheet_faultOfTaking 19 = .ok (.iload_n 3, 1) := by decide +kernel
theorem d_Sheet_faultOfTaking_20 : decode b_Sheet_faultOfTaking 20 = .ok (.ifCond .ge 5, 3) := by decide +kernel
theorem d_Sheet_faultOfTaking_23 : decode b_Sheet_faultOfTaking 23 = .ok (.iconst 4, 1) := by decide +kernel
theorem d_Sheet_faultOfTaking_24 : decode b_Sheet_faultOfTaking 24 = .ok (.ireturn, 1) := by decide +kernel
theorem d_Sheet_faultOfTaking_25 : decode b_Sheet_faultOfTaking 25 = .ok (.aload_n 0, 1) := by decide +kernel
theorem d_Sheet_faultOfTaking_26 : decode b_Sheet_faultOfTaking 26 = .ok (.iload_n 2, 1) := by decide +kernel
theorem d_Sheet_faultOfTaking_27 : decode b_Sheet_faultOfTaking 27 = .ok (.iload_n 3, 1) := by decide +kernel
theorem d_Sheet_faultOfTaking_28 : decode b_Sheet_faultOfTaking 28 = .ok (.invokevirtual 32, 3) := by decide +kernel
theorem d_Sheet_faultOfTaking_31 : decode b_Sheet_faultOfTaking 31 = .ok (.ifCond .eq 7, 3) := by decide +kernel
theorem d_Sheet_faultOfTaking_34 : decode b_Sheet_faultOfTaking 34 = .ok (.iconst 0, 1) := by decide +kernel
theorem d_Sheet_faultOfTaking_35 : decode b_Sheet_faultOfTaking 35 = .ok (.goto 4, 3) := by decide +kernel
theorem d_Sheet_faultOfTaking_38 : decode b_Sheet_faultOfTaking 38 = .ok (.iconst 3, 1) := by decide +kernel
theorem d_Sheet_faultOfTaking_39 : decode b_Sheet_faultOfTaking 39 = .ok (.ireturn, 1) := by decide +kernel
set_option maxRecDepth 20000 in
theorem c_Sheet_faultOfTaking {l : Launch} {g : GG} {q0 : Nat} (hq0 : q0 < 4) (hI : WI g) (a1 : Int32) (a2 : Int32) (a3 : Int32) (M : Mem) (R : Int32 → Mem → Prop) (h : wp_Sheet_faultOfTaking q0 a1 a2 a3 M R) : Met l y_Sheet_faultOfTaking (wm y_Sheet_faultOfTaking b_Sheet_faultOfTaking 4 (some .int)) (RM 1 22) (PP g M [.ref (g.2.2.2 (2 + q0)), .int a1, .int a2, .int a3]) (PQ g (RI R)) 0 0 (AW g) := by
  refine m_of (own := N_Sheet) (by decide) rfl (by decide) ?_
  intro p e s m below meth c ls C hr hlocks hW hP hS hl
  obtain ⟨hx, hb, hml, hown, hts⟩ := id C
  have hl : lv_has ls 4 [(0, .ref (g.2.2.2 (2 + q0))), (1, .int a1), (2, .int a2), (3, .int a3)] := hl
  unfold wp_Sheet_faultOfTaking at h
  have hk := h
  refine lv_aload_n hx hb d_Sheet_faultOfTaking_0 rfl (lv_at hl 0 rfl) ?_
  refine gf_sh_1 hq0 C hW hP fl_Sheet_15 d_Sheet_faultOfTaking_1 ?_
  refine lv_if_ne (tgt := 9) hx hb d_Sheet_faultOfTaking_4 (by decide) (fun c1 => ?_) (fun c1 => ?_)
  · have hk := hk.1 c1
    refine lv_aload_n hx hb d_Sheet_faultOfTaking_9 rfl (lv_at hl 0 rfl) ?_
    refine gf_sh_2 hq0 C hW hP fl_Sheet_19 d_Sheet_faultOfTaking_10 ?_
    refine lv_iload_n hx hb d_Sheet_faultOfTaking_13 rfl (lv_at hl 1 rfl) ?_
    refine lv_icmp_eq (tgt := 19) hx hb d_Sheet_faultOfTaking_14 (by decide) (fun c2 => ?_) (fun c2 => ?_)
    · have hk := hk.1 c2
      refine lv_iload_n hx hb d_Sheet_faultOfTaking_19 rfl (lv_at hl 3 rfl) ?_
      refine lv_if_ge (tgt := 25) hx hb d_Sheet_faultOfTaking_20 (by decide) (fun c3 => ?_) (fun c3 => ?_)
      · have hk := hk.1 c3
        refine lv_aload_n hx hb d_Sheet_faultOfTaking_25 rfl (lv_at hl 0 rfl) ?_
        refine lv_iload_n hx hb d_Sheet_faultOfTaking_26 rfl (lv_at hl 2 rfl) ?_
        refine lv_iload_n hx hb d_Sheet_faultOfTaking_27 rfl (lv_at hl 3 rfl) ?_
        refine r_runZ (k_V (As := [.int a2, .int a3]) (rest := []) C hW hP (c_Sheet_holds hq0 hI q0 a2 a3 M _ hk) cb_Sheet_holds ml_Sheet_32 (io_sh q0 hq0 M) ⟨by decide, by decide⟩ rfl hl.1 rfl (by decide) d_Sheet_faultOfTaking_28 ⟨by decide, by decide⟩) hS (fun r5 M4 H locs zr5 hk hP hS => ?_)
        refine lv_if_eq (tgt := 38) hx hb d_Sheet_faultOfTaking_31 (by decide) (fun c6 => ?_) (fun c6 => ?_)
        · have hk := hk.1 c6
          refine lv_iconst (v := 3) hx hb d_Sheet_faultOfTaking_38 (by decide) ?_
          exact r_iret C hr hlocks hP hS hk d_Sheet_faultOfTaking_39
        · have hk := hk.2 c6
          refine lv_iconst (v := 0) hx hb d_Sheet_faultOfTaking_34 (by decide) ?_
          refine lv_goto (tgt := 39) hx hb d_Sheet_faultOfTaking_35 (by decide) ?_
          exact r_iret C hr hlocks hP hS hk d_Sheet_faultOfTaking_39
      · have hk := hk.2 c3
        refine lv_iconst (v := 4) hx hb d_Sheet_faultOfTaking_23 (by decide) ?_
        exact r_iret C hr hlocks hP hS hk d_Sheet_faultOfTaking_24
    · have hk := hk.2 c2
      refine lv_iconst (v := 2) hx hb d_Sheet_faultOfTaking_17 (by decide) ?_
      exact r_iret C hr hlocks hP hS hk d_Sheet_faultOfTaking_18
  · have hk := hk.2 c1
    refine lv_iconst (v := 1) hx hb d_Sheet_faultOfTaking_7 (by decide) ?_
    exact r_iret C hr hlocks hP hS hk d_Sheet_faultOfTaking_8
