theorem d_Main_had_0 : decode b_Main_had 0 = .ok (.aload_n 0, 1) := by decide +kernel
theorem d_Main_had_1 : decode b_Main_had 1 = .ok (.getfield 28, 3) := by decide +kernel
theorem d_Main_had_4 : decode b_Main_had 4 = .ok (.iload_n 1, 1) := by decide +kernel
theorem d_Main_had_5 : decode b_Main_had 5 = .ok (.invokevirtual 122, 3) := by decide +kernel
theorem d_Main_had_8 : decode b_Main_had 8 = .ok (.ifCond .ne 5, 3) := by decide +kernel
theorem d_Main_had_11 : decode b_Main_had 11 = .ok (.iconst (-1), 1) := by decide +kernel
theorem d_Main_had_12 : decode b_Main_had 12 = .ok (.ireturn, 1) := by decide +kernel
theorem d_Main_had_13 : decode b_Main_had 13 = .ok (.iload_n 2, 1) := by decide +kernel
theorem d_Main_had_14 : decode b_Main_had 14 = .ok (.iconst 2, 1) := by decide +kernel
theorem d_Main_had_15 : decode b_Main_had 15 = .ok (.invokestatic 75, 3) := by decide +kernel
theorem d_Main_had_18 : decode b_Main_had 18 = .ok (.ifCond .ne 6, 3) := by decide +kernel
theorem d_Main_had_21 : decode b_Main_had 21 = .ok (.bipush (-2), 2) := by decide +kernel
theorem d_Main_had_23 : decode b_Main_had 23 = .ok (.ireturn, 1) := by decide +kernel
theorem d_Main_had_24 : decode b_Main_had 24 = .ok (.aload_n 0, 1) := by decide +kernel
theorem d_Main_had_25 : decode b_Main_had 25 = .ok (.getfield 60, 3) := by decide +kernel
theorem d_Main_had_28 : decode b_Main_had 28 = .ok (.iload_n 1, 1) := by decide +kernel
theorem d_Main_had_29 : decode b_Main_had 29 = .ok (.invokevirtual 205, 3) := by decide +kernel
theorem d_Main_had_32 : decode b_Main_had 32 = .ok (.iload_n 2, 1) := by decide +kernel
theorem d_Main_had_33 : decode b_Main_had 33 = .ok (.ifCond .ne 13, 3) := by decide +kernel
theorem d_Main_had_36 : decode b_Main_had 36 = .ok (.aload_n 0, 1) := by decide +kernel
theorem d_Main_had_37 : decode b_Main_had 37 = .ok (.getfield 60, 3) := by decide +kernel
theorem d_Main_had_40 : decode b_Main_had 40 = .ok (.getfield 208, 3) := by decide +kernel
theorem d_Main_had_43 : decode b_Main_had 43 = .ok (.goto 10, 3) := by decide +kernel
theorem d_Main_had_46 : decode b_Main_had 46 = .ok (.aload_n 0, 1) := by decide +kernel
theorem d_Main_had_47 : decode b_Main_had 47 = .ok (.getfield 60, 3) := by decide +kernel
theorem d_Main_had_50 : decode b_Main_had 50 = .ok (.getfield 211, 3) := by decide +kernel
theorem d_Main_had_53 : decode b_Main_had 53 = .ok (.ireturn, 1) := by decide +kernel
set_option maxRecDepth 20000 in
theorem c_Main_had {l : Launch} {g : GG} (hI : WI g) (a1 : Int32) (a2 : Int32) (M : Mem) (R : Int32 → Mem → Prop) (h : wp_Main_had a1 a2 M R) : Met l y_Main_had (wm y_Main_had b_Main_had 3 (some .int)) (RM 6 138) (PP g M [.ref (g.2.2.2 0), .int a1, .int a2]) (PQ g (RI R)) 0 0 (AW g) := by
  refine m_of (own := N_Main) (by decide) rfl (Nat.le_of_ble_eq_true rfl) ?_
  intro p e s m below meth c ls C hr hlocks hW hP hS hl
  obtain ⟨hx, hb, hml, hown, hts⟩ := id C
  have hl : lv_has ls 3 [(0, .ref (g.2.2.2 0)), (1, .int a1), (2, .int a2)] := hl
  unfold wp_Main_had at h
  have hk := h
  refine lv_aload_n hx hb d_Main_had_0 rfl (lv_at hl 0 rfl) ?_
  refine gf_0_2 C hW hP fl_Main_28 d_Main_had_1 ?_
  refine lv_iload_n hx hb d_Main_had_4 rfl (lv_at hl 1 rfl) ?_
  refine r_runZ (k_V (As := [.int a1]) (rest := []) C hW hP (c_Way_hasGuest hI a1 M _ hk) cb_Way_hasGuest ml_Main_122 (io_12 g M) ⟨by decide, by decide⟩ rfl hl.1 rfl (Nat.le_of_ble_eq_true rfl) d_Main_had_5 ⟨by decide, by decide⟩) hS (fun r2 M1 H locs zr2 hk hP hS => ?_)
  refine lv_if_ne (tgt := 13) hx hb d_Main_had_8 (by decide) (fun c3 => ?_) (fun c3 => ?_)
  · have hk := hk.1 c3
    refine lv_iload_n hx hb d_Main_had_13 rfl (lv_at hl 2 rfl) ?_
    refine lv_iconst (v := 2) hx hb d_Main_had_14 (by decide) ?_
    refine r_runZ (k_S (As := [.int a2, .int (2 : Int32)]) (rest := []) C hW hP (c_Main_isBelow hI a2 (2 : Int32) M1 _ hk) cb_Main_isBelow ml_Main_75 ⟨by decide, by decide⟩ rfl hl.1 rfl (Nat.le_of_ble_eq_true rfl) d_Main_had_15 ⟨by decide, by decide⟩) hS (fun r5 M4 H locs zr5 hk hP hS => ?_)
    refine lv_if_ne (tgt := 24) hx hb d_Main_had_18 (by decide) (fun c6 => ?_) (fun c6 => ?_)
    · have hk := hk.1 c6
      refine lv_aload_n hx hb d_Main_had_24 rfl (lv_at hl 0 rfl) ?_
      refine gf_0_6 C hW hP fl_Main_60 d_Main_had_25 ?_
      refine lv_iload_n hx hb d_Main_had_28 rfl (lv_at hl 1 rfl) ?_
      refine r_runV (k_V (As := [.int a1]) (rest := []) C hW hP (c_Readings_findHad hI a1 M4 _ hk) cb_Readings_findHad ml_Main_205 (io_26 g M4) ⟨by decide, by decide⟩ rfl hl.1 rfl (Nat.le_of_ble_eq_true rfl) d_Main_had_29 ⟨by decide, by decide⟩) hS (fun M7 H locs hk hP hS => ?_)
      refine lv_iload_n hx hb d_Main_had_32 rfl (lv_at hl 2 rfl) ?_
      refine lv_if_ne (tgt := 46) hx hb d_Main_had_33 (by decide) (fun c8 => ?_) (fun c8 => ?_)
      · have hk := hk.1 c8
        refine lv_aload_n hx hb d_Main_had_46 rfl (lv_at hl 0 rfl) ?_
        refine gf_0_6 C hW hP fl_Main_60 d_Main_had_47 ?_
        refine gf_26_6 C hW hP fl_Main_211 d_Main_had_50 ?_
        exact r_iret C hr hlocks hP hS hk d_Main_had_53
      · have hk := hk.2 c8
        refine lv_aload_n hx hb d_Main_had_36 rfl (lv_at hl 0 rfl) ?_
        refine gf_0_6 C hW hP fl_Main_60 d_Main_had_37 ?_
        refine gf_26_5 C hW hP fl_Main_208 d_Main_had_40 ?_
        refine lv_goto (tgt := 53) hx hb d_Main_had_43 (by decide) ?_
        exact r_iret C hr hlocks hP hS hk d_Main_had_53
    · have hk := hk.2 c6
      refine lv_bipush (v := -2) hx hb d_Main_had_21 (by decide) ?_
      exact r_iret C hr hlocks hP hS hk d_Main_had_23
  · have hk := hk.2 c3
    refine lv_iconst (v := -1) hx hb d_Main_had_11 (by decide) ?_
    exact r_iret C hr hlocks hP hS hk d_Main_had_12
theorem d_Readings_kindsOf_0 : decode b_Readings_kindsOf 0 = .ok (.aload_n 0, 1) := by decide +kernel
theorem d_Readings_kindsOf_1 : decode b_Readings_kindsOf 1 = .ok (.getfield 9, 3) := by decide +kernel
theorem d_Readings_kindsOf_4 : decode b_Readings_kindsOf 4 = .ok (.getfield 51, 3) := by decide +kernel
theorem d_Readings_kindsOf_7 : decode b_Readings_kindsOf 7 = .ok (.iload_n 1, 1) := by decide +kernel
theorem d_Readings_kindsOf_8 : decode b_Readings_kindsOf 8 = .ok (.iaload, 1) := by decide +kernel
theorem d_Readings_kindsOf_9 : decode b_Readings_kindsOf 9 = .ok (.istore_n 2, 1) := by decide +kernel
theorem d_Readings_kindsOf_10 : decode b_Readings_kindsOf 10 = .ok (.iconst 0, 1) := by decide +kernel
theorem d_Readings_kindsOf_11 : decode b_Readings_kindsOf 11 = .ok (.istore_n 3, 1) := by decide +kernel
theorem d_Readings_kindsOf_12 : decode b_Readings_kindsOf 12 = .ok (.iconst 0, 1) := by decide +kernel
theorem d_Readings_kindsOf_13 : decode b_Readings_kindsOf 13 = .ok (.istore 4, 2) := by decide +kernel
theorem d_Readings_kindsOf_15 : decode b_Readings_kindsOf 15 = .ok (.iload 4, 2) := by decide +kernel
theorem d_Readings_kindsOf_17 : decode b_Readings_kindsOf 17 = .ok (.iconst 3, 1) := by decide +kernel
theorem d_Readings_kindsOf_18 : decode b_Readings_kindsOf 18 = .ok (.if_icmp .ge 46, 3) := by decide +kernel
theorem d_Readings_kindsOf_21 : decode b_Readings_kindsOf 21 = .ok (.aload_n 0, 1) := by decide +kernel
theorem d_Readings_kindsOf_22 : decode b_Readings_kindsOf 22 = .ok (.getfield 9, 3) := by decide +kernel
theorem d_Readings_kindsOf_25 : decode b_Readings_kindsOf 25 = .ok (.getfield 51, 3) := by decide +kernel
theorem d_Readings_kindsOf_28 : decode b_Readings_kindsOf 28 = .ok (.iload_n 1, 1) := by decide +kernel
theorem d_Readings_kindsOf_29 : decode b_Readings_kindsOf 29 = .ok (.iload 4, 2) := by decide +kernel
theorem d_Readings_kindsOf_31 : decode b_Readings_kindsOf 31 = .ok (.iastore, 1) := by decide +kernel
theorem d_Readings_kindsOf_32 : decode b_Readings_kindsOf 32 = .ok (.aload_n 0, 1) := by decide +kernel
theorem d_Readings_kindsOf_33 : decode b_Readings_kindsOf 33 = .ok (.getfield 15, 3) := by decide +kernel
theorem d_Readings_kindsOf_36 : decode b_Readings_kindsOf 36 = .ok (.invokevirtual 41, 3) := by decide +kernel
theorem d_Readings_kindsOf_39 : decode b_Readings_kindsOf 39 = .ok (.pop, 1) := by decide +kernel
theorem d_Readings_kindsOf_40 : decode b_Readings_kindsOf 40 = .ok (.iload_n 3, 1) := by decide +kernel
theorem d_Readings_kindsOf_41 : decode b_Readings_kindsOf 41 = .ok (.aload_n 0, 1) := by decide +kernel
theorem d_Readings_kindsOf_42 : decode b_Readings_kindsOf 42 = .ok (.invokevirtual 47, 3) := by decide +kernel
theorem d_Readings_kindsOf_45 : decode b_Readings_kindsOf 45 = .ok (.ifCond .eq 10, 3) := by decide +kernel
theorem d_Readings_kindsOf_48 : decode b_Readings_kindsOf 48 = .ok (.iconst 1, 1) := by decide +kernel
theorem d_Readings_kindsOf_49 : decode b_Readings_kindsOf 49 = .ok (.iload 4, 2) := by decide +kernel
theorem d_Readings_kindsOf_51 : decode b_Readings_kindsOf 51 = .ok (.ishl, 1) := by decide +kernel
theorem d_Readings_kindsOf_52 : decode b_Readings_kindsOf 52 = .ok (.goto 4, 3) := by decide +kernel
theorem d_Readings_kindsOf_55 : decode b_Readings_kindsOf 55 = .ok (.iconst 0, 1) := by decide +kernel
theorem d_Readings_kindsOf_56 : decode b_Readings_kindsOf 56 = .ok (.ior, 1) := by decide +kernel
theorem d_Readings_kindsOf_57 : decode b_Readings_kindsOf 57 = .ok (.istore_n 3, 1) := by decide +kernel
theorem d_Readings_kindsOf_58 : decode b_Readings_kindsOf 58 = .ok (.iinc 4 1, 3) := by decide +kernel
theorem d_Readings_kindsOf_61 : decode b_Readings_kindsOf 61 = .ok (.goto (-46), 3) := by decide +kernel
theorem d_Readings_kindsOf_64 : decode b_Readings_kindsOf 64 = .ok (.aload_n 0, 1) := by decide +kernel
theorem d_Readings_kindsOf_65 : decode b_Readings_kindsOf 65 = .ok (.getfield 9, 3) := by decide +kernel
theorem d_Readings_kindsOf_68 : decode b_Readings_kindsOf 68 = .ok (.getfield 51, 3) := by decide +kernel
theorem d_Readings_kindsOf_71 : decode b_Readings_kindsOf 71 = .ok (.iload_n 1, 1) := by decide +kernel
theorem d_Readings_kindsOf_72 : decode b_Readings_kindsOf 72 = .ok (.iload_n 2, 1) := by decide +kernel
theorem d_Readings_kindsOf_73 : decode b_Readings_kindsOf 73 = .ok (.iastore, 1) := by decide +kernel
theorem d_Readings_kindsOf_74 : decode b_Readings_kindsOf 74 = .ok (.iload_n 3, 1) := by decide +kernel
theorem d_Readings_kindsOf_75 : decode b_Readings_kindsOf 75 = .ok (.ireturn, 1) := by decide +kernel
set_option maxRecDepth 20000 in
theorem c_Readings_kindsOf {l : Launch} {g : GG} (hI : WI g) (a1 : Int32) (M : Mem) (R : Int32 → Mem → Prop) (h : wp_Readings_kindsOf a1 M R) : Met l y_Readings_kindsOf (wm y_Readings_kindsOf b_Readings_kindsOf 5 (some .int)) (RM 5 115) (PP g M [.ref (g.2.2.2 26), .int a1]) (PQ g (RI R)) 0 0 (AW g) := by
  refine m_of (own := N_Readings) (by decide) rfl (Nat.le_of_ble_eq_true rfl) ?_
  intro p e s m below meth c ls C hr hlocks hW hP hS hl
  obtain ⟨hx, hb, hml, hown, hts⟩ := id C
  have hl : lv_has ls 5 [(0, .ref (g.2.2.2 26)), (1, .int a1)] := hl
  unfold wp_Readings_kindsOf at h
  obtain ⟨X15, eX15⟩ : ∃ X : Int32 → Int32 → Int32 → Int32 → Mem → Prop, ∀ (x1 : Int32) (x2 : Int32) (x3 : Int32) (x4 : Int32) (M : Mem), X x1 x2 x3 x4 M ↔ (∀ (H : Heap) (locs : List Loc) (ls : Array Slot), WP g M H → va_S (AW g) s.heap H locs → lv_has ls 5 [(0, .ref (g.2.2.2 26)), (1, .int x1), (2, .int x2), (3, .int x3), (4, .int x4)] → W p l e (RM 5 115) s m ([.ref (g.2.2.2 26), .int a1] : List Value).toArray below meth c H locs 0 0 (MQ below (PQ g (RI R)) ([.ref (g.2.2.2 26), .int a1] : List Value).toArray s 0 0 (AW g)) (F0 m 15 ls [])) := ⟨fun x1 x2 x3 x4 M => _, fun _ _ _ _ _ => Iff.rfl⟩
  have J56 : ∀ (x1 : Int32) (x2 : Int32) (x4 : Int32) (s0 : Int32) (s1 : Int32) (M : Mem), wp_Readings_kindsOf_56 X15 R x1 x2 x4 s0 s1 M → ∀ (H : Heap) (locs : List Loc) (ls : Array Slot), WP g M H → va_S (AW g) s.heap H locs → lv_has ls 5 [(0, .ref (g.2.2.2 26)), (1, .int x1), (2, .int x2), (4, .int x4)] → W p l e (RM 5 115) s m ([.ref (g.2.2.2 26), .int a1] : List Value).toArray below meth c H locs 0 0 (MQ below (PQ g (RI R)) ([.ref (g.2.2.2 26), .int a1] : List Value).toArray s 0 0 (AW g)) (F0 m 56 ls [.int s1, .int s0]) := by
    intro x1 x2 x4 s0 s1 M hk H locs ls hP hS hl
    unfold wp_Readings_kindsOf_56 at hk
    refine lv_ior hx hb d_Readings_kindsOf_56 ?_
    refine lv_topi (fun x3_11 ex3_11 => ?_)
    have hk := hk x3_11 ex3_11
    refine lv_istore_n (lv' := [(3, .int x3_11), (0, .ref (g.2.2.2 26)), (1, .int x1), (2, .int x2), (4, .int x4)]) hx hb d_Readings_kindsOf_57 rfl hl (by decide) rfl (fun ls hl => ?_)
    obtain ⟨x4_12, ex4_12⟩ : ∃ y : Int32, y = x4 + (1 : Int32) := ⟨_, rfl⟩
    have hk := hk x4_12 ex4_12
    refine lv_iinc (v := x4_12) (lv' := [(4, .int x4_12), (3, .int x3_11), (0, .ref (g.2.2.2 26)), (1, .int x1), (2, .int x2)]) hx hb d_Readings_kindsOf_58 hl (k := 4) rfl (by rw [ex4_12]; rfl) (by decide) rfl (fun ls hl => ?_)
    refine lv_goto (tgt := 15) hx hb d_Readings_kindsOf_61 (by decide) ?_
    exact (eX15 x1 x2 x3_11 x4_12 M).mp hk _ _ _ hP hS (lv_sub hl [2, 3, 4, 1, 0] rfl)
  suffices hcl : (∀ (x1 : Int32) (x2 : Int32) (x3 : Int32) (x4 : Int32) (M : Mem), wp_Readings_kindsOf_15 X15 R x1 x2 x3 x4 M → X15 x1 x2 x3 x4 M) by
    have hk := h X15 hcl
    refine lv_aload_n hx hb d_Readings_kindsOf_0 rfl (lv_at hl 0 rfl) ?_
    refine gf_26_0 C hW hP fl_Readings_9 d_Readings_kindsOf_1 ?_
    refine gf_12_0 C hW hP fl_Readings_51 d_Readings_kindsOf_4 ?_
    refine lv_iload_n hx hb d_Readings_kindsOf_7 rfl (lv_at hl 1 rfl) ?_
    obtain ⟨h13, hk⟩ := hk
    refine al_13 C hW hP h13 d_Readings_kindsOf_8 ?_
    refine lv_topi (fun x2_14 ex2_14 => ?_)
    have hk := hk x2_14 ex2_14
    refine lv_istore_n (lv' := [(2, .int x2_14), (0, .ref (g.2.2.2 26)), (1, .int a1)]) hx hb d_Readings_kindsOf_9 rfl hl (by decide) rfl (fun ls hl => ?_)
    refine lv_iconst (v := 0) hx hb d_Readings_kindsOf_10 (by decide) ?_
    refine lv_istore_n (lv' := [(3, .int (0 : Int32)), (2, .int x2_14), (0, .ref (g.2.2.2 26)), (1, .int a1)]) hx hb d_Readings_kindsOf_11 rfl hl (by decide) rfl (fun ls hl => ?_)
    refine lv_iconst (v := 0) hx hb d_Readings_kindsOf_12 (by decide) ?_
    refine lv_istore (lv' := [(4, .int (0 : Int32)), (3, .int (0 : Int32)), (2, .int x2_14), (0, .ref (g.2.2.2 26)), (1, .int a1)]) hx hb d_Readings_kindsOf_13 hl (by decide) rfl (fun ls hl => ?_)
    exact (eX15 a1 x2_14 (0 : Int32) (0 : Int32) M).mp hk _ _ _ hP hS (lv_sub hl [3, 4, 2, 1, 0] rfl)
  · intro x1 x2 x3 x4 M hk
    refine (eX15 x1 x2 x3 x4 M).mpr ?_
    intro H locs ls hP hS hl
    unfold wp_Readings_kindsOf_15 at hk
    refine lv_iload hx hb d_Readings_kindsOf_15 (lv_at hl 4 rfl) ?_
    refine lv_iconst (v := 3) hx hb d_Readings_kindsOf_17 (by decide) ?_
    refine lv_icmp_ge (tgt := 64) hx hb d_Readings_kindsOf_18 (by decide) (fun c1 => ?_) (fun c1 => ?_)
    · have hk := hk.1 c1
      refine lv_aload_n hx hb d_Readings_kindsOf_64 rfl (lv_at hl 0 rfl) ?_
      refine gf_26_0 C hW hP fl_Readings_9 d_Readings_kindsOf_65 ?_
      refine gf_12_0 C hW hP fl_Readings_51 d_Readings_kindsOf_68 ?_
      refine lv_iload_n hx hb d_Readings_kindsOf_71 rfl (lv_at hl 1 rfl) ?_
      refine lv_iload_n hx hb d_Readings_kindsOf_72 rfl (lv_at hl 2 rfl) ?_
      obtain ⟨h2, hk⟩ := hk
      refine as_13 hI C hW hP hS h2 d_Readings_kindsOf_73 (fun M3 eM3 H locs hP hS => ?_)
      have hk := hk M3 eM3
      refine lv_iload_n hx hb d_Readings_kindsOf_74 rfl (lv_at hl 3 rfl) ?_
      exact r_iret C hr hlocks hP hS hk d_Readings_kindsOf_75
    · have hk := hk.2 c1
      refine lv_aload_n hx hb d_Readings_kindsOf_21 rfl (lv_at hl 0 rfl) ?_
      refine gf_26_0 C hW hP fl_Readings_9 d_Readings_kindsOf_22 ?_
      refine gf_12_0 C hW hP fl_Readings_51 d_Readings_kindsOf_25 ?_
      refine lv_iload_n hx hb d_Readings_kindsOf_28 rfl (lv_at hl 1 rfl) ?_
      refine lv_iload hx hb d_Readings_kindsOf_29 (lv_at hl 4 rfl) ?_
      obtain ⟨h4, hk⟩ := hk
      refine as_13 hI C hW hP hS h4 d_Readings_kindsOf_31 (fun M5 eM5 H locs hP hS => ?_)
      have hk := hk M5 eM5
      refine lv_aload_n hx hb d_Readings_kindsOf_32 rfl (lv_at hl 0 rfl) ?_
      refine gf_26_1 C hW hP fl_Readings_15 d_Readings_kindsOf_33 ?_
      refine r_runI (k_V (As := []) (rest := []) C hW hP (c_Walk_goByNumbers hI M5 _ hk) cb_Walk_goByNumbers ml_Readings_41 (io_18 g M5) ⟨by decide, by decide⟩ rfl hl.1 rfl (Nat.le_of_ble_eq_true rfl) d_Readings_kindsOf_36 ⟨by decide, by decide⟩) hS (fun r7 M6 H locs hk hP hS => ?_)
      refine lv_pop hx hb d_Readings_kindsOf_39 rfl ?_
      refine lv_iload_n hx hb d_Readings_kindsOf_40 rfl (lv_at hl 3 rfl) ?_
      refine lv_aload_n hx hb d_Readings_kindsOf_41 rfl (lv_at hl 0 rfl) ?_
      refine r_runZ (k_V (As := []) (rest := [.int x3]) C hW hP (c_Readings_allAreSo hI M6 _ hk) cb_Readings_allAreSo ml_Readings_47 (io_26 g M6) ⟨by decide, by decide⟩ rfl hl.1 rfl (Nat.le_of_ble_eq_true rfl) d_Readings_kindsOf_42 ⟨by decide, by decide⟩) hS (fun r9 M8 H locs zr9 hk hP hS => ?_)
      refine lv_if_eq (tgt := 55) hx hb d_Readings_kindsOf_45 (by decide) (fun c10 => ?_) (fun c10 => ?_)
      · have hk := hk.1 c10
        refine lv_iconst (v := 0) hx hb d_Readings_kindsOf_55 (by decide) ?_
        exact J56 x1 x2 x4 x3 (0 : Int32) M8 hk _ _ _ hP hS (lv_sub hl [0, 1, 2, 4] rfl)
      · have hk := hk.2 c10
        refine lv_iconst (v := 1) hx hb d_Readings_kindsOf_48 (by decide) ?_
        refine lv_iload hx hb d_Readings_kindsOf_49 (lv_at hl 4 rfl) ?_
        refine lv_ishl hx hb d_Readings_kindsOf_51 ?_
        refine lv_goto (tgt := 56) hx hb d_Readings_kindsOf_52 (by decide) ?_
        exact J56 x1 x2 x4 x3 ((1 : Int32) <<< (x4 &&& (31 : Int32))) M8 hk _ _ _ hP hS (lv_sub hl [0, 1, 2, 4] rfl)
theorem d_Main_kinds_0 : decode b_Main_kinds 0 = .ok (.aload_n 0, 1) := by decide +kernel
theorem d_Main_kinds_1 : decode b_Main_kinds 1 = .ok (.getfield 28, 3) := by decide +kernel
theorem d_Main_kinds_4 : decode b_Main_kinds 4 = .ok (.iload_n 1, 1) := by decide +kernel
theorem d_Main_kinds_5 : decode b_Main_kinds 5 = .ok (.invokevirtual 105, 3) := by decide +kernel
theorem d_Main_kinds_8 : decode b_Main_kinds 8 = .ok (.ifCond .eq 14, 3) := by decide +kernel
theorem d_Main_kinds_11 : decode b_Main_kinds 11 = .ok (.aload_n 0, 1) := by decide +kernel
theorem d_Main_kinds_12 : decode b_Main_kinds 12 = .ok (.getfield 60, 3) := by decide +kernel
theorem d_Main_kinds_15 : decode b_Main_kinds 15 = .ok (.iload_n 1, 1) := by decide +kernel
theorem d_Main_kinds_16 : decode b_Main_kinds 16 = .ok (.invokevirtual 214, 3) := by decide +kernel
theorem d_Main_kinds_19 : decode b_Main_kinds 19 = .ok (.goto 4, 3) := by decide +kernel
theorem d_Main_kinds_22 : decode b_Main_kinds 22 = .ok (.iconst (-1), 1) := by decide +kernel
theorem d_Main_kinds_23 : decode b_Main_kinds 23 = .ok (.ireturn, 1) := by decide +kernel
set_option maxRecDepth 20000 in
theorem c_Main_kinds {l : Launch} {g : GG} (hI : WI g) (a1 : Int32) (M : Mem) (R : Int32 → Mem → Prop) (h : wp_Main_kinds a1 M R) : Met l y_Main_kinds (wm y_Main_kinds b_Main_kinds 2 (some .int)) (RM 6 139) (PP g M [.ref (g.2.2.2 0), .int a1]) (PQ g (RI R)) 0 0 (AW g) := by
  refine m_of (own := N_Main) (by decide) rfl (Nat.le_of_ble_eq_true rfl) ?_
  intro p e s m below meth c ls C hr hlocks hW hP hS hl
  obtain ⟨hx, hb, hml, hown, hts⟩ := id C
  have hl : lv_has ls 2 [(0, .ref (g.2.2.2 0)), (1, .int a1)] := hl
  unfold wp_Main_kinds at h
  have hk := h
  refine lv_aload_n hx hb d_Main_kinds_0 rfl (lv_at hl 0 rfl) ?_
  refine gf_0_2 C hW hP fl_Main_28 d_Main_kinds_1 ?_
  refine lv_iload_n hx hb d_Main_kinds_4 rfl (lv_at hl 1 rfl) ?_
  refine r_runZ (k_V (As := [.int a1]) (rest := []) C hW hP (c_Way_hasHouse hI a1 M _ hk) cb_Way_hasHouse ml_Main_105 (io_12 g M) ⟨by decide, by decide⟩ rfl hl.1 rfl (Nat.le_of_ble_eq_true rfl) d_Main_kinds_5 ⟨by decide, by decide⟩) hS (fun r2 M1 H locs zr2 hk hP hS => ?_)
  refine lv_if_eq (tgt := 22) hx hb d_Main_kinds_8 (by decide) (fun c3 => ?_) (fun c3 => ?_)
  · have hk := hk.1 c3
    refine lv_iconst (v := -1) hx hb d_Main_kinds_22 (by decide) ?_
    exact r_iret C hr hlocks hP hS hk d_Main_kinds_23
  · have hk := hk.2 c3
    refine lv_aload_n hx hb d_Main_kinds_11 rfl (lv_at hl 0 rfl) ?_
    refine gf_0_6 C hW hP fl_Main_60 d_Main_kinds_12 ?_
    refine lv_iload_n hx hb d_Main_kinds_15 rfl (lv_at hl 1 rfl) ?_
    refine r_runI (k_V (As := [.int a1]) (rest := []) C hW hP (c_Readings_kindsOf hI a1 M1 _ hk) cb_Readings_kindsOf ml_Main_214 (io_26 g M1) ⟨by decide, by decide⟩ rfl hl.1 rfl (Nat.le_of_ble_eq_true rfl) d_Main_kinds_16 ⟨by decide, by decide⟩) hS (fun r5 M4 H locs hk hP hS => ?_)
    refine lv_goto (tgt := 23) hx hb d_Main_kinds_19 (by decide) ?_
    exact r_iret C hr hlocks hP hS hk d_Main_kinds_23
theorem d_Search_countThroughOf_0 : decode b_Search_countThroughOf 0 = .ok (.aload_n 0, 1) := by decide +kernel
theorem d_Search_countThroughOf_1 : decode b_Search_countThroughOf 1 = .ok (.iconst 0, 1) := by decide +kernel
theorem d_Search_countThroughOf_2 : decode b_Search_countThroughOf 2 = .ok (.putfield 37, 3) := by decide +kernel
theorem d_Search_countThroughOf_5 : decode b_Search_countThroughOf 5 = .ok (.aload_n 0, 1) := by decide +kernel
theorem d_Search_countThroughOf_6 : decode b_Search_countThroughOf 6 = .ok (.aload_n 0, 1) := by decide +kernel
theorem d_Search_countThroughOf_7 : decode b_Search_countThroughOf 7 = .ok (.getfield 22, 3) := by decide +kernel
theorem d_Search_countThroughOf_10 : decode b_Search_countThroughOf 10 = .ok (.aload_n 0, 1) := by decide +kernel
theorem d_Search_countThroughOf_11 : decode b_Search_countThroughOf 11 = .ok (.getfield 9, 3) := by decide +kernel
theorem d_Search_countThroughOf_14 : decode b_Search_countThroughOf 14 = .ok (.getfield 43, 3) := by decide +kernel
theorem d_Search_countThroughOf_17 : decode b_Search_countThroughOf 17 = .ok (.invokevirtual 48, 3) := by decide +kernel
theorem d_Search_countThroughOf_20 : decode b_Search_countThroughOf 20 = .ok (.putfield 40, 3) := by decide +kernel
theorem d_Search_countThroughOf_23 : decode b_Search_countThroughOf 23 = .ok (.iconst 0, 1) := by decide +kernel
theorem d_Search_countThroughOf_24 : decode b_Search_countThroughOf 24 = .ok (.istore_n 2, 1) := by decide +kernel
theorem d_Search_countThroughOf_25 : decode b_Search_countThroughOf 25 = .ok (.iload_n 2, 1) := by decide +kernel
theorem d_Search_countThroughOf_26 : decode b_Search_countThroughOf 26 = .ok (.aload_n 0, 1) := by decide +kernel
theorem d_Search_countThroughOf_27 : decode b_Search_countThroughOf 27 = .ok (.getfield 40, 3) := by decide +kernel
theorem d_Search_countThroughOf_30 : decode b_Search_countThroughOf 30 = .ok (.if_icmp .ge 37, 3) := by decide +kernel
theorem d_Search_countThroughOf_33 : decode b_Search_countThroughOf 33 = .ok (.aload_n 0, 1) := by decide +kernel
theorem d_Search_countThroughOf_34 : decode b_Search_countThroughOf 34 = .ok (.invokevirtual 52, 3) := by decide +kernel
theorem d_Search_countThroughOf_37 : decode b_Search_countThroughOf 37 = .ok (.iconst 1, 1) := by decide +kernel
theorem d_Search_countThroughOf_38 : decode b_Search_countThroughOf 38 = .ok (.iload_n 1, 1) := by decide +kernel
theorem d_Search_countThroughOf_39 : decode b_Search_countThroughOf 39 = .ok (.ishl, 1) := by decide +kernel
theorem d_Search_countThroughOf_40 : decode b_Search_countThroughOf 40 = .ok (.iand, 1) := by decide +kernel
theorem d_Search_countThroughOf_41 : decode b_Search_countThroughOf 41 = .ok (.ifCond .eq 13, 3) := by decide +kernel
theorem d_Search_countThroughOf_44 : decode b_Search_countThroughOf 44 = .ok (.aload_n 0, 1) := by decide +kernel
theorem d_Search_countThroughOf_45 : decode b_Search_countThroughOf 45 = .ok (.dup, 1) := by decide +kernel
theorem d_Search_countThroughOf_46 : decode b_Search_countThroughOf 46 = .ok (.getfield 37, 3) := by decide +kernel
theorem d_Search_countThroughOf_49 : decode b_Search_countThroughOf 49 = .ok (.iconst 1, 1) := by decide +kernel
theorem d_Search_countThroughOf_50 : decode b_Search_countThroughOf 50 = .ok (.iadd, 1) := by decide +kernel
theorem d_Search_countThroughOf_51 : decode b_Search_countThroughOf 51 = .ok (.putfield 37, 3) := by decide +kernel
theorem d_Search_countThroughOf_54 : decode b_Search_countThroughOf 54 = .ok (.aload_n 0, 1) := by decide +kernel
theorem d_Search_countThroughOf_55 : decode b_Search_countThroughOf 55 = .ok (.getfield 22, 3) := by decide +kernel
theorem d_Search_countThroughOf_58 : decode b_Search_countThroughOf 58 = .ok (.invokevirtual 65, 3) := by decide +kernel
theorem d_Search_countThroughOf_61 : decode b_Search_countThroughOf 61 = .ok (.iinc 2 1, 3) := by decide +kernel
theorem d_Search_countThroughOf_64 : decode b_Search_countThroughOf 64 = .ok (.goto (-39), 3) := by decide +kernel
theorem d_Search_countThroughOf_67 : decode b_Search_countThroughOf 67 = .ok (.return_, 1) := by decide +kernel
set_option maxRecDepth 20000 in
theorem c_Search_countThroughOf {l : Launch} {g : GG} (hI : WI g) (a1 : Int32) (M : Mem) (R : Mem → Prop) (h : wp_Search_countThroughOf a1 M R) : Met l y_Search_countThroughOf (wm y_Search_countThroughOf b_Search_countThroughOf 3 none) (RM 5 115) (PP g M [.ref (g.2.2.2 21), .int a1]) (PQ g (RV R)) 0 0 (AW g) := by
  refine m_of (own := N_Search) (by decide) rfl (Nat.le_of_ble_eq_true rfl) ?_
  intro p e s m below meth c ls C hr hlocks hW hP hS hl
  obtain ⟨hx, hb, hml, hown, hts⟩ := id C
  have hl : lv_has ls 3 [(0, .ref (g.2.2.2 21)), (1, .int a1)] := hl
  unfold wp_Search_countThroughOf at h
  obtain ⟨X25, eX25⟩ : ∃ X : Int32 → Int32 → Mem → Prop, ∀ (x1 : Int32) (x2 : Int32) (M : Mem), X x1 x2 M ↔ (∀ (H : Heap) (locs : List Loc) (ls : Array Slot), WP g M H → va_S (AW g) s.heap H locs → lv_has ls 3 [(0, .ref (g.2.2.2 21)), (1, .int x1), (2, .int x2)] → W p l e (RM 5 115) s m ([.ref (g.2.2.2 21), .int a1] : List Value).toArray below meth c H locs 0 0 (MQ below (PQ g (RV R)) ([.ref (g.2.2.2 21), .int a1] : List Value).toArray s 0 0 (AW g)) (F0 m 25 ls [])) := ⟨fun x1 x2 M => _, fun _ _ _ => Iff.rfl⟩
  have J54 : ∀ (x1 : Int32) (x2 : Int32) (M : Mem), wp_Search_countThroughOf_54 X25 R x1 x2 M → ∀ (H : Heap) (locs : List Loc) (ls : Array Slot), WP g M H → va_S (AW g) s.heap H locs → lv_has ls 3 [(0, .ref (g.2.2.2 21)), (1, .int x1), (2, .int x2)] → W p l e (RM 5 115) s m ([.ref (g.2.2.2 21), .int a1] : List Value).toArray below meth c H locs 0 0 (MQ below (PQ g (RV R)) ([.ref (g.2.2.2 21), .int a1] : List Value).toArray s 0 0 (AW g)) (F0 m 54 ls []) := by
    intro x1 x2 M hk H locs ls hP hS hl
    unfold wp_Search_countThroughOf_54 at hk
    refine lv_aload_n hx hb d_Search_countThroughOf_54 rfl (lv_at hl 0 rfl) ?_
    refine gf_21_2 C hW hP fl_Search_22 d_Search_countThroughOf_55 ?_
    refine r_runV (k_V (As := []) (rest := []) C hW hP (c_Orders_next hI M _ hk) cb_Orders_next ml_Search_65 (io_22 g M) ⟨by decide, by decide⟩ rfl hl.1 rfl (Nat.le_of_ble_eq_true rfl) d_Search_countThroughOf_58 ⟨by decide, by decide⟩) hS (fun M6 H locs hk hP hS => ?_)
    obtain ⟨x2_7, ex2_7⟩ : ∃ y : Int32, y = x2 + (1 : Int32) := ⟨_, rfl⟩
    have hk := hk x2_7 ex2_7
    refine lv_iinc (v := x2_7) (lv' := [(2, .int x2_7), (0, .ref (g.2.2.2 21)), (1, .int x1)]) hx hb d_Search_countThroughOf_61 hl (k := 2) rfl (by rw [ex2_7]; rfl) (by decide) rfl (fun ls hl => ?_)
    refine lv_goto (tgt := 25) hx hb d_Search_countThroughOf_64 (by decide) ?_
    exact (eX25 x1 x2_7 M6).mp hk _ _ _ hP hS (lv_sub hl [1, 2, 0] rfl)
  suffices hcl : (∀ (x1 : Int32) (x2 : Int32) (M : Mem), wp_Search_countThroughOf_25 X25 R x1 x2 M → X25 x1 x2 M) by
    have hk := h X25 hcl
    refine lv_aload_n hx hb d_Search_countThroughOf_0 rfl (lv_at hl 0 rfl) ?_
    refine lv_iconst (v := 0) hx hb d_Search_countThroughOf_1 (by decide) ?_
    refine pf_21_6 hI C hW hP hS fl_Search_37 d_Search_countThroughOf_2 (fun M8 eM8 H locs hP hS => ?_)
    have hk := hk M8 eM8
    refine lv_aload_n hx hb d_Search_countThroughOf_5 rfl (lv_at hl 0 rfl) ?_
    refine lv_aload_n hx hb d_Search_countThroughOf_6 rfl (lv_at hl 0 rfl) ?_
    refine gf_21_2 C hW hP fl_Search_22 d_Search_countThroughOf_7 ?_
    refine lv_aload_n hx hb d_Search_countThroughOf_10 rfl (lv_at hl 0 rfl) ?_
    refine gf_21_0 C hW hP fl_Search_9 d_Search_countThroughOf_11 ?_
    refine gf_12_6 C hW hP fl_Search_43 d_Search_countThroughOf_14 ?_
    refine r_runI (k_V (As := [.int (M8 12 6)]) (rest := [.ref (g.2.2.2 21)]) C hW hP (c_Orders_begin hI (M8 12 6) M8 _ hk) cb_Orders_begin ml_Search_48 (io_22 g M8) ⟨by decide, by decide⟩ rfl hl.1 rfl (Nat.le_of_ble_eq_true rfl) d_Search_countThroughOf_17 ⟨by decide, by decide⟩) hS (fun r10 M9 H locs hk hP hS => ?_)
    refine pf_21_7 hI C hW hP hS fl_Search_40 d_Search_countThroughOf_20 (fun M11 eM11 H locs hP hS => ?_)
    have hk := hk M11 eM11
    refine lv_iconst (v := 0) hx hb d_Search_countThroughOf_23 (by decide) ?_
    refine lv_istore_n (lv' := [(2, .int (0 : Int32)), (0, .ref (g.2.2.2 21)), (1, .int a1)]) hx hb d_Search_countThroughOf_24 rfl hl (by decide) rfl (fun ls hl => ?_)
    exact (eX25 a1 (0 : Int32) M11).mp hk _ _ _ hP hS (lv_sub hl [1, 2, 0] rfl)
  · intro x1 x2 M hk
    refine (eX25 x1 x2 M).mpr ?_
    intro H locs ls hP hS hl
    unfold wp_Search_countThroughOf_25 at hk
    refine lv_iload_n hx hb d_Search_countThroughOf_25 rfl (lv_at hl 2 rfl) ?_
    refine lv_aload_n hx hb d_Search_countThroughOf_26 rfl (lv_at hl 0 rfl) ?_
    refine gf_21_7 C hW hP fl_Search_40 d_Search_countThroughOf_27 ?_
    refine lv_icmp_ge (tgt := 67) hx hb d_Search_countThroughOf_30 (by decide) (fun c1 => ?_) (fun c1 => ?_)
    · have hk := hk.1 c1
      exact r_vret C hr hlocks hP hS hk d_Search_countThroughOf_67
    · have hk := hk.2 c1
      refine lv_aload_n hx hb d_Search_countThroughOf_33 rfl (lv_at hl 0 rfl) ?_
      refine r_runI (k_V (As := []) (rest := []) C hW hP (c_Search_goInOrder hI M _ hk) cb_Search_goInOrder ml_Search_52 (io_21 g M) ⟨by decide, by decide⟩ rfl hl.1 rfl (Nat.le_of_ble_eq_true rfl) d_Search_countThroughOf_34 ⟨by decide, by decide⟩) hS (fun r3 M2 H locs hk hP hS => ?_)
      refine lv_iconst (v := 1) hx hb d_Search_countThroughOf_37 (by decide) ?_
      refine lv_iload_n hx hb d_Search_countThroughOf_38 rfl (lv_at hl 1 rfl) ?_
      refine lv_ishl hx hb d_Search_countThroughOf_39 ?_
      refine lv_iand hx hb d_Search_countThroughOf_40 ?_
      refine lv_if_eq (tgt := 54) hx hb d_Search_countThroughOf_41 (by decide) (fun c4 => ?_) (fun c4 => ?_)
      · have hk := hk.1 c4
        exact J54 x1 x2 M2 hk _ _ _ hP hS (lv_sub hl [0, 1, 2] rfl)
      · have hk := hk.2 c4
        refine lv_aload_n hx hb d_Search_countThroughOf_44 rfl (lv_at hl 0 rfl) ?_
        refine lv_dup hx hb d_Search_countThroughOf_45 rfl ?_
        refine gf_21_6 C hW hP fl_Search_37 d_Search_countThroughOf_46 ?_
        refine lv_iconst (v := 1) hx hb d_Search_countThroughOf_49 (by decide) ?_
        refine lv_iadd hx hb d_Search_countThroughOf_50 ?_
        refine pf_21_6 hI C hW hP hS fl_Search_37 d_Search_countThroughOf_51 (fun M5 eM5 H locs hP hS => ?_)
        have hk := hk M5 eM5
        exact J54 x1 x2 M5 hk _ _ _ hP hS (lv_sub hl [0, 1, 2] rfl)
theorem d_Main_sharedDivisor_0 : decode b_Main_sharedDivisor 0 = .ok (.iload_n 0, 1) := by decide +kernel
theorem d_Main_sharedDivisor_1 : decode b_Main_sharedDivisor 1 = .ok (.ifCond .ne 5, 3) := by decide +kernel
theorem d_Main_sharedDivisor_4 : decode b_Main_sharedDivisor 4 = .ok (.iload_n 1, 1) := by decide +kernel
theorem d_Main_sharedDivisor_5 : decode b_Main_sharedDivisor 5 = .ok (.ireturn, 1) := by decide +kernel
theorem d_Main_sharedDivisor_6 : decode b_Main_sharedDivisor 6 = .ok (.iload_n 0, 1) := by decide +kernel
theorem d_Main_sharedDivisor_7 : decode b_Main_sharedDivisor 7 = .ok (.istore_n 2, 1) := by decide +kernel
theorem d_Main_sharedDivisor_8 : decode b_Main_sharedDivisor 8 = .ok (.iload_n 2, 1) := by decide +kernel
theorem d_Main_sharedDivisor_9 : decode b_Main_sharedDivisor 9 = .ok (.iconst 1, 1) := by decide +kernel
theorem d_Main_sharedDivisor_10 : decode b_Main_sharedDivisor 10 = .ok (.if_icmp .le 23, 3) := by decide +kernel
theorem d_Main_sharedDivisor_13 : decode b_Main_sharedDivisor 13 = .ok (.iload_n 0, 1) := by decide +kernel
theorem d_Main_sharedDivisor_14 : decode b_Main_sharedDivisor 14 = .ok (.iload_n 2, 1) := by decide +kernel
theorem d_Main_sharedDivisor_15 : decode b_Main_sharedDivisor 15 = .ok (.irem, 1) := by decide +kernel
theorem d_Main_sharedDivisor_16 : decode b_Main_sharedDivisor 16 = .ok (.ifCond .ne 11, 3) := by decide +kernel
theorem d_Main_sharedDivisor_19 : decode b_Main_sharedDivisor 19 = .ok (.iload_n 1, 1) := by decide +kernel
theorem d_Main_sharedDivisor_20 : decode b_Main_sharedDivisor 20 = .ok (.iload_n 2, 1) := by decide +kernel
theorem d_Main_sharedDivisor_21 : decode b_Main_sharedDivisor 21 = .ok (.irem, 1) := by decide +kernel
theorem d_Main_sharedDivisor_22 : decode b_Main_sharedDivisor 22 = .ok (.ifCond .ne 5, 3) := by decide +kernel
theorem d_Main_sharedDivisor_25 : decode b_Main_sharedDivisor 25 = .ok (.iload_n 2, 1) := by decide +kernel
theorem d_Main_sharedDivisor_26 : decode b_Main_sharedDivisor 26 = .ok (.ireturn, 1) := by decide +kernel
theorem d_Main_sharedDivisor_27 : decode b_Main_sharedDivisor 27 = .ok (.iinc 2 (-1), 3) := by decide +kernel
theorem d_Main_sharedDivisor_30 : decode b_Main_sharedDivisor 30 = .ok (.goto (-22), 3) := by decide +kernel
theorem d_Main_sharedDivisor_33 : decode b_Main_sharedDivisor 33 = .ok (.iconst 1, 1) := by decide +kernel
theorem d_Main_sharedDivisor_34 : decode b_Main_sharedDivisor 34 = .ok (.ireturn, 1) := by decide +kernel
set_option maxRecDepth 20000 in
theorem c_Main_sharedDivisor {l : Launch} {g : GG} (hI : WI g) (a0 : Int32) (a1 : Int32) (M : Mem) (R : Int32 → Mem → Prop) (h : wp_Main_sharedDivisor a0 a1 M R) : Met l y_Main_sharedDivisor (wm y_Main_sharedDivisor b_Main_sharedDivisor 3 (some .int)) (RM 0 0) (PP g M [.int a0, .int a1]) (PQ g (RI R)) 0 0 (AW g) := by
  refine m_of (own := N_Main) (by decide) rfl (Nat.le_of_ble_eq_true rfl) ?_
  intro p e s m below meth c ls C hr hlocks hW hP hS hl
  obtain ⟨hx, hb, hml, hown, hts⟩ := id C
  have hl : lv_has ls 3 [(0, .int a0), (1, .int a1)] := hl
  unfold wp_Main_sharedDivisor at h
  obtain ⟨X8, eX8⟩ : ∃ X : Int32 → Int32 → Int32 → Mem → Prop, ∀ (x0 : Int32) (x1 : Int32) (x2 : Int32) (M : Mem), X x0 x1 x2 M ↔ (∀ (H : Heap) (locs : List Loc) (ls : Array Slot), WP g M H → va_S (AW g) s.heap H locs → lv_has ls 3 [(0, .int x0), (1, .int x1), (2, .int x2)] → W p l e (RM 0 0) s m ([.int a0, .int a1] : List Value).toArray below meth c H locs 0 0 (MQ below (PQ g (RI R)) ([.int a0, .int a1] : List Value).toArray s 0 0 (AW g)) (F0 m 8 ls [])) := ⟨fun x0 x1 x2 M => _, fun _ _ _ _ => Iff.rfl⟩
  have J27 : ∀ (x0 : Int32) (x1 : Int32) (x2 : Int32) (M : Mem), wp_Main_sharedDivisor_27 X8 R x0 x1 x2 M → ∀ (H : Heap) (locs : List Loc) (ls : Array Slot), WP g M H → va_S (AW g) s.heap H locs → lv_has ls 3 [(0, .int x0), (1, .int x1), (2, .int x2)] → W p l e (RM 0 0) s m ([.int a0, .int a1] : List Value).toArray below meth c H locs 0 0 (MQ below (PQ g (RI R)) ([.int a0, .int a1] : List Value).toArray s 0 0 (AW g)) (F0 m 27 ls []) := by
    intro x0 x1 x2 M hk H locs ls hP hS hl
    unfold wp_Main_sharedDivisor_27 at hk
    obtain ⟨x2_6, ex2_6⟩ : ∃ y : Int32, y = x2 + (-1 : Int32) := ⟨_, rfl⟩
    have hk := hk x2_6 ex2_6
    refine lv_iinc (v := x2_6) (lv' := [(2, .int x2_6), (0, .int x0), (1, .int x1)]) hx hb d_Main_sharedDivisor_27 hl (k := 2) rfl (by rw [ex2_6]; rfl) (by decide) rfl (fun ls hl => ?_)
    refine lv_goto (tgt := 8) hx hb d_Main_sharedDivisor_30 (by decide) ?_
    exact (eX8 x0 x1 x2_6 M).mp hk _ _ _ hP hS (lv_sub hl [1, 2, 0] rfl)
  suffices hcl : (∀ (x0 : Int32) (x1 : Int32) (x2 : Int32) (M : Mem), wp_Main_sharedDivisor_8 X8 R x0 x1 x2 M → X8 x0 x1 x2 M) by
    have hk := h X8 hcl
    refine lv_iload_n hx hb d_Main_sharedDivisor_0 rfl (lv_at hl 0 rfl) ?_
    refine lv_if_ne (tgt := 6) hx hb d_Main_sharedDivisor_1 (by decide) (fun c7 => ?_) (fun c7 => ?_)
    · have hk := hk.1 c7
      refine lv_iload_n hx hb d_Main_sharedDivisor_6 rfl (lv_at hl 0 rfl) ?_
      refine lv_istore_n (lv' := [(2, .int a0), (0, .int a0), (1, .int a1)]) hx hb d_Main_sharedDivisor_7 rfl hl (by decide) rfl (fun ls hl => ?_)
      exact (eX8 a0 a1 a0 M).mp hk _ _ _ hP hS (lv_sub hl [1, 2, 0] rfl)
    · have hk := hk.2 c7
      refine lv_iload_n hx hb d_Main_sharedDivisor_4 rfl (lv_at hl 1 rfl) ?_
      exact r_iret C hr hlocks hP hS hk d_Main_sharedDivisor_5
  · intro x0 x1 x2 M hk
    refine (eX8 x0 x1 x2 M).mpr ?_
    intro H locs ls hP hS hl
    unfold wp_Main_sharedDivisor_8 at hk
    refine lv_iload_n hx hb d_Main_sharedDivisor_8 rfl (lv_at hl 2 rfl) ?_
    refine lv_iconst (v := 1) hx hb d_Main_sharedDivisor_9 (by decide) ?_
    refine lv_icmp_le (tgt := 33) hx hb d_Main_sharedDivisor_10 (by decide) (fun c1 => ?_) (fun c1 => ?_)
    · have hk := hk.1 c1
      refine lv_iconst (v := 1) hx hb d_Main_sharedDivisor_33 (by decide) ?_
      exact r_iret C hr hlocks hP hS hk d_Main_sharedDivisor_34
    · have hk := hk.2 c1
      refine lv_iload_n hx hb d_Main_sharedDivisor_13 rfl (lv_at hl 0 rfl) ?_
      refine lv_iload_n hx hb d_Main_sharedDivisor_14 rfl (lv_at hl 2 rfl) ?_
      obtain ⟨h2, hk⟩ := hk
      refine lv_irem hx hb d_Main_sharedDivisor_15 h2 ?_
      refine lv_if_ne (tgt := 27) hx hb d_Main_sharedDivisor_16 (by decide) (fun c3 => ?_) (fun c3 => ?_)
      · have hk := hk.1 c3
        exact J27 x0 x1 x2 M hk _ _ _ hP hS (lv_sub hl [0, 1, 2] rfl)
      · have hk := hk.2 c3
        refine lv_iload_n hx hb d_Main_sharedDivisor_19 rfl (lv_at hl 1 rfl) ?_
        refine lv_iload_n hx hb d_Main_sharedDivisor_20 rfl (lv_at hl 2 rfl) ?_
        obtain ⟨h4, hk⟩ := hk
        refine lv_irem hx hb d_Main_sharedDivisor_21 h4 ?_
        refine lv_if_ne (tgt := 27) hx hb d_Main_sharedDivisor_22 (by decide) (fun c5 => ?_) (fun c5 => ?_)
        · have hk := hk.1 c5
          exact J27 x0 x1 x2 M hk _ _ _ hP hS (lv_sub hl [0, 1, 2] rfl)
        · have hk := hk.2 c5
          refine lv_iload_n hx hb d_Main_sharedDivisor_25 rfl (lv_at hl 2 rfl) ?_
          exact r_iret C hr hlocks hP hS hk d_Main_sharedDivisor_26
theorem d_Main_odds_0 : decode b_Main_odds 0 = .ok (.aload_n 0, 1) := by decide +kernel
theorem d_Main_odds_1 : decode b_Main_odds 1 = .ok (.getfield 28, 3) := by decide +kernel
theorem d_Main_odds_4 : decode b_Main_odds 4 = .ok (.iload_n 1, 1) := by decide +kernel
theorem d_Main_odds_5 : decode b_Main_odds 5 = .ok (.invokevirtual 122, 3) := by decide +kernel
theorem d_Main_odds_8 : decode b_Main_odds 8 = .ok (.ifCond .eq 11, 3) := by decide +kernel
theorem d_Main_odds_11 : decode b_Main_odds 11 = .ok (.iload_n 2, 1) := by decide +kernel
theorem d_Main_odds_12 : decode b_Main_odds 12 = .ok (.iconst 2, 1) := by decide +kernel
theorem d_Main_odds_13 : decode b_Main_odds 13 = .ok (.invokestatic 75, 3) := by decide +kernel
theorem d_Main_odds_16 : decode b_Main_odds 16 = .ok (.ifCond .ne 7, 3) := by decide +kernel
theorem d_Main_odds_19 : decode b_Main_odds 19 = .ok (.ldc2_w 217, 3) := by decide +kernel
theorem d_Main_odds_22 : decode b_Main_odds 22 = .ok (.lreturn, 1) := by decide +kernel
theorem d_Main_odds_23 : decode b_Main_odds 23 = .ok (.aload_n 0, 1) := by decide +kernel
theorem d_Main_odds_24 : decode b_Main_odds 24 = .ok (.getfield 46, 3) := by decide +kernel
theorem d_Main_odds_27 : decode b_Main_odds 27 = .ok (.iload_n 1, 1) := by decide +kernel
theorem d_Main_odds_28 : decode b_Main_odds 28 = .ok (.invokevirtual 219, 3) := by decide +kernel
theorem d_Main_odds_31 : decode b_Main_odds 31 = .ok (.aload_n 0, 1) := by decide +kernel
theorem d_Main_odds_32 : decode b_Main_odds 32 = .ok (.getfield 46, 3) := by decide +kernel
theorem d_Main_odds_35 : decode b_Main_odds 35 = .ok (.getfield 222, 3) := by decide +kernel
theorem d_Main_odds_38 : decode b_Main_odds 38 = .ok (.aload_n 0, 1) := by decide +kernel
theorem d_Main_odds_39 : decode b_Main_odds 39 = .ok (.getfield 46, 3) := by decide +kernel
theorem d_Main_odds_42 : decode b_Main_odds 42 = .ok (.getfield 225, 3) := by decide +kernel
theorem d_Main_odds_45 : decode b_Main_odds 45 = .ok (.invokestatic 228, 3) := by decide +kernel
theorem d_Main_odds_48 : decode b_Main_odds 48 = .ok (.istore_n 3, 1) := by decide +kernel
theorem d_Main_odds_49 : decode b_Main_odds 49 = .ok (.iload_n 2, 1) := by decide +kernel
theorem d_Main_odds_50 : decode b_Main_odds 50 = .ok (.ifCond .ne 13, 3) := by decide +kernel
theorem d_Main_odds_53 : decode b_Main_odds 53 = .ok (.aload_n 0, 1) := by decide +kernel
theorem d_Main_odds_54 : decode b_Main_odds 54 = .ok (.getfield 46, 3) := by decide +kernel
theorem d_Main_odds_57 : decode b_Main_odds 57 = .ok (.getfield 222, 3) := by decide +kernel
theorem d_Main_odds_60 : decode b_Main_odds 60 = .ok (.goto 10, 3) := by decide +kernel
theorem d_Main_odds_63 : decode b_Main_odds 63 = .ok (.aload_n 0, 1) := by decide +kernel
theorem d_Main_odds_64 : decode b_Main_odds 64 = .ok (.getfield 46, 3) := by decide +kernel
theorem d_Main_odds_67 : decode b_Main_odds 67 = .ok (.getfield 225, 3) := by decide +kernel
theorem d_Main_odds_70 : decode b_Main_odds 70 = .ok (.istore 4, 2) := by decide +kernel
theorem d_Main_odds_72 : decode b_Main_odds 72 = .ok (.iload_n 3, 1) := by decide +kernel
theorem d_Main_odds_73 : decode b_Main_odds 73 = .ok (.ifCond .le 11, 3) := by decide +kernel
theorem d_Main_odds_76 : decode b_Main_odds 76 = .ok (.iload 4, 2) := by decide +kernel
theorem d_Main_odds_78 : decode b_Main_odds 78 = .ok (.iload_n 3, 1) := by decide +kernel
theorem d_Main_odds_79 : decode b_Main_odds 79 = .ok (.idiv, 1) := by decide +kernel
theorem d_Main_odds_80 : decode b_Main_odds 80 = .ok (.i2l, 1) := by decide +kernel
theorem d_Main_odds_81 : decode b_Main_odds 81 = .ok (.goto 6, 3) := by decide +kernel
theorem d_Main_odds_84 : decode b_Main_odds 84 = .ok (.iload 4, 2) := by decide +kernel
theorem d_Main_odds_86 : decode b_Main_odds 86 = .ok (.i2l, 1) := by decide +kernel
theorem d_Main_odds_87 : decode b_Main_odds 87 = .ok (.lreturn, 1) := by decide +kernel
set_option maxRecDepth 20000 in
theorem c_Main_odds {l : Launch} {g : GG} (hI : WI g) (a1 : Int32) (a2 : Int32) (M : Mem) (R : Int64 → Mem → Prop) (h : wp_Main_odds a1 a2 M R) : Met l y_Main_odds (wm y_Main_odds b_Main_odds 5 (some .long)) (RM 6 137) (PP g M [.ref (g.2.2.2 0), .int a1, .int a2]) (PQ g (RL R)) 0 0 (AW g) := by
  refine m_of (own := N_Main) (by decide) rfl (Nat.le_of_ble_eq_true rfl) ?_
  intro p e s m below meth c ls C hr hlocks hW hP hS hl
  obtain ⟨hx, hb, hml, hown, hts⟩ := id C
  have hl : lv_has ls 5 [(0, .ref (g.2.2.2 0)), (1, .int a1), (2, .int a2)] := hl
  unfold wp_Main_odds at h
  have J70 : ∀ (x3 : Int32) (s0 : Int32) (M : Mem), wp_Main_odds_70  R x3 s0 M → ∀ (H : Heap) (locs : List Loc) (ls : Array Slot), WP g M H → va_S (AW g) s.heap H locs → lv_has ls 5 [(3, .int x3)] → W p l e (RM 6 137) s m ([.ref (g.2.2.2 0), .int a1, .int a2] : List Value).toArray below meth c H locs 0 0 (MQ below (PQ g (RL R)) ([.ref (g.2.2.2 0), .int a1, .int a2] : List Value).toArray s 0 0 (AW g)) (F0 m 70 ls [.int s0]) := by
    intro x3 s0 M hk H locs ls hP hS hl
    unfold wp_Main_odds_70 at hk
    refine lv_istore (lv' := [(4, .int s0), (3, .int x3)]) hx hb d_Main_odds_70 hl (by decide) rfl (fun ls hl => ?_)
    refine lv_iload_n hx hb d_Main_odds_72 rfl (lv_at hl 1 rfl) ?_
    refine lv_if_le (tgt := 84) hx hb d_Main_odds_73 (by decide) (fun c1 => ?_) (fun c1 => ?_)
    · have hk := hk.1 c1
      refine lv_iload hx hb d_Main_odds_84 (lv_at hl 0 rfl) ?_
      refine lv_i2l hx hb d_Main_odds_86 rfl ?_
      exact r_lret C hr hlocks hP hS hk d_Main_odds_87
    · have hk := hk.2 c1
      refine lv_iload hx hb d_Main_odds_76 (lv_at hl 0 rfl) ?_
      refine lv_iload_n hx hb d_Main_odds_78 rfl (lv_at hl 1 rfl) ?_
      obtain ⟨h2, hk⟩ := hk
      refine lv_idiv hx hb d_Main_odds_79 h2 ?_
      refine lv_i2l hx hb d_Main_odds_80 rfl ?_
      refine lv_goto (tgt := 87) hx hb d_Main_odds_81 (by decide) ?_
      exact r_lret C hr hlocks hP hS hk d_Main_odds_87
  have hk := h
  refine lv_aload_n hx hb d_Main_odds_0 rfl (lv_at hl 0 rfl) ?_
  refine gf_0_2 C hW hP fl_Main_28 d_Main_odds_1 ?_
  refine lv_iload_n hx hb d_Main_odds_4 rfl (lv_at hl 1 rfl) ?_
  refine r_runZ (k_V (As := [.int a1]) (rest := []) C hW hP (c_Way_hasGuest hI a1 M _ hk) cb_Way_hasGuest ml_Main_122 (io_12 g M) ⟨by decide, by decide⟩ rfl hl.1 rfl (Nat.le_of_ble_eq_true rfl) d_Main_odds_5 ⟨by decide, by decide⟩) hS (fun r4 M3 H locs zr4 hk hP hS => ?_)
  refine lv_if_eq (tgt := 19) hx hb d_Main_odds_8 (by decide) (fun c5 => ?_) (fun c5 => ?_)
  · have hk := hk.1 c5
    refine lv_ldc2 (v := -9223372036854775808) hx hb hown (C.2.2.2.2 _ kc_Main_217) d_Main_odds_19 ?_
    exact r_lret C hr hlocks hP hS hk d_Main_odds_22
  · have hk := hk.2 c5
    refine lv_iload_n hx hb d_Main_odds_11 rfl (lv_at hl 2 rfl) ?_
    refine lv_iconst (v := 2) hx hb d_Main_odds_12 (by decide) ?_
    refine r_runZ (k_S (As := [.int a2, .int (2 : Int32)]) (rest := []) C hW hP (c_Main_isBelow hI a2 (2 : Int32) M3 _ hk) cb_Main_isBelow ml_Main_75 ⟨by decide, by decide⟩ rfl hl.1 rfl (Nat.le_of_ble_eq_true rfl) d_Main_odds_13 ⟨by decide, by decide⟩) hS (fun r7 M6 H locs zr7 hk hP hS => ?_)
    refine lv_if_ne (tgt := 23) hx hb d_Main_odds_16 (by decide) (fun c8 => ?_) (fun c8 => ?_)
    · have hk := hk.1 c8
      refine lv_aload_n hx hb d_Main_odds_23 rfl (lv_at hl 0 rfl) ?_
      refine gf_0_4 C hW hP fl_Main_46 d_Main_odds_24 ?_
      refine lv_iload_n hx hb d_Main_odds_27 rfl (lv_at hl 1 rfl) ?_
      refine r_runV (k_V (As := [.int a1]) (rest := []) C hW hP (c_Search_countThroughOf hI a1 M6 _ hk) cb_Search_countThroughOf ml_Main_219 (io_21 g M6) ⟨by decide, by decide⟩ rfl hl.1 rfl (Nat.le_of_ble_eq_true rfl) d_Main_odds_28 ⟨by decide, by decide⟩) hS (fun M9 H locs hk hP hS => ?_)
      refine lv_aload_n hx hb d_Main_odds_31 rfl (lv_at hl 0 rfl) ?_
      refine gf_0_4 C hW hP fl_Main_46 d_Main_odds_32 ?_
      refine gf_21_6 C hW hP fl_Main_222 d_Main_odds_35 ?_
      refine lv_aload_n hx hb d_Main_odds_38 rfl (lv_at hl 0 rfl) ?_
      refine gf_0_4 C hW hP fl_Main_46 d_Main_odds_39 ?_
      refine gf_21_7 C hW hP fl_Main_225 d_Main_odds_42 ?_
      refine r_runI (k_S (As := [.int (M9 21 6), .int (M9 21 7)]) (rest := []) C hW hP (c_Main_sharedDivisor hI (M9 21 6) (M9 21 7) M9 _ hk) cb_Main_sharedDivisor ml_Main_228 ⟨by decide, by decide⟩ rfl hl.1 rfl (Nat.le_of_ble_eq_true rfl) d_Main_odds_45 ⟨by decide, by decide⟩) hS (fun r11 M10 H locs hk hP hS => ?_)
      refine lv_istore_n (lv' := [(3, .int r11), (0, .ref (g.2.2.2 0)), (1, .int a1), (2, .int a2)]) hx hb d_Main_odds_48 rfl hl (by decide) rfl (fun ls hl => ?_)
      refine lv_iload_n hx hb d_Main_odds_49 rfl (lv_at hl 3 rfl) ?_
      refine lv_if_ne (tgt := 63) hx hb d_Main_odds_50 (by decide) (fun c12 => ?_) (fun c12 => ?_)
      · have hk := hk.1 c12
        refine lv_aload_n hx hb d_Main_odds_63 rfl (lv_at hl 1 rfl) ?_
        refine gf_0_4 C hW hP fl_Main_46 d_Main_odds_64 ?_
        refine gf_21_7 C hW hP fl_Main_225 d_Main_odds_67 ?_
        exact J70 r11 (M10 21 7) M10 hk _ _ _ hP hS (lv_sub hl [0] rfl)
      · have hk := hk.2 c12
        refine lv_aload_n hx hb d_Main_odds_53 rfl (lv_at hl 1 rfl) ?_
        refine gf_0_4 C hW hP fl_Main_46 d_Main_odds_54 ?_
        refine gf_21_6 C hW hP fl_Main_222 d_Main_odds_57 ?_
        refine lv_goto (tgt := 70) hx hb d_Main_odds_60 (by decide) ?_
        exact J70 r11 (M10 21 6) M10 hk _ _ _ hP hS (lv_sub hl [0] rfl)
    · have hk := hk.2 c8
      refine lv_ldc2 (v := -9223372036854775808) hx hb hown (C.2.2.2.2 _ kc_Main_217) d_Main_odds_19 ?_
      exact r_lret C hr hlocks hP hS hk d_Main_odds_22
theorem d_Sheet_renew_0 : decode b_Sheet_renew 0 = .ok (.aload_n 0, 1) := by decide +kernel
theorem d_Sheet_renew_1 : decode b_Sheet_renew 1 = .ok (.getfield 9, 3) := by decide +kernel
theorem d_Sheet_renew_4 : decode b_Sheet_renew 4 = .ok (.iconst 0, 1) := by decide +kernel
theorem d_Sheet_renew_5 : decode b_Sheet_renew 5 = .ok (.invokestatic 26, 3) := by decide +kernel
theorem d_Sheet_renew_8 : decode b_Sheet_renew 8 = .ok (.aload_n 0, 1) := by decide +kernel
theorem d_Sheet_renew_9 : decode b_Sheet_renew 9 = .ok (.iconst 1, 1) := by decide +kernel
theorem d_Sheet_renew_10 : decode b_Sheet_renew 10 = .ok (.putfield 15, 3) := by decide +kernel
theorem d_Sheet_renew_13 : decode b_Sheet_renew 13 = .ok (.aload_n 0, 1) := by decide +kernel
theorem d_Sheet_renew_14 : decode b_Sheet_renew 14 = .ok (.iload_n 1, 1) := by decide +kernel
theorem d_Sheet_renew_15 : decode b_Sheet_renew 15 = .ok (.putfield 19, 3) := by decide +kernel
theorem d_Sheet_renew_18 : decode b_Sheet_renew 18 = .ok (.aload_n 0, 1) := by decide +kernel
theorem d_Sheet_renew_19 : decode b_Sheet_renew 19 = .ok (.iload_n 2, 1) := by decide +kernel
theorem d_Sheet_renew_20 : decode b_Sheet_renew 20 = .ok (.putfield 23, 3) := by decide +kernel
theorem d_Sheet_renew_23 : decode b_Sheet_renew 23 = .ok (.return_, 1) := by decide +kernel
set_option maxRecDepth 20000 in
theorem c_Sheet_renew {l : Launch} {g : GG} {q0 : Nat} (hq0 : q0 < 4) (hI : WI g) (a1 : Int32) (a2 : Int32) (M : Mem) (R : Mem → Prop) (h : wp_Sheet_renew q0 a1 a2 M R) : Met l y_Sheet_renew (wm y_Sheet_renew b_Sheet_renew 3 none) (RM 1 23) (PP g M [.ref (g.2.2.2 (2 + q0)), .int a1, .int a2]) (PQ g (RV R)) 0 0 (AW g) := by
  refine m_of (own := N_Sheet) (by decide) rfl (Nat.le_of_ble_eq_true rfl) ?_
  intro p e s m below meth c ls C hr hlocks hW hP hS hl
  obtain ⟨hx, hb, hml, hown, hts⟩ := id C
  have hl : lv_has ls 3 [(0, .ref (g.2.2.2 (2 + q0))), (1, .int a1), (2, .int a2)] := hl
  unfold wp_Sheet_renew at h
  have hk := h
  refine lv_aload_n hx hb d_Sheet_renew_0 rfl (lv_at hl 0 rfl) ?_
  refine gf_sh_0 hq0 C hW hP fl_Sheet_9 d_Sheet_renew_1 ?_
  refine lv_iconst (v := 0) hx hb d_Sheet_renew_4 (by decide) ?_
  refine r_runV (k_S (As := [.ref (g.2.2.2 (6 + q0)), .int (0 : Int32)]) (rest := []) C hW hP (c_Arr_fill (k := (6 + q0)) (n := 60) (ar_sh_lt hq0) (ar_sh hq0) hI (0 : Int32) M _ hk) cb_Arr_fill ml_Sheet_26 ⟨by decide, by decide⟩ rfl hl.1 rfl (Nat.le_of_ble_eq_true rfl) d_Sheet_renew_5 ⟨by decide, by decide⟩) hS (fun M1 H locs hk hP hS => ?_)
  refine lv_aload_n hx hb d_Sheet_renew_8 rfl (lv_at hl 0 rfl) ?_
  refine lv_iconst (v := 1) hx hb d_Sheet_renew_9 (by decide) ?_
  refine pf_sh_1 (by decide) hq0 hI C hW hP hS fl_Sheet_15 d_Sheet_renew_10 (fun M2 eM2 H locs hP hS => ?_)
  have hk := hk M2 eM2
  refine lv_aload_n hx hb d_Sheet_renew_13 rfl (lv_at hl 0 rfl) ?_
  refine lv_iload_n hx hb d_Sheet_renew_14 rfl (lv_at hl 1 rfl) ?_
  refine pf_sh_2 hq0 hI C hW hP hS fl_Sheet_19 d_Sheet_renew_15 (fun M3 eM3 H locs hP hS => ?_)
  have hk := hk M3 eM3
  refine lv_aload_n hx hb d_Sheet_renew_18 rfl (lv_at hl 0 rfl) ?_
  refine lv_iload_n hx hb d_Sheet_renew_19 rfl (lv_at hl 2 rfl) ?_
  refine pf_sh_3 hq0 hI C hW hP hS fl_Sheet_23 d_Sheet_renew_20 (fun M4 eM4 H locs hP hS => ?_)
  have hk := hk M4 eM4
  exact r_vret C hr hlocks hP hS hk d_Sheet_renew_23
theorem d_Main_sheet_0 : decode b_Main_sheet 0 = .ok (.aload_n 0, 1) := by decide +kernel
theorem d_Main_sheet_1 : decode b_Main_sheet 1 = .ok (.iconst 0, 1) := by decide +kernel
theorem d_Main_sheet_2 : decode b_Main_sheet 2 = .ok (.putfield 68, 3) := by decide +kernel
theorem d_Main_sheet_5 : decode b_Main_sheet 5 = .ok (.aload_n 0, 1) := by decide +kernel
theorem d_Main_sheet_6 : decode b_Main_sheet 6 = .ok (.iload_n 1, 1) := by decide +kernel
theorem d_Main_sheet_7 : decode b_Main_sheet 7 = .ok (.invokevirtual 71, 3) := by decide +kernel
theorem d_Main_sheet_10 : decode b_Main_sheet 10 = .ok (.astore 4, 2) := by decide +kernel
theorem d_Main_sheet_12 : decode b_Main_sheet 12 = .ok (.aload 4, 2) := by decide +kernel
theorem d_Main_sheet_14 : decode b_Main_sheet 14 = .ok (.ifnonnull 5, 3) := by decide +kernel
theorem d_Main_sheet_17 : decode b_Main_sheet 17 = .ok (.iconst (-1), 1) := by decide +kernel
theorem d_Main_sheet_18 : decode b_Main_sheet 18 = .ok (.ireturn, 1) := by decide +kernel
theorem d_Main_sheet_19 : decode b_Main_sheet 19 = .ok (.iload_n 2, 1) := by decide +kernel
theorem d_Main_sheet_20 : decode b_Main_sheet 20 = .ok (.iconst 3, 1) := by decide +kernel
theorem d_Main_sheet_21 : decode b_Main_sheet 21 = .ok (.invokestatic 75, 3) := by decide +kernel
theorem d_Main_sheet_24 : decode b_Main_sheet 24 = .ok (.ifCond .eq 9, 3) := by decide +kernel
theorem d_Main_sheet_27 : decode b_Main_sheet 27 = .ok (.iload_n 3, 1) := by decide +kernel
theorem d_Main_sheet_28 : decode b_Main_sheet 28 = .ok (.bipush 60, 2) := by decide +kernel
theorem d_Main_sheet_30 : decode b_Main_sheet 30 = .ok (.if_icmp .le 6, 3) := by decide +kernel
theorem d_Main_sheet_33 : decode b_Main_sheet 33 = .ok (.bipush (-2), 2) := by decide +kernel
theorem d_Main_sheet_35 : decode b_Main_sheet 35 = .ok (.ireturn, 1) := by decide +kernel
theorem d_Main_sheet_36 : decode b_Main_sheet 36 = .ok (.iload_n 3, 1) := by decide +kernel
theorem d_Main_sheet_37 : decode b_Main_sheet 37 = .ok (.ifCond .ge 9, 3) := by decide +kernel
theorem d_Main_sheet_40 : decode b_Main_sheet 40 = .ok (.aload_n 0, 1) := by decide +kernel
theorem d_Main_sheet_41 : decode b_Main_sheet 41 = .ok (.iconst 4, 1) := by decide +kernel
theorem d_Main_sheet_42 : decode b_Main_sheet 42 = .ok (.invokevirtual 83, 3) := by decide +kernel
theorem d_Main_sheet_45 : decode b_Main_sheet 45 = .ok (.ireturn, 1) := by decide +kernel
theorem d_Main_sheet_46 : decode b_Main_sheet 46 = .ok (.aload 4, 2) := by decide +kernel
theorem d_Main_sheet_48 : decode b_Main_sheet 48 = .ok (.iload_n 2, 1) := by decide +kernel
theorem d_Main_sheet_49 : decode b_Main_sheet 49 = .ok (.iload_n 3, 1) := by decide +kernel
theorem d_Main_sheet_50 : decode b_Main_sheet 50 = .ok (.invokevirtual 231, 3) := by decide +kernel
theorem d_Main_sheet_53 : decode b_Main_sheet 53 = .ok (.iconst 1, 1) := by decide +kernel
theorem d_Main_sheet_54 : decode b_Main_sheet 54 = .ok (.ireturn, 1) := by decide +kernel
set_option maxRecDepth 20000 in
theorem c_Main_sheet {l : Launch} {g : GG} (hI : WI g) (a1 : Int32) (a2 : Int32) (a3 : Int32) (M : Mem) (R : Int32 → Mem → Prop) (h : wp_Main_sheet a1 a2 a3 M R) : Met l y_Main_sheet (wm y_Main_sheet b_Main_sheet 5 (some .int)) (RM 2 45) (PP g M [.ref (g.2.2.2 0), .int a1, .int a2, .int a3]) (PQ g (RI R)) 0 0 (AW g) := by
  refine m_of (own := N_Main) (by decide) rfl (Nat.le_of_ble_eq_true rfl) ?_
  intro p e s m below meth c ls C hr hlocks hW hP hS hl
  obtain ⟨hx, hb, hml, hown, hts⟩ := id C
  have hl : lv_has ls 5 [(0, .ref (g.2.2.2 0)), (1, .int a1), (2, .int a2), (3, .int a3)] := hl
  unfold wp_Main_sheet at h
  have hk := h
  refine lv_aload_n hx hb d_Main_sheet_0 rfl (lv_at hl 0 rfl) ?_
  refine lv_iconst (v := 0) hx hb d_Main_sheet_1 (by decide) ?_
  refine pf_0_8 hI C hW hP hS fl_Main_68 d_Main_sheet_2 (fun M1 eM1 H locs hP hS => ?_)
  have hk := hk M1 eM1
  refine lv_aload_n hx hb d_Main_sheet_5 rfl (lv_at hl 0 rfl) ?_
  refine lv_iload_n hx hb d_Main_sheet_6 rfl (lv_at hl 1 rfl) ?_
  refine r_runO (k_V (As := [.int a1]) (rest := []) C hW hP (c_Main_sheetOf hI a1 M1 _ hk) cb_Main_sheetOf ml_Main_71 (io_0 g M1) ⟨by decide, by decide⟩ rfl hl.1 rfl (Nat.le_of_ble_eq_true rfl) d_Main_sheet_7 ⟨by decide, by decide⟩) hS (fun M2 H locs hk hP hS => ?_) (fun q3 M2 H locs hq3 hk hP hS => ?_)
  · have hk := hk.1 rfl
    refine lv_astoreN (lv' := [(4, .null), (0, .ref (g.2.2.2 0)), (1, .int a1), (2, .int a2), (3, .int a3)]) hx hb d_Main_sheet_10 hl (by decide) rfl (fun ls hl => ?_)
    refine lv_aloadN hx hb d_Main_sheet_12 (lv_at hl 0 rfl) ?_
    refine lv_ifnonnullN hx hb d_Main_sheet_14 ?_
    refine lv_iconst (v := -1) hx hb d_Main_sheet_17 (by decide) ?_
    exact r_iret C hr hlocks hP hS hk d_Main_sheet_18
  · have hk := hk.2 q3 rfl hq3
    refine lv_astore (lv' := [(4, .ref (g.2.2.2 (2 + q3))), (0, .ref (g.2.2.2 0)), (1, .int a1), (2, .int a2), (3, .int a3)]) hx hb d_Main_sheet_10 hl (by decide) rfl (fun ls hl => ?_)
    refine lv_aload hx hb d_Main_sheet_12 (lv_at hl 0 rfl) ?_
    refine lv_ifnonnull (tgt := 19) hx hb d_Main_sheet_14 (by decide) ?_
    refine lv_iload_n hx hb d_Main_sheet_19 rfl (lv_at hl 3 rfl) ?_
    refine lv_iconst (v := 3) hx hb d_Main_sheet_20 (by decide) ?_
    refine r_runZ (k_S (As := [.int a2, .int (3 : Int32)]) (rest := []) C hW hP (c_Main_isBelow hI a2 (3 : Int32) M2 _ hk) cb_Main_isBelow ml_Main_75 ⟨by decide, by decide⟩ rfl hl.1 rfl (Nat.le_of_ble_eq_true rfl) d_Main_sheet_21 ⟨by decide, by decide⟩) hS (fun r6 M5 H locs zr6 hk hP hS => ?_)
    refine lv_if_eq (tgt := 33) hx hb d_Main_sheet_24 (by decide) (fun c7 => ?_) (fun c7 => ?_)
    · have hk := hk.1 c7
      refine lv_bipush (v := -2) hx hb d_Main_sheet_33 (by decide) ?_
      exact r_iret C hr hlocks hP hS hk d_Main_sheet_35
    · have hk := hk.2 c7
      refine lv_iload_n hx hb d_Main_sheet_27 rfl (lv_at hl 4 rfl) ?_
      refine lv_bipush (v := 60) hx hb d_Main_sheet_28 (by decide) ?_
      refine lv_icmp_le (tgt := 36) hx hb d_Main_sheet_30 (by decide) (fun c8 => ?_) (fun c8 => ?_)
      · have hk := hk.1 c8
        refine lv_iload_n hx hb d_Main_sheet_36 rfl (lv_at hl 4 rfl) ?_
        refine lv_if_ge (tgt := 46) hx hb d_Main_sheet_37 (by decide) (fun c9 => ?_) (fun c9 => ?_)
        · have hk := hk.1 c9
          refine lv_aload hx hb d_Main_sheet_46 (lv_at hl 0 rfl) ?_
          refine lv_iload_n hx hb d_Main_sheet_48 rfl (lv_at hl 3 rfl) ?_
          refine lv_iload_n hx hb d_Main_sheet_49 rfl (lv_at hl 4 rfl) ?_
          refine r_runV (k_V (As := [.int a2, .int a3]) (rest := []) C hW hP (c_Sheet_renew hq3 hI a2 a3 M5 _ hk) cb_Sheet_renew ml_Main_231 (io_sh q3 hq3 M5) ⟨by decide, by decide⟩ rfl hl.1 rfl (Nat.le_of_ble_eq_true rfl) d_Main_sheet_50 ⟨by decide, by decide⟩) hS (fun M10 H locs hk hP hS => ?_)
          refine lv_iconst (v := 1) hx hb d_Main_sheet_53 (by decide) ?_
          exact r_iret C hr hlocks hP hS hk d_Main_sheet_54
        · have hk := hk.2 c9
          refine lv_aload_n hx hb d_Main_sheet_40 rfl (lv_at hl 1 rfl) ?_
          refine lv_iconst (v := 4) hx hb d_Main_sheet_41 (by decide) ?_
          refine r_runI (k_V (As := [.int (4 : Int32)]) (rest := []) C hW hP (c_Main_failed hI (4 : Int32) M5 _ hk) cb_Main_failed ml_Main_83 (io_0 g M5) ⟨by decide, by decide⟩ rfl hl.1 rfl (Nat.le_of_ble_eq_true rfl) d_Main_sheet_42 ⟨by decide, by decide⟩) hS (fun r12 M11 H locs hk hP hS => ?_)
          exact r_iret C hr hlocks hP hS hk d_Main_sheet_45
      · have hk := hk.2 c8
        refine lv_bipush (v := -2) hx hb d_Main_sheet_33 (by decide) ?_
        exact r_iret C hr hlocks hP hS hk d_Main_sheet_35
theorem d_Main_lose_0 : decode b_Main_lose 0 = .ok (.aload_n 0, 1) := by decide +kernel
theorem d_Main_lose_1 : decode b_Main_lose 1 = .ok (.iload_n 1, 1) := by decide +kernel
theorem d_Main_lose_2 : decode b_Main_lose 2 = .ok (.invokevirtual 71, 3) := by decide +kernel
theorem d_Main_lose_5 : decode b_Main_lose 5 = .ok (.astore_n 2, 1) := by decide +kernel
theorem d_Main_lose_6 : decode b_Main_lose 6 = .ok (.aload_n 2, 1) := by decide +kernel
theorem d_Main_lose_7 : decode b_Main_lose 7 = .ok (.ifnonnull 5, 3) := by decide +kernel
theorem d_Main_lose_10 : decode b_Main_lose 10 = .ok (.iconst (-1), 1) := by decide +kernel
theorem d_Main_lose_11 : decode b_Main_lose 11 = .ok (.ireturn, 1) := by decide +kernel
theorem d_Main_lose_12 : decode b_Main_lose 12 = .ok (.aload_n 2, 1) := by decide +kernel
theorem d_Main_lose_13 : decode b_Main_lose 13 = .ok (.getfield 235, 3) := by decide +kernel
theorem d_Main_lose_16 : decode b_Main_lose 16 = .ok (.ifCond .eq 7, 3) := by decide +kernel
theorem d_Main_lose_19 : decode b_Main_lose 19 = .ok (.iconst 1, 1) := by decide +kernel
theorem d_Main_lose_20 : decode b_Main_lose 20 = .ok (.goto 4, 3) := by decide +kernel
theorem d_Main_lose_23 : decode b_Main_lose 23 = .ok (.iconst 0, 1) := by decide +kernel
theorem d_Main_lose_24 : decode b_Main_lose 24 = .ok (.istore_n 3, 1) := by decide +kernel
theorem d_Main_lose_25 : decode b_Main_lose 25 = .ok (.aload_n 2, 1) := by decide +kernel
theorem d_Main_lose_26 : decode b_Main_lose 26 = .ok (.iconst 0, 1) := by decide +kernel
theorem d_Main_lose_27 : decode b_Main_lose 27 = .ok (.putfield 235, 3) := by decide +kernel
theorem d_Main_lose_30 : decode b_Main_lose 30 = .ok (.iload_n 3, 1) := by decide +kernel
theorem d_Main_lose_31 : decode b_Main_lose 31 = .ok (.ireturn, 1) := by decide +kernel
set_option maxRecDepth 20000 in
theorem c_Main_lose {l : Launch} {g : GG} (hI : WI g) (a1 : Int32) (M : Mem) (R : Int32 → Mem → Prop) (h : wp_Main_lose a1 M R) : Met l y_Main_lose (wm y_Main_lose b_Main_lose 4 (some .int)) (RM 2 42) (PP g M [.ref (g.2.2.2 0), .int a1]) (PQ g (RI R)) 0 0 (AW g) := by
  refine m_of (own := N_Main) (by decide) rfl (Nat.le_of_ble_eq_true rfl) ?_
  intro p e s m below meth c ls C hr hlocks hW hP hS hl
  obtain ⟨hx, hb, hml, hown, hts⟩ := id C
  have hl : lv_has ls 4 [(0, .ref (g.2.2.2 0)), (1, .int a1)] := hl
  unfold wp_Main_lose at h
  have J24 : ∀ (u2 : Nat) (s0 : Int32) (M : Mem), wp_Main_lose_24  R u2 s0 M → ∀ (H : Heap) (locs : List Loc) (ls : Array Slot), WP g M H → va_S (AW g) s.heap H locs → lv_has ls 4 [(2, .ref (g.2.2.2 (2 + u2)))] → W p l e (RM 2 42) s m ([.ref (g.2.2.2 0), .int a1] : List Value).toArray below meth c H locs 0 0 (MQ below (PQ g (RI R)) ([.ref (g.2.2.2 0), .int a1] : List Value).toArray s 0 0 (AW g)) (F0 m 24 ls [.int s0]) := by
    intro u2 s0 M hk H locs ls hP hS hl
    unfold wp_Main_lose_24 at hk
    obtain ⟨hu2, hk⟩ := hk
    refine lv_istore_n (lv' := [(3, .int s0), (2, .ref (g.2.2.2 (2 + u2)))]) hx hb d_Main_lose_24 rfl hl (by decide) rfl (fun ls hl => ?_)
    refine lv_aload_n hx hb d_Main_lose_25 rfl (lv_at hl 1 rfl) ?_
    refine lv_iconst (v := 0) hx hb d_Main_lose_26 (by decide) ?_
    refine pf_sh_1 (by decide) hu2 hI C hW hP hS fl_Main_235 d_Main_lose_27 (fun M1 eM1 H locs hP hS => ?_)
    have hk := hk M1 eM1
    refine lv_iload_n hx hb d_Main_lose_30 rfl (lv_at hl 0 rfl) ?_
    exact r_iret C hr hlocks hP hS hk d_Main_lose_31
  have hk := h
  refine lv_aload_n hx hb d_Main_lose_0 rfl (lv_at hl 0 rfl) ?_
  refine lv_iload_n hx hb d_Main_lose_1 rfl (lv_at hl 1 rfl) ?_
  refine r_runO (k_V (As := [.int a1]) (rest := []) C hW hP (c_Main_sheetOf hI a1 M _ hk) cb_Main_sheetOf ml_Main_71 (io_0 g M) ⟨by decide, by decide⟩ rfl hl.1 rfl (Nat.le_of_ble_eq_true rfl) d_Main_lose_2 ⟨by decide, by decide⟩) hS (fun M2 H locs hk hP hS => ?_) (fun q3 M2 H locs hq3 hk hP hS => ?_)
  · have hk := hk.1 rfl
    refine lv_astore_nN (lv' := [(2, .null), (0, .ref (g.2.2.2 0)), (1, .int a1)]) hx hb d_Main_lose_5 rfl hl (by decide) rfl (fun ls hl => ?_)
    refine lv_aload_nN hx hb d_Main_lose_6 rfl (lv_at hl 0 rfl) ?_
    refine lv_ifnonnullN hx hb d_Main_lose_7 ?_
    refine lv_iconst (v := -1) hx hb d_Main_lose_10 (by decide) ?_
    exact r_iret C hr hlocks hP hS hk d_Main_lose_11
  · have hk := hk.2 q3 rfl hq3
    refine lv_astore_n (lv' := [(2, .ref (g.2.2.2 (2 + q3))), (0, .ref (g.2.2.2 0)), (1, .int a1)]) hx hb d_Main_lose_5 rfl hl (by decide) rfl (fun ls hl => ?_)
    refine lv_aload_n hx hb d_Main_lose_6 rfl (lv_at hl 0 rfl) ?_
    refine lv_ifnonnull (tgt := 12) hx hb d_Main_lose_7 (by decide) ?_
    refine lv_aload_n hx hb d_Main_lose_12 rfl (lv_at hl 0 rfl) ?_
    refine gf_sh_1 hq3 C hW hP fl_Main_235 d_Main_lose_13 ?_
    refine lv_if_eq (tgt := 23) hx hb d_Main_lose_16 (by decide) (fun c5 => ?_) (fun c5 => ?_)
    · have hk := hk.1 c5
      refine lv_iconst (v := 0) hx hb d_Main_lose_23 (by decide) ?_
      exact J24 q3 (0 : Int32) M2 hk _ _ _ hP hS (lv_sub hl [0] rfl)
    · have hk := hk.2 c5
      refine lv_iconst (v := 1) hx hb d_Main_lose_19 (by decide) ?_
      refine lv_goto (tgt := 24) hx hb d_Main_lose_20 (by decide) ?_
      exact J24 q3 (1 : Int32) M2 hk _ _ _ hP hS (lv_sub hl [0] rfl)
theorem d_Sheet_cut_0 : decode b_Sheet_cut 0 = .ok (.aload_n 0, 1) := by decide +kernel
theorem d_Sheet_cut_1 : decode b_Sheet_cut 1 = .ok (.getfield 19, 3) := by decide +kernel
theorem d_Sheet_cut_4 : decode b_Sheet_cut 4 = .ok (.lookupswitch 34 #[(0, 28), (1, 31)], 28) := by decide +kernel
theorem d_Sheet_cut_32 : decode b_Sheet_cut 32 = .ok (.iload_n 1, 1) := by decide +kernel
theorem d_Sheet_cut_33 : decode b_Sheet_cut 33 = .ok (.i2b, 1) := by decide +kernel
theorem d_Sheet_cut_34 : decode b_Sheet_cut 34 = .ok (.ireturn, 1) := by decide +kernel
theorem d_Sheet_cut_35 : decode b_Sheet_cut 35 = .ok (.iload_n 1, 1) := by decide +kernel
theorem d_Sheet_cut_36 : decode b_Sheet_cut 36 = .ok (.i2s, 1) := by decide +kernel
theorem d_Sheet_cut_37 : decode b_Sheet_cut 37 = .ok (.ireturn, 1) := by decide +kernel
theorem d_Sheet_cut_38 : decode b_Sheet_cut 38 = .ok (.iload_n 1, 1) := by decide +kernel
theorem d_Sheet_cut_39 : decode b_Sheet_cut 39 = .ok (.ireturn, 1) := by decide +kernel
set_option maxRecDepth 20000 in
theorem c_Sheet_cut {l : Launch} {g : GG} {q0 : Nat} (hq0 : q0 < 4) (hI : WI g) (a1 : Int32) (M : Mem) (R : Int32 → Mem → Prop) (h : wp_Sheet_cut q0 a1 M R) : Met l y_Sheet_cut (wm y_Sheet_cut b_Sheet_cut 2 (some .int)) (RM 0 0) (PP g M [.ref (g.2.2.2 (2 + q0)), .int a1]) (PQ g (RI R)) 0 0 (AW g) := by
  refine m_of (own := N_Sheet) (by decide) rfl (Nat.le_of_ble_eq_true rfl) ?_
  intro p e s m below meth c ls C hr hlocks hW hP hS hl
  obtain ⟨hx, hb, hml, hown, hts⟩ := id C
  have hl : lv_has ls 2 [(0, .ref (g.2.2.2 (2 + q0))), (1, .int a1)] := hl
  unfold wp_Sheet_cut at h
  have hk := h
  refine lv_aload_n hx hb d_Sheet_cut_0 rfl (lv_at hl 0 rfl) ?_
  refine gf_sh_2 hq0 C hW hP fl_Sheet_19 d_Sheet_cut_1 ?_
  by_cases c1 : (M (2 + q0) 2) = (0 : Int32)
  · have hk := hk.1 c1
    refine lv_lookup (tgt := 32) hx hb d_Sheet_cut_4 (by decide) (by rw [c1] <;> rfl) (by decide) ?_
    refine lv_iload_n hx hb d_Sheet_cut_32 rfl (lv_at hl 1 rfl) ?_
    refine lv_i2b hx hb d_Sheet_cut_33 rfl ?_
    exact r_iret C hr hlocks hP hS hk d_Sheet_cut_34
  · have hk := hk.2 c1
    by_cases c2 : (M (2 + q0) 2) = (1 : Int32)
    · have hk := hk.1 c2
      refine lv_lookup (tgt := 35) hx hb d_Sheet_cut_4 (by decide) (by rw [c2] <;> rfl) (by decide) ?_
      refine lv_iload_n hx hb d_Sheet_cut_35 rfl (lv_at hl 1 rfl) ?_
      refine lv_i2s hx hb d_Sheet_cut_36 rfl ?_
      exact r_iret C hr hlocks hP hS hk d_Sheet_cut_37
    · have hk := hk.2 c2
      refine lv_lookup (tgt := 38) hx hb d_Sheet_cut_4 (by decide) (by simp [Op.lookupswitch.offset, sw_ne (k := 0) c1, sw_ne (k := 1) c2] <;> rfl) (by decide) ?_
      refine lv_iload_n hx hb d_Sheet_cut_38 rfl (lv_at hl 1 rfl) ?_
      exact r_iret C hr hlocks hP hS hk d_Sheet_cut_39
theorem d_Main_put_0 : decode b_Main_put 0 = .ok (.aload_n 0, 1) := by decide +kernel
theorem d_Main_put_1 : decode b_Main_put 1 = .ok (.iconst 0, 1) := by decide +kernel
theorem d_Main_put_2 : decode b_Main_put 2 = .ok (.putfield 68, 3) := by decide +kernel
theorem d_Main_put_5 : decode b_Main_put 5 = .ok (.aload_n 0, 1) := by decide +kernel
theorem d_Main_put_6 : decode b_Main_put 6 = .ok (.iload_n 1, 1) := by decide +kernel
theorem d_Main_put_7 : decode b_Main_put 7 = .ok (.invokevirtual 71, 3) := by decide +kernel
theorem d_Main_put_10 : decode b_Main_put 10 = .ok (.astore 4, 2) := by decide +kernel
theorem d_Main_put_12 : decode b_Main_put 12 = .ok (.aload 4, 2) := by decide +kernel
theorem d_Main_put_14 : decode b_Main_put 14 = .ok (.ifnonnull 5, 3) := by decide +kernel
theorem d_Main_put_17 : decode b_Main_put 17 = .ok (.iconst (-1), 1) := by decide +kernel
theorem d_Main_put_18 : decode b_Main_put 18 = .ok (.ireturn, 1) := by decide +kernel
theorem d_Main_put_19 : decode b_Main_put 19 = .ok (.aload 4, 2) := by decide +kernel
theorem d_Main_put_21 : decode b_Main_put 21 = .ok (.getfield 235, 3) := by decide +kernel
theorem d_Main_put_24 : decode b_Main_put 24 = .ok (.ifCond .ne 9, 3) := by decide +kernel
theorem d_Main_put_27 : decode b_Main_put 27 = .ok (.aload_n 0, 1) := by decide +kernel
theorem d_Main_put_28 : decode b_Main_put 28 = .ok (.iconst 1, 1) := by decide +kernel
theorem d_Main_put_29 : decode b_Main_put 29 = .ok (.invokevirtual 83, 3) := by decide +kernel
theorem d_Main_put_32 : decode b_Main_put 32 = .ok (.ireturn, 1) := by decide +kernel
theorem d_Main_put_33 : decode b_Main_put 33 = .ok (.iload_n 2, 1) := by decide +kernel
theorem d_Main_put_34 : decode b_Main_put 34 = .ok (.aload 4, 2) := by decide +kernel
theorem d_Main_put_36 : decode b_Main_put 36 = .ok (.getfield 239, 3) := by decide +kernel
theorem d_Main_put_39 : decode b_Main_put 39 = .ok (.invokestatic 75, 3) := by decide +kernel
theorem d_Main_put_42 : decode b_Main_put 42 = .ok (.ifCond .ne 9, 3) := by decide +kernel
theorem d_Main_put_45 : decode b_Main_put 45 = .ok (.aload_n 0, 1) := by decide +kernel
theorem d_Main_put_46 : decode b_Main_put 46 = .ok (.iconst 3, 1) := by decide +kernel
theorem d_Main_put_47 : decode b_Main_put 47 = .ok (.invokevirtual 83, 3) := by decide +kernel
theorem d_Main_put_50 : decode b_Main_put 50 = .ok (.ireturn, 1) := by decide +kernel
theorem d_Main_put_51 : decode b_Main_put 51 = .ok (.aload 4, 2) := by decide +kernel
theorem d_Main_put_53 : decode b_Main_put 53 = .ok (.getfield 142, 3) := by decide +kernel
theorem d_Main_put_56 : decode b_Main_put 56 = .ok (.iload_n 2, 1) := by decide +kernel
theorem d_Main_put_57 : decode b_Main_put 57 = .ok (.aload 4, 2) := by decide +kernel
theorem d_Main_put_59 : decode b_Main_put 59 = .ok (.iload_n 3, 1) := by decide +kernel
theorem d_Main_put_60 : decode b_Main_put 60 = .ok (.invokevirtual 242, 3) := by decide +kernel
theorem d_Main_put_63 : decode b_Main_put 63 = .ok (.iastore, 1) := by decide +kernel
theorem d_Main_put_64 : decode b_Main_put 64 = .ok (.iconst 1, 1) := by decide +kernel
theorem d_Main_put_65 : decode b_Main_put 65 = .ok (.ireturn, 1) := by decide +kernel
set_option maxRecDepth 20000 in
theorem c_Main_put {l : Launch} {g : GG} (hI : WI g) (a1 : Int32) (a2 : Int32) (a3 : Int32) (M : Mem) (R : Int32 → Mem → Prop) (h : wp_Main_put a1 a2 a3 M R) : Met l y_Main_put (wm y_Main_put b_Main_put 5 (some .int)) (RM 2 42) (PP g M [.ref (g.2.2.2 0), .int a1, .int a2, .int a3]) (PQ g (RI R)) 0 0 (AW g) := by
  refine m_of (own := N_Main) (by decide) rfl (Nat.le_of_ble_eq_true rfl) ?_
  intro p e s m below meth c ls C hr hlocks hW hP hS hl
  obtain ⟨hx, hb, hml, hown, hts⟩ := id C
  have hl : lv_has ls 5 [(0, .ref (g.2.2.2 0)), (1, .int a1), (2, .int a2), (3, .int a3)] := hl
  unfold wp_Main_put at h
  have hk := h
  refine lv_aload_n hx hb d_Main_put_0 rfl (lv_at hl 0 rfl) ?_
  refine lv_iconst (v := 0) hx hb d_Main_put_1 (by decide) ?_
  refine pf_0_8 hI C hW hP hS fl_Main_68 d_Main_put_2 (fun M1 eM1 H locs hP hS => ?_)
  have hk := hk M1 eM1
  refine lv_aload_n hx hb d_Main_put_5 rfl (lv_at hl 0 rfl) ?_
  refine lv_iload_n hx hb d_Main_put_6 rfl (lv_at hl 1 rfl) ?_
  refine r_runO (k_V (As := [.int a1]) (rest := []) C hW hP (c_Main_sheetOf hI a1 M1 _ hk) cb_Main_sheetOf ml_Main_71 (io_0 g M1) ⟨by decide, by decide⟩ rfl hl.1 rfl (Nat.le_of_ble_eq_true rfl) d_Main_put_7 ⟨by decide, by decide⟩) hS (fun M2 H locs hk hP hS => ?_) (fun q3 M2 H locs hq3 hk hP hS => ?_)
  · have hk := hk.1 rfl
    refine lv_astoreN (lv' := [(4, .null), (0, .ref (g.2.2.2 0)), (1, .int a1), (2, .int a2), (3, .int a3)]) hx hb d_Main_put_10 hl (by decide) rfl (fun ls hl => ?_)
    refine lv_aloadN hx hb d_Main_put_12 (lv_at hl 0 rfl) ?_
    refine lv_ifnonnullN hx hb d_Main_put_14 ?_
    refine lv_iconst (v := -1) hx hb d_Main_put_17 (by decide) ?_
    exact r_iret C hr hlocks hP hS hk d_Main_put_18
  · have hk := hk.2 q3 rfl hq3
    refine lv_astore (lv' := [(4, .ref (g.2.2.2 (2 + q3))), (0, .ref (g.2.2.2 0)), (1, .int a1), (2, .int a2), (3, .int a3)]) hx hb d_Main_put_10 hl (by decide) rfl (fun ls hl => ?_)
    refine lv_aload hx hb d_Main_put_12 (lv_at hl 0 rfl) ?_
    refine lv_ifnonnull (tgt := 19) hx hb d_Main_put_14 (by decide) ?_
    refine lv_aload hx hb d_Main_put_19 (lv_at hl 0 rfl) ?_
    refine gf_sh_1 hq3 C hW hP fl_Main_235 d_Main_put_21 ?_
    refine lv_if_ne (tgt := 33) hx hb d_Main_put_24 (by decide) (fun c5 => ?_) (fun c5 => ?_)
    · have hk := hk.1 c5
      refine lv_iload_n hx hb d_Main_put_33 rfl (lv_at hl 3 rfl) ?_
      refine lv_aload hx hb d_Main_put_34 (lv_at hl 0 rfl) ?_
      refine gf_sh_3 hq3 C hW hP fl_Main_239 d_Main_put_36 ?_
      refine r_runZ (k_S (As := [.int a2, .int (M2 (2 + q3) 3)]) (rest := []) C hW hP (c_Main_isBelow hI a2 (M2 (2 + q3) 3) M2 _ hk) cb_Main_isBelow ml_Main_75 ⟨by decide, by decide⟩ rfl hl.1 rfl (Nat.le_of_ble_eq_true rfl) d_Main_put_39 ⟨by decide, by decide⟩) hS (fun r7 M6 H locs zr7 hk hP hS => ?_)
      refine lv_if_ne (tgt := 51) hx hb d_Main_put_42 (by decide) (fun c8 => ?_) (fun c8 => ?_)
      · have hk := hk.1 c8
        refine lv_aload hx hb d_Main_put_51 (lv_at hl 0 rfl) ?_
        refine gf_sh_0 hq3 C hW hP fl_Main_142 d_Main_put_53 ?_
        refine lv_iload_n hx hb d_Main_put_56 rfl (lv_at hl 3 rfl) ?_
        refine lv_aload hx hb d_Main_put_57 (lv_at hl 0 rfl) ?_
        refine lv_iload_n hx hb d_Main_put_59 rfl (lv_at hl 4 rfl) ?_
        refine r_runI (k_V (As := [.int a3]) (rest := [.int a2, .ref (g.2.2.2 (6 + q3))]) C hW hP (c_Sheet_cut hq3 hI a3 M6 _ hk) cb_Sheet_cut ml_Main_242 (io_sh q3 hq3 M6) ⟨by decide, by decide⟩ rfl hl.1 rfl (Nat.le_of_ble_eq_true rfl) d_Main_put_60 ⟨by decide, by decide⟩) hS (fun r10 M9 H locs hk hP hS => ?_)
        obtain ⟨h11, hk⟩ := hk
        refine as_sh hq3 hI C hW hP hS h11 d_Main_put_63 (fun M12 eM12 H locs hP hS => ?_)
        have hk := hk M12 eM12
        refine lv_iconst (v := 1) hx hb d_Main_put_64 (by decide) ?_
        exact r_iret C hr hlocks hP hS hk d_Main_put_65
      · have hk := hk.2 c8
        refine lv_aload_n hx hb d_Main_put_45 rfl (lv_at hl 1 rfl) ?_
        refine lv_iconst (v := 3) hx hb d_Main_put_46 (by decide) ?_
        refine r_runI (k_V (As := [.int (3 : Int32)]) (rest := []) C hW hP (c_Main_failed hI (3 : Int32) M6 _ hk) cb_Main_failed ml_Main_83 (io_0 g M6) ⟨by decide, by decide⟩ rfl hl.1 rfl (Nat.le_of_ble_eq_true rfl) d_Main_put_47 ⟨by decide, by decide⟩) hS (fun r14 M13 H locs hk hP hS => ?_)
        exact r_iret C hr hlocks hP hS hk d_Main_put_50
    · have hk := hk.2 c5
      refine lv_aload_n hx hb d_Main_put_27 rfl (lv_at hl 1 rfl) ?_
      refine lv_iconst (v := 1) hx hb d_Main_put_28 (by decide) ?_
      refine r_runI (k_V (As := [.int (1 : Int32)]) (rest := []) C hW hP (c_Main_failed hI (1 : Int32) M2 _ hk) cb_Main_failed ml_Main_83 (io_0 g M2) ⟨by decide, by decide⟩ rfl hl.1 rfl (Nat.le_of_ble_eq_true rfl) d_Main_put_29 ⟨by decide, by decide⟩) hS (fun r16 M15 H locs hk hP hS => ?_)
      exact r_iret C hr hlocks hP hS hk d_Main_put_32
theorem d_Main_cell_0 : decode b_Main_cell 0 = .ok (.aload_n 0, 1) := by decide +kernel
theorem d_Main_cell_1 : decode b_Main_cell 1 = .ok (.iconst 0, 1) := by decide +kernel
theorem d_Main_cell_2 : decode b_Main_cell 2 = .ok (.putfield 68, 3) := by decide +kernel
theorem d_Main_cell_5 : decode b_Main_cell 5 = .ok (.aload_n 0, 1) := by decide +kernel
theorem d_Main_cell_6 : decode b_Main_cell 6 = .ok (.iload_n 1, 1) := by decide +kernel
theorem d_Main_cell_7 : decode b_Main_cell 7 = .ok (.invokevirtual 71, 3) := by decide +kernel
theorem d_Main_cell_10 : decode b_Main_cell 10 = .ok (.astore 4, 2) := by decide +kernel
theorem d_Main_cell_12 : decode b_Main_cell 12 = .ok (.aload 4, 2) := by decide +kernel
theorem d_Main_cell_14 : decode b_Main_cell 14 = .ok (.ifnull 11, 3) := by decide +kernel
theorem d_Main_cell_17 : decode b_Main_cell 17 = .ok (.iload_n 3, 1) := by decide +kernel
theorem d_Main_cell_18 : decode b_Main_cell 18 = .ok (.iconst 3, 1) := by decide +kernel
theorem d_Main_cell_19 : decode b_Main_cell 19 = .ok (.invokestatic 75, 3) := by decide +kernel
theorem d_Main_cell_22 : decode b_Main_cell 22 = .ok (.ifCond .ne 7, 3) := by decide +kernel
theorem d_Main_cell_25 : decode b_Main_cell 25 = .ok (.ldc2_w 217, 3) := by decide +kernel
theorem d_Main_cell_28 : decode b_Main_cell 28 = .ok (.lreturn, 1) := by decide +kernel
theorem d_Main_cell_29 : decode b_Main_cell 29 = .ok (.aload_n 0, 1) := by decide +kernel
theorem d_Main_cell_30 : decode b_Main_cell 30 = .ok (.aload 4, 2) := by decide +kernel
theorem d_Main_cell_32 : decode b_Main_cell 32 = .ok (.iload_n 3, 1) := by decide +kernel
theorem d_Main_cell_33 : decode b_Main_cell 33 = .ok (.iload_n 2, 1) := by decide +kernel
theorem d_Main_cell_34 : decode b_Main_cell 34 = .ok (.iconst 1, 1) := by decide +kernel
theorem d_Main_cell_35 : decode b_Main_cell 35 = .ok (.invokevirtual 79, 3) := by decide +kernel
theorem d_Main_cell_38 : decode b_Main_cell 38 = .ok (.putfield 68, 3) := by decide +kernel
theorem d_Main_cell_41 : decode b_Main_cell 41 = .ok (.aload_n 0, 1) := by decide +kernel
theorem d_Main_cell_42 : decode b_Main_cell 42 = .ok (.getfield 68, 3) := by decide +kernel
theorem d_Main_cell_45 : decode b_Main_cell 45 = .ok (.ifCond .ne 14, 3) := by decide +kernel
theorem d_Main_cell_48 : decode b_Main_cell 48 = .ok (.aload 4, 2) := by decide +kernel
theorem d_Main_cell_50 : decode b_Main_cell 50 = .ok (.getfield 142, 3) := by decide +kernel
theorem d_Main_cell_53 : decode b_Main_cell 53 = .ok (.iload_n 2, 1) := by decide +kernel
theorem d_Main_cell_54 : decode b_Main_cell 54 = .ok (.iaload, 1) := by decide +kernel
theorem d_Main_cell_55 : decode b_Main_cell 55 = .ok (.i2l, 1) := by decide +kernel
theorem d_Main_cell_56 : decode b_Main_cell 56 = .ok (.goto 6, 3) := by decide +kernel
theorem d_Main_cell_59 : decode b_Main_cell 59 = .ok (.ldc2_w 217, 3) := by decide +kernel
theorem d_Main_cell_62 : decode b_Main_cell 62 = .ok (.lreturn, 1) := by decide +kernel
set_option maxRecDepth 20000 in
theorem c_Main_cell {l : Launch} {g : GG} (hI : WI g) (a1 : Int32) (a2 : Int32) (a3 : Int32) (M : Mem) (R : Int64 → Mem → Prop) (h : wp_Main_cell a1 a2 a3 M R) : Met l y_Main_cell (wm y_Main_cell b_Main_cell 5 (some .long)) (RM 2 45) (PP g M [.ref (g.2.2.2 0), .int a1, .int a2, .int a3]) (PQ g (RL R)) 0 0 (AW g) := by
  refine m_of (own := N_Main) (by decide) rfl (Nat.le_of_ble_eq_true rfl) ?_
  intro p e s m below meth c ls C hr hlocks hW hP hS hl
  obtain ⟨hx, hb, hml, hown, hts⟩ := id C
  have hl : lv_has ls 5 [(0, .ref (g.2.2.2 0)), (1, .int a1), (2, .int a2), (3, .int a3)] := hl
  unfold wp_Main_cell at h
  have hk := h
  refine lv_aload_n hx hb d_Main_cell_0 rfl (lv_at hl 0 rfl) ?_
  refine lv_iconst (v := 0) hx hb d_Main_cell_1 (by decide) ?_
  refine pf_0_8 hI C hW hP hS fl_Main_68 d_Main_cell_2 (fun M1 eM1 H locs hP hS => ?_)
  have hk := hk M1 eM1
  refine lv_aload_n hx hb d_Main_cell_5 rfl (lv_at hl 0 rfl) ?_
  refine lv_iload_n hx hb d_Main_cell_6 rfl (lv_at hl 1 rfl) ?_
  refine r_runO (k_V (As := [.int a1]) (rest := []) C hW hP (c_Main_sheetOf hI a1 M1 _ hk) cb_Main_sheetOf ml_Main_71 (io_0 g M1) ⟨by decide, by decide⟩ rfl hl.1 rfl (Nat.le_of_ble_eq_true rfl) d_Main_cell_7 ⟨by decide, by decide⟩) hS (fun M2 H locs hk hP hS => ?_) (fun q3 M2 H locs hq3 hk hP hS => ?_)
  · have hk := hk.1 rfl
    refine lv_astoreN (lv' := [(4, .null), (0, .ref (g.2.2.2 0)), (1, .int a1), (2, .int a2), (3, .int a3)]) hx hb d_Main_cell_10 hl (by decide) rfl (fun ls hl => ?_)
    refine lv_aloadN hx hb d_Main_cell_12 (lv_at hl 0 rfl) ?_
    refine lv_ifnullN (tgt := 25) hx hb d_Main_cell_14 (by decide) ?_
    refine lv_ldc2 (v := -9223372036854775808) hx hb hown (C.2.2.2.2 _ kc_Main_217) d_Main_cell_25 ?_
    exact r_lret C hr hlocks hP hS hk d_Main_cell_28
  · have hk := hk.2 q3 rfl hq3
    refine lv_astore (lv' := [(4, .ref (g.2.2.2 (2 + q3))), (0, .ref (g.2.2.2 0)), (1, .int a1), (2, .int a2), (3, .int a3)]) hx hb d_Main_cell_10 hl (by decide) rfl (fun ls hl => ?_)
    refine lv_aload hx hb d_Main_cell_12 (lv_at hl 0 rfl) ?_
    refine lv_ifnull hx hb d_Main_cell_14 ?_
    refine lv_iload_n hx hb d_Main_cell_17 rfl (lv_at hl 4 rfl) ?_
    refine lv_iconst (v := 3) hx hb d_Main_cell_18 (by decide) ?_
    refine r_runZ (k_S (As := [.int a3, .int (3 : Int32)]) (rest := []) C hW hP (c_Main_isBelow hI a3 (3 : Int32) M2 _ hk) cb_Main_isBelow ml_Main_75 ⟨by decide, by decide⟩ rfl hl.1 rfl (Nat.le_of_ble_eq_true rfl) d_Main_cell_19 ⟨by decide, by decide⟩) hS (fun r6 M5 H locs zr6 hk hP hS => ?_)
    refine lv_if_ne (tgt := 29) hx hb d_Main_cell_22 (by decide) (fun c7 => ?_) (fun c7 => ?_)
    · have hk := hk.1 c7
      refine lv_aload_n hx hb d_Main_cell_29 rfl (lv_at hl 1 rfl) ?_
      refine lv_aload hx hb d_Main_cell_30 (lv_at hl 0 rfl) ?_
      refine lv_iload_n hx hb d_Main_cell_32 rfl (lv_at hl 4 rfl) ?_
      refine lv_iload_n hx hb d_Main_cell_33 rfl (lv_at hl 3 rfl) ?_
      refine lv_iconst (v := 1) hx hb d_Main_cell_34 (by decide) ?_
      refine r_runI (k_V (As := [.int a3, .int a2, .int (1 : Int32)]) (rest := [.ref (g.2.2.2 0)]) C hW hP (c_Sheet_faultOfTaking hq3 hI a3 a2 (1 : Int32) M5 _ hk) cb_Sheet_faultOfTaking ml_Main_79 (io_sh q3 hq3 M5) ⟨by decide, by decide⟩ rfl hl.1 rfl (Nat.le_of_ble_eq_true rfl) d_Main_cell_35 ⟨by decide, by decide⟩) hS (fun r9 M8 H locs hk hP hS => ?_)
      refine pf_0_8 hI C hW hP hS fl_Main_68 d_Main_cell_38 (fun M10 eM10 H locs hP hS => ?_)
      have hk := hk M10 eM10
      refine lv_aload_n hx hb d_Main_cell_41 rfl (lv_at hl 1 rfl) ?_
      refine gf_0_8 C hW hP fl_Main_68 d_Main_cell_42 ?_
      refine lv_if_ne (tgt := 59) hx hb d_Main_cell_45 (by decide) (fun c11 => ?_) (fun c11 => ?_)
      · have hk := hk.1 c11
        refine lv_ldc2 (v := -9223372036854775808) hx hb hown (C.2.2.2.2 _ kc_Main_217) d_Main_cell_59 ?_
        exact r_lret C hr hlocks hP hS hk d_Main_cell_62
      · have hk := hk.2 c11
        refine lv_aload hx hb d_Main_cell_48 (lv_at hl 0 rfl) ?_
        refine gf_sh_0 hq3 C hW hP fl_Main_142 d_Main_cell_50 ?_
        refine lv_iload_n hx hb d_Main_cell_53 rfl (lv_at hl 3 rfl) ?_
        obtain ⟨h12, hk⟩ := hk
        refine al_sh hq3 C hW hP h12 d_Main_cell_54 ?_
        refine lv_i2l hx hb d_Main_cell_55 rfl ?_
        refine lv_goto (tgt := 62) hx hb d_Main_cell_56 (by decide) ?_
        exact r_lret C hr hlocks hP hS hk d_Main_cell_62
    · have hk := hk.2 c7
      refine lv_ldc2 (v := -9223372036854775808) hx hb hown (C.2.2.2.2 _ kc_Main_217) d_Main_cell_25 ?_
      exact r_lret C hr hlocks hP hS hk d_Main_cell_28
theorem d_Main_copy_0 : decode b_Main_copy 0 = .ok (.aload_n 0, 1) := by decide +kernel
theorem d_Main_copy_1 : decode b_Main_copy 1 = .ok (.iconst 0, 1) := by decide +kernel
theorem d_Main_copy_2 : decode b_Main_copy 2 = .ok (.putfield 68, 3) := by decide +kernel
theorem d_Main_copy_5 : decode b_Main_copy 5 = .ok (.aload_n 0, 1) := by decide +kernel
theorem d_Main_copy_6 : decode b_Main_copy 6 = .ok (.iload_n 1, 1) := by decide +kernel
theorem d_Main_copy_7 : decode b_Main_copy 7 = .ok (.invokevirtual 71, 3) := by decide +kernel
theorem d_Main_copy_10 : decode b_Main_copy 10 = .ok (.astore 6, 2) := by decide +kernel
theorem d_Main_copy_12 : decode b_Main_copy 12 = .ok (.aload_n 0, 1) := by decide +kernel
theorem d_Main_copy_13 : decode b_Main_copy 13 = .ok (.iload_n 3, 1) := by decide +kernel
theorem d_Main_copy_14 : decode b_Main_copy 14 = .ok (.invokevirtual 71, 3) := by decide +kernel
theorem d_Main_copy_17 : decode b_Main_copy 17 = .ok (.astore 7, 2) := by decide +kernel
theorem d_Main_copy_19 : decode b_Main_copy 19 = .ok (.aload 6, 2) := by decide +kernel
theorem d_Main_copy_21 : decode b_Main_copy 21 = .ok (.ifnull 8, 3) := by decide +kernel
theorem d_Main_copy_24 : decode b_Main_copy 24 = .ok (.aload 7, 2) := by decide +kernel
theorem d_Main_copy_26 : decode b_Main_copy 26 = .ok (.ifnonnull 5, 3) := by decide +kernel
theorem d_Main_copy_29 : decode b_Main_copy 29 = .ok (.iconst (-1), 1) := by decide +kernel
theorem d_Main_copy_30 : decode b_Main_copy 30 = .ok (.ireturn, 1) := by decide +kernel
theorem d_Main_copy_31 : decode b_Main_copy 31 = .ok (.aload 6, 2) := by decide +kernel
theorem d_Main_copy_33 : decode b_Main_copy 33 = .ok (.getfield 235, 3) := by decide +kernel
theorem d_Main_copy_36 : decode b_Main_copy 36 = .ok (.ifCond .eq 11, 3) := by decide +kernel
theorem d_Main_copy_39 : decode b_Main_copy 39 = .ok (.aload 7, 2) := by decide +kernel
theorem d_Main_copy_41 : decode b_Main_copy 41 = .ok (.getfield 235, 3) := by decide +kernel
theorem d_Main_copy_44 : decode b_Main_copy 44 = .ok (.ifCond .ne 9, 3) := by decide +kernel
theorem d_Main_copy_47 : decode b_Main_copy 47 = .ok (.aload_n 0, 1) := by decide +kernel
theorem d_Main_copy_48 : decode b_Main_copy 48 = .ok (.iconst 1, 1) := by decide +kernel
theorem d_Main_copy_49 : decode b_Main_copy 49 = .ok (.invokevirtual 83, 3) := by decide +kernel
theorem d_Main_copy_52 : decode b_Main_copy 52 = .ok (.ireturn, 1) := by decide +kernel
theorem d_Main_copy_53 : decode b_Main_copy 53 = .ok (.aload 6, 2) := by decide +kernel
theorem d_Main_copy_55 : decode b_Main_copy 55 = .ok (.getfield 245, 3) := by decide +kernel
theorem d_Main_copy_58 : decode b_Main_copy 58 = .ok (.aload 7, 2) := by decide +kernel
theorem d_Main_copy_60 : decode b_Main_copy 60 = .ok (.getfield 245, 3) := by decide +kernel
theorem d_Main_copy_63 : decode b_Main_copy 63 = .ok (.if_icmp .eq 9, 3) := by decide +kernel
theorem d_Main_copy_66 : decode b_Main_copy 66 = .ok (.aload_n 0, 1) := by decide +kernel
theorem d_Main_copy_67 : decode b_Main_copy 67 = .ok (.iconst 2, 1) := by decide +kernel
theorem d_Main_copy_68 : decode b_Main_copy 68 = .ok (.invokevirtual 83, 3) := by decide +kernel
theorem d_Main_copy_71 : decode b_Main_copy 71 = .ok (.ireturn, 1) := by decide +kernel
theorem d_Main_copy_72 : decode b_Main_copy 72 = .ok (.aload 6, 2) := by decide +kernel
theorem d_Main_copy_74 : decode b_Main_copy 74 = .ok (.iload_n 2, 1) := by decide +kernel
theorem d_Main_copy_75 : decode b_Main_copy 75 = .ok (.iload 5, 2) := by decide +kernel
theorem d_Main_copy_77 : decode b_Main_copy 77 = .ok (.invokevirtual 248, 3) := by decide +kernel
theorem d_Main_copy_80 : decode b_Main_copy 80 = .ok (.ifCond .eq 15, 3) := by decide +kernel
theorem d_Main_copy_83 : decode b_Main_copy 83 = .ok (.aload 7, 2) := by decide +kernel
theorem d_Main_copy_85 : decode b_Main_copy 85 = .ok (.iload 4, 2) := by decide +kernel
theorem d_Main_copy_87 : decode b_Main_copy 87 = .ok (.iload 5, 2) := by decide +kernel
theorem d_Main_copy_89 : decode b_Main_copy 89 = .ok (.invokevirtual 248, 3) := by decide +kernel
theorem d_Main_copy_92 : decode b_Main_copy 92 = .ok (.ifCond .ne 9, 3) := by decide +kernel
theorem d_Main_copy_95 : decode b_Main_copy 95 = .ok (.aload_n 0, 1) := by decide +kernel
theorem d_Main_copy_96 : decode b_Main_copy 96 = .ok (.iconst 3, 1) := by decide +kernel
theorem d_Main_copy_97 : decode b_Main_copy 97 = .ok (.invokevirtual 83, 3) := by decide +kernel
theorem d_Main_copy_100 : decode b_Main_copy 100 = .ok (.ireturn, 1) := by decide +kernel
theorem d_Main_copy_101 : decode b_Main_copy 101 = .ok (.aload 6, 2) := by decide +kernel
theorem d_Main_copy_103 : decode b_Main_copy 103 = .ok (.getfield 142, 3) := by decide +kernel
theorem d_Main_copy_106 : decode b_Main_copy 106 = .ok (.iload_n 2, 1) := by decide +kernel
theorem d_Main_copy_107 : decode b_Main_copy 107 = .ok (.aload 7, 2) := by decide +kernel
theorem d_Main_copy_109 : decode b_Main_copy 109 = .ok (.getfield 142, 3) := by decide +kernel
theorem d_Main_copy_112 : decode b_Main_copy 112 = .ok (.iload 4, 2) := by decide +kernel
theorem d_Main_copy_114 : decode b_Main_copy 114 = .ok (.iload 5, 2) := by decide +kernel
theorem d_Main_copy_116 : decode b_Main_copy 116 = .ok (.invokestatic 251, 3) := by decide +kernel
theorem d_Main_copy_119 : decode b_Main_copy 119 = .ok (.iload 5, 2) := by decide +kernel
theorem d_Main_copy_121 : decode b_Main_copy 121 = .ok (.ireturn, 1) := by decide +kernel
set_option maxRecDepth 20000 in
theorem c_Main_copy {l : Launch} {g : GG} (hI : WI g) (a1 : Int32) (a2 : Int32) (a3 : Int32) (a4 : Int32) (a5 : Int32) (M : Mem) (R : Int32 → Mem → Prop) (h : wp_Main_copy a1 a2 a3 a4 a5 M R) : Met l y_Main_copy (wm y_Main_copy b_Main_copy 8 (some .int)) (RM 2 42) (PP g M [.ref (g.2.2.2 0), .int a1, .int a2, .int a3, .int a4, .int a5]) (PQ g (RI R)) 0 0 (AW g) := by
  refine m_of (own := N_Main) (by decide) rfl (Nat.le_of_ble_eq_true rfl) ?_
  intro p e s m below meth c ls C hr hlocks hW hP hS hl
  obtain ⟨hx, hb, hml, hown, hts⟩ := id C
  have hl : lv_has ls 8 [(0, .ref (g.2.2.2 0)), (1, .int a1), (2, .int a2), (3, .int a3), (4, .int a4), (5, .int a5)] := hl
  unfold wp_Main_copy at h
  have J95 : ∀ (M : Mem), wp_Main_copy_95  R  M → ∀ (H : Heap) (locs : List Loc) (ls : Array Slot), WP g M H → va_S (AW g) s.heap H locs → lv_has ls 8 [(0, .ref (g.2.2.2 0))] → W p l e (RM 2 42) s m ([.ref (g.2.2.2 0), .int a1, .int a2, .int a3, .int a4, .int a5] : List Value).toArray below meth c H locs 0 0 (MQ below (PQ g (RI R)) ([.ref (g.2.2.2 0), .int a1, .int a2, .int a3, .int a4, .int a5] : List Value).toArray s 0 0 (AW g)) (F0 m 95 ls []) := by
    intro  M hk H locs ls hP hS hl
    unfold wp_Main_copy_95 at hk
    refine lv_aload_n hx hb d_Main_copy_95 rfl (lv_at hl 0 rfl) ?_
    refine lv_iconst (v := 3) hx hb d_Main_copy_96 (by decide) ?_
    refine r_runI (k_V (As := [.int (3 : Int32)]) (rest := []) C hW hP (c_Main_failed hI (3 : Int32) M _ hk) cb_Main_failed ml_Main_83 (io_0 g M) ⟨by decide, by decide⟩ rfl hl.1 rfl (Nat.le_of_ble_eq_true rfl) d_Main_copy_97 ⟨by decide, by decide⟩) hS (fun r4 M3 H locs hk hP hS => ?_)
    exact r_iret C hr hlocks hP hS hk d_Main_copy_100
  have J47 : ∀ (M : Mem), wp_Main_copy_47  R  M → ∀ (H : Heap) (locs : List Loc) (ls : Array Slot), WP g M H → va_S (AW g) s.heap H locs → lv_has ls 8 [(0, .ref (g.2.2.2 0))] → W p l e (RM 2 42) s m ([.ref (g.2.2.2 0), .int a1, .int a2, .int a3, .int a4, .int a5] : List Value).toArray below meth c H locs 0 0 (MQ below (PQ g (RI R)) ([.ref (g.2.2.2 0), .int a1, .int a2, .int a3, .int a4, .int a5] : List Value).toArray s 0 0 (AW g)) (F0 m 47 ls []) := by
    intro  M hk H locs ls hP hS hl
    unfold wp_Main_copy_47 at hk
    refine lv_aload_n hx hb d_Main_copy_47 rfl (lv_at hl 0 rfl) ?_
    refine lv_iconst (v := 1) hx hb d_Main_copy_48 (by decide) ?_
    refine r_runI (k_V (As := [.int (1 : Int32)]) (rest := []) C hW hP (c_Main_failed hI (1 : Int32) M _ hk) cb_Main_failed ml_Main_83 (io_0 g M) ⟨by decide, by decide⟩ rfl hl.1 rfl (Nat.le_of_ble_eq_true rfl) d_Main_copy_49 ⟨by decide, by decide⟩) hS (fun r2 M1 H locs hk hP hS => ?_)
    exact r_iret C hr hlocks hP hS hk d_Main_copy_52
  have hk := h
  refine lv_aload_n hx hb d_Main_copy_0 rfl (lv_at hl 0 rfl) ?_
  refine lv_iconst (v := 0) hx hb d_Main_copy_1 (by decide) ?_
  refine pf_0_8 hI C hW hP hS fl_Main_68 d_Main_copy_2 (fun M5 eM5 H locs hP hS => ?_)
  have hk := hk M5 eM5
  refine lv_aload_n hx hb d_Main_copy_5 rfl (lv_at hl 0 rfl) ?_
  refine lv_iload_n hx hb d_Main_copy_6 rfl (lv_at hl 1 rfl) ?_
  refine r_runO (k_V (As := [.int a1]) (rest := []) C hW hP (c_Main_sheetOf hI a1 M5 _ hk) cb_Main_sheetOf ml_Main_71 (io_0 g M5) ⟨by decide, by decide⟩ rfl hl.1 rfl (Nat.le_of_ble_eq_true rfl) d_Main_copy_7 ⟨by decide, by decide⟩) hS (fun M6 H locs hk hP hS => ?_) (fun q7 M6 H locs hq7 hk hP hS => ?_)
  · have hk := hk.1 rfl
    refine lv_astoreN (lv' := [(6, .null), (0, .ref (g.2.2.2 0)), (1, .int a1), (2, .int a2), (3, .int a3), (4, .int a4), (5, .int a5)]) hx hb d_Main_copy_10 hl (by decide) rfl (fun ls hl => ?_)
    refine lv_aload_n hx hb d_Main_copy_12 rfl (lv_at hl 1 rfl) ?_
    refine lv_iload_n hx hb d_Main_copy_13 rfl (lv_at hl 4 rfl) ?_
    refine r_runO (k_V (As := [.int a3]) (rest := []) C hW hP (c_Main_sheetOf hI a3 M6 _ hk) cb_Main_sheetOf ml_Main_71 (io_0 g M6) ⟨by decide, by decide⟩ rfl hl.1 rfl (Nat.le_of_ble_eq_true rfl) d_Main_copy_14 ⟨by decide, by decide⟩) hS (fun M9 H locs hk hP hS => ?_) (fun q10 M9 H locs hq10 hk hP hS => ?_)
    · have hk := hk.1 rfl
      refine lv_astoreN (lv' := [(7, .null), (6, .null), (0, .ref (g.2.2.2 0)), (1, .int a1), (2, .int a2), (3, .int a3), (4, .int a4), (5, .int a5)]) hx hb d_Main_copy_17 hl (by decide) rfl (fun ls hl => ?_)
      refine lv_aloadN hx hb d_Main_copy_19 (lv_at hl 1 rfl) ?_
      refine lv_ifnullN (tgt := 29) hx hb d_Main_copy_21 (by decide) ?_
      refine lv_iconst (v := -1) hx hb d_Main_copy_29 (by decide) ?_
      exact r_iret C hr hlocks hP hS hk d_Main_copy_30
    · have hk := hk.2 q10 rfl hq10
      refine lv_astore (lv' := [(7, .ref (g.2.2.2 (2 + q10))), (6, .null), (0, .ref (g.2.2.2 0)), (1, .int a1), (2, .int a2), (3, .int a3), (4, .int a4), (5, .int a5)]) hx hb d_Main_copy_17 hl (by decide) rfl (fun ls hl => ?_)
      refine lv_aloadN hx hb d_Main_copy_19 (lv_at hl 1 rfl) ?_
      refine lv_ifnullN (tgt := 29) hx hb d_Main_copy_21 (by decide) ?_
      refine lv_iconst (v := -1) hx hb d_Main_copy_29 (by decide) ?_
      exact r_iret C hr hlocks hP hS hk d_Main_copy_30
  · have hk := hk.2 q7 rfl hq7
    refine lv_astore (lv' := [(6, .ref (g.2.2.2 (2 + q7))), (0, .ref (g.2.2.2 0)), (1, .int a1), (2, .int a2), (3, .int a3), (4, .int a4), (5, .int a5)]) hx hb d_Main_copy_10 hl (by decide) rfl (fun ls hl => ?_)
    refine lv_aload_n hx hb d_Main_copy_12 rfl (lv_at hl 1 rfl) ?_
    refine lv_iload_n hx hb d_Main_copy_13 rfl (lv_at hl 4 rfl) ?_
    refine r_runO (k_V (As := [.int a3]) (rest := []) C hW hP (c_Main_sheetOf hI a3 M6 _ hk) cb_Main_sheetOf ml_Main_71 (io_0 g M6) ⟨by decide, by decide⟩ rfl hl.1 rfl (Nat.le_of_ble_eq_true rfl) d_Main_copy_14 ⟨by decide, by decide⟩) hS (fun M12 H locs hk hP hS => ?_) (fun q13 M12 H locs hq13 hk hP hS => ?_)
    · have hk := hk.1 rfl
      refine lv_astoreN (lv' := [(7, .null), (6, .ref (g.2.2.2 (2 + q7))), (0, .ref (g.2.2.2 0)), (1, .int a1), (2, .int a2), (3, .int a3), (4, .int a4), (5, .int a5)]) hx hb d_Main_copy_17 hl (by decide) rfl (fun ls hl => ?_)
      refine lv_aload hx hb d_Main_copy_19 (lv_at hl 1 rfl) ?_
      refine lv_ifnull hx hb d_Main_copy_21 ?_
      refine lv_aloadN hx hb d_Main_copy_24 (lv_at hl 0 rfl) ?_
      refine lv_ifnonnullN hx hb d_Main_copy_26 ?_
      refine lv_iconst (v := -1) hx hb d_Main_copy_29 (by decide) ?_
      exact r_iret C hr hlocks hP hS hk d_Main_copy_30
    · have hk := hk.2 q13 rfl hq13
      refine lv_astore (lv' := [(7, .ref (g.2.2.2 (2 + q13))), (6, .ref (g.2.2.2 (2 + q7))), (0, .ref (g.2.2.2 0)), (1, .int a1), (2, .int a2), (3, .int a3), (4, .int a4), (5, .int a5)]) hx hb d_Main_copy_17 hl (by decide) rfl (fun ls hl => ?_)
      refine lv_aload hx hb d_Main_copy_19 (lv_at hl 1 rfl) ?_
      refine lv_ifnull hx hb d_Main_copy_21 ?_
      refine lv_aload hx hb d_Main_copy_24 (lv_at hl 0 rfl) ?_
      refine lv_ifnonnull (tgt := 31) hx hb d_Main_copy_26 (by decide) ?_
      refine lv_aload hx hb d_Main_copy_31 (lv_at hl 1 rfl) ?_
      refine gf_sh_1 hq7 C hW hP fl_Main_235 d_Main_copy_33 ?_
      refine lv_if_eq (tgt := 47) hx hb d_Main_copy_36 (by decide) (fun c15 => ?_) (fun c15 => ?_)
      · have hk := hk.1 c15
        exact J47 M12 hk _ _ _ hP hS (lv_sub hl [2] rfl)
      · have hk := hk.2 c15
        refine lv_aload hx hb d_Main_copy_39 (lv_at hl 0 rfl) ?_
        refine gf_sh_1 hq13 C hW hP fl_Main_235 d_Main_copy_41 ?_
        refine lv_if_ne (tgt := 53) hx hb d_Main_copy_44 (by decide) (fun c16 => ?_) (fun c16 => ?_)
        · have hk := hk.1 c16
          refine lv_aload hx hb d_Main_copy_53 (lv_at hl 1 rfl) ?_
          refine gf_sh_2 hq7 C hW hP fl_Main_245 d_Main_copy_55 ?_
          refine lv_aload hx hb d_Main_copy_58 (lv_at hl 0 rfl) ?_
          refine gf_sh_2 hq13 C hW hP fl_Main_245 d_Main_copy_60 ?_
          refine lv_icmp_eq (tgt := 72) hx hb d_Main_copy_63 (by decide) (fun c17 => ?_) (fun c17 => ?_)
          · have hk := hk.1 c17
            refine lv_aload hx hb d_Main_copy_72 (lv_at hl 1 rfl) ?_
            refine lv_iload_n hx hb d_Main_copy_74 rfl (lv_at hl 4 rfl) ?_
            refine lv_iload hx hb d_Main_copy_75 (lv_at hl 7 rfl) ?_
            refine r_runZ (k_V (As := [.int a2, .int a5]) (rest := []) C hW hP (c_Sheet_holds hq7 hI a2 a5 M12 _ hk) cb_Sheet_holds ml_Main_248 (io_sh q7 hq7 M12) ⟨by decide, by decide⟩ rfl hl.1 rfl (Nat.le_of_ble_eq_true rfl) d_Main_copy_77 ⟨by decide, by decide⟩) hS (fun r19 M18 H locs zr19 hk hP hS => ?_)
            refine lv_if_eq (tgt := 95) hx hb d_Main_copy_80 (by decide) (fun c20 => ?_) (fun c20 => ?_)
            · have hk := hk.1 c20
              exact J95 M18 hk _ _ _ hP hS (lv_sub hl [2] rfl)
            · have hk := hk.2 c20
              refine lv_aload hx hb d_Main_copy_83 (lv_at hl 0 rfl) ?_
              refine lv_iload hx hb d_Main_copy_85 (lv_at hl 6 rfl) ?_
              refine lv_iload hx hb d_Main_copy_87 (lv_at hl 7 rfl) ?_
              refine r_runZ (k_V (As := [.int a4, .int a5]) (rest := []) C hW hP (c_Sheet_holds hq13 hI a4 a5 M18 _ hk) cb_Sheet_holds ml_Main_248 (io_sh q13 hq13 M18) ⟨by decide, by decide⟩ rfl hl.1 rfl (Nat.le_of_ble_eq_true rfl) d_Main_copy_89 ⟨by decide, by decide⟩) hS (fun r22 M21 H locs zr22 hk hP hS => ?_)
              refine lv_if_ne (tgt := 101) hx hb d_Main_copy_92 (by decide) (fun c23 => ?_) (fun c23 => ?_)
              · have hk := hk.1 c23
                refine lv_aload hx hb d_Main_copy_101 (lv_at hl 1 rfl) ?_
                refine gf_sh_0 hq7 C hW hP fl_Main_142 d_Main_copy_103 ?_
                refine lv_iload_n hx hb d_Main_copy_106 rfl (lv_at hl 4 rfl) ?_
                refine lv_aload hx hb d_Main_copy_107 (lv_at hl 0 rfl) ?_
                refine gf_sh_0 hq13 C hW hP fl_Main_142 d_Main_copy_109 ?_
                refine lv_iload hx hb d_Main_copy_112 (lv_at hl 6 rfl) ?_
                refine lv_iload hx hb d_Main_copy_114 (lv_at hl 7 rfl) ?_
                obtain ⟨h24, h25, h26, h27, h28, hk⟩ := hk
                refine r_copy (6 + q7) (6 + q13) (ar_sh_lt hq7) (ar_sh hq7) (ar_sh_lt hq13) (ar_sh hq13) hI C hW hP hS (hl.1) ml_Main_251 h24 h25 h26 h27 h28 (by decide) (Nat.le_of_ble_eq_true rfl) d_Main_copy_116 (fun M29 eM29 H locs hP hS => ?_)
                have hk := hk M29 eM29
                refine lv_iload hx hb d_Main_copy_119 (lv_at hl 7 rfl) ?_
                exact r_iret C hr hlocks hP hS hk d_Main_copy_121
              · have hk := hk.2 c23
                exact J95 M21 hk _ _ _ hP hS (lv_sub hl [2] rfl)
          · have hk := hk.2 c17
            refine lv_aload_n hx hb d_Main_copy_66 rfl (lv_at hl 2 rfl) ?_
            refine lv_iconst (v := 2) hx hb d_Main_copy_67 (by decide) ?_
            refine r_runI (k_V (As := [.int (2 : Int32)]) (rest := []) C hW hP (c_Main_failed hI (2 : Int32) M12 _ hk) cb_Main_failed ml_Main_83 (io_0 g M12) ⟨by decide, by decide⟩ rfl hl.1 rfl (Nat.le_of_ble_eq_true rfl) d_Main_copy_68 ⟨by decide, by decide⟩) hS (fun r31 M30 H locs hk hP hS => ?_)
            exact r_iret C hr hlocks hP hS hk d_Main_copy_71
        · have hk := hk.2 c16
          exact J47 M12 hk _ _ _ hP hS (lv_sub hl [2] rfl)
theorem d_Main_leave_0 : decode b_Main_leave 0 = .ok (.aload_n 0, 1) := by decide +kernel
theorem d_Main_leave_1 : decode b_Main_leave 1 = .ok (.bipush 31, 2) := by decide +kernel
theorem d_Main_leave_3 : decode b_Main_leave 3 = .ok (.aload_n 0, 1) := by decide +kernel
theorem d_Main_leave_4 : decode b_Main_leave 4 = .ok (.getfield 64, 3) := by decide +kernel
theorem d_Main_leave_7 : decode b_Main_leave 7 = .ok (.imul, 1) := by decide +kernel
theorem d_Main_leave_8 : decode b_Main_leave 8 = .ok (.iload_n 1, 1) := by decide +kernel
theorem d_Main_leave_9 : decode b_Main_leave 9 = .ok (.iadd, 1) := by decide +kernel
theorem d_Main_leave_10 : decode b_Main_leave 10 = .ok (.putfield 64, 3) := by decide +kernel
theorem d_Main_leave_13 : decode b_Main_leave 13 = .ok (.return_, 1) := by decide +kernel
set_option maxRecDepth 20000 in
theorem c_Main_leave {l : Launch} {g : GG} (hI : WI g) (a1 : Int32) (M : Mem) (R : Mem → Prop) (h : wp_Main_leave a1 M R) : Met l y_Main_leave (wm y_Main_leave b_Main_leave 2 none) (RM 0 0) (PP g M [.ref (g.2.2.2 0), .int a1]) (PQ g (RV R)) 0 0 (AW g) := by
  refine m_of (own := N_Main) (by decide) rfl (Nat.le_of_ble_eq_true rfl) ?_
  intro p e s m below meth c ls C hr hlocks hW hP hS hl
  obtain ⟨hx, hb, hml, hown, hts⟩ := id C
  have hl : lv_has ls 2 [(0, .ref (g.2.2.2 0)), (1, .int a1)] := hl
  unfold wp_Main_leave at h
  have hk := h
  refine lv_aload_n hx hb d_Main_leave_0 rfl (lv_at hl 0 rfl) ?_
  refine lv_bipush (v := 31) hx hb d_Main_leave_1 (by decide) ?_
  refine lv_aload_n hx hb d_Main_leave_3 rfl (lv_at hl 0 rfl) ?_
  refine gf_0_7 C hW hP fl_Main_64 d_Main_leave_4 ?_
  refine lv_imul hx hb d_Main_leave_7 ?_
  refine lv_iload_n hx hb d_Main_leave_8 rfl (lv_at hl 1 rfl) ?_
  refine lv_iadd hx hb d_Main_leave_9 ?_
  refine pf_0_7 hI C hW hP hS fl_Main_64 d_Main_leave_10 (fun M1 eM1 H locs hP hS => ?_)
  have hk := hk M1 eM1
  exact r_vret C hr hlocks hP hS hk d_Main_leave_13
theorem d_Main_bodyOfHouse_0 : decode b_Main_bodyOfHouse 0 = .ok (.aload_n 0, 1) := by decide +kernel
theorem d_Main_bodyOfHouse_1 : decode b_Main_bodyOfHouse 1 = .ok (.iconst 1, 1) := by decide +kernel
theorem d_Main_bodyOfHouse_2 : decode b_Main_bodyOfHouse 2 = .ok (.invokevirtual 284, 3) := by decide +kernel
theorem d_Main_bodyOfHouse_5 : decode b_Main_bodyOfHouse 5 = .ok (.aload_n 0, 1) := by decide +kernel
theorem d_Main_bodyOfHouse_6 : decode b_Main_bodyOfHouse 6 = .ok (.getfield 28, 3) := by decide +kernel
theorem d_Main_bodyOfHouse_9 : decode b_Main_bodyOfHouse 9 = .ok (.getfield 119, 3) := by decide +kernel
theorem d_Main_bodyOfHouse_12 : decode b_Main_bodyOfHouse 12 = .ok (.iload_n 1, 1) := by decide +kernel
theorem d_Main_bodyOfHouse_13 : decode b_Main_bodyOfHouse 13 = .ok (.iaload, 1) := by decide +kernel
theorem d_Main_bodyOfHouse_14 : decode b_Main_bodyOfHouse 14 = .ok (.ireturn, 1) := by decide +kernel
set_option maxRecDepth 20000 in
theorem c_Main_bodyOfHouse {l : Launch} {g : GG} (hI : WI g) (a1 : Int32) (M : Mem) (R : Int32 → Mem → Prop) (h : wp_Main_bodyOfHouse a1 M R) : Met l y_Main_bodyOfHouse (wm y_Main_bodyOfHouse b_Main_bodyOfHouse 2 (some .int)) (RM 1 21) (PP g M [.ref (g.2.2.2 0), .int a1]) (PQ g (RI R)) 0 0 (AW g) := by
  refine m_of (own := N_Main) (by decide) rfl (Nat.le_of_ble_eq_true rfl) ?_
  intro p e s m below meth c ls C hr hlocks hW hP hS hl
  obtain ⟨hx, hb, hml, hown, hts⟩ := id C
  have hl : lv_has ls 2 [(0, .ref (g.2.2.2 0)), (1, .int a1)] := hl
  unfold wp_Main_bodyOfHouse at h
  have hk := h
  refine lv_aload_n hx hb d_Main_bodyOfHouse_0 rfl (lv_at hl 0 rfl) ?_
  refine lv_iconst (v := 1) hx hb d_Main_bodyOfHouse_1 (by decide) ?_
  refine r_runV (k_V (As := [.int (1 : Int32)]) (rest := []) C hW hP (c_Main_leave hI (1 : Int32) M _ hk) cb_Main_leave ml_Main_284 (io_0 g M) ⟨by decide, by decide⟩ rfl hl.1 rfl (Nat.le_of_ble_eq_true rfl) d_Main_bodyOfHouse_2 ⟨by decide, by decide⟩) hS (fun M1 H locs hk hP hS => ?_)
  refine lv_aload_n hx hb d_Main_bodyOfHouse_5 rfl (lv_at hl 0 rfl) ?_
  refine gf_0_2 C hW hP fl_Main_28 d_Main_bodyOfHouse_6 ?_
  refine gf_12_3 C hW hP fl_Main_119 d_Main_bodyOfHouse_9 ?_
  refine lv_iload_n hx hb d_Main_bodyOfHouse_12 rfl (lv_at hl 1 rfl) ?_
  obtain ⟨h2, hk⟩ := hk
  refine al_16 C hW hP h2 d_Main_bodyOfHouse_13 ?_
  exact r_iret C hr hlocks hP hS hk d_Main_bodyOfHouse_14
theorem d_Main_bodyOfDouble_0 : decode b_Main_bodyOfDouble 0 = .ok (.aload_n 0, 1) := by decide +kernel
theorem d_Main_bodyOfDouble_1 : decode b_Main_bodyOfDouble 1 = .ok (.iconst 2, 1) := by decide +kernel
theorem d_Main_bodyOfDouble_2 : decode b_Main_bodyOfDouble 2 = .ok (.invokevirtual 284, 3) := by decide +kernel
theorem d_Main_bodyOfDouble_5 : decode b_Main_bodyOfDouble 5 = .ok (.aload_n 0, 1) := by decide +kernel
theorem d_Main_bodyOfDouble_6 : decode b_Main_bodyOfDouble 6 = .ok (.iload_n 1, 1) := by decide +kernel
theorem d_Main_bodyOfDouble_7 : decode b_Main_bodyOfDouble 7 = .ok (.invokevirtual 263, 3) := by decide +kernel
theorem d_Main_bodyOfDouble_10 : decode b_Main_bodyOfDouble 10 = .ok (.bipush 100, 2) := by decide +kernel
theorem d_Main_bodyOfDouble_12 : decode b_Main_bodyOfDouble 12 = .ok (.iadd, 1) := by decide +kernel
theorem d_Main_bodyOfDouble_13 : decode b_Main_bodyOfDouble 13 = .ok (.ireturn, 1) := by decide +kernel
set_option maxRecDepth 20000 in
theorem c_Main_bodyOfDouble {l : Launch} {g : GG} (hI : WI g) (a1 : Int32) (M : Mem) (R : Int32 → Mem → Prop) (h : wp_Main_bodyOfDouble a1 M R) : Met l y_Main_bodyOfDouble (wm y_Main_bodyOfDouble b_Main_bodyOfDouble 2 (some .int)) (RM 2 42) (PP g M [.ref (g.2.2.2 0), .int a1]) (PQ g (RI R)) 0 0 (AW g) := by
  refine m_of (own := N_Main) (by decide) rfl (Nat.le_of_ble_eq_true rfl) ?_
  intro p e s m below meth c ls C hr hlocks hW hP hS hl
  obtain ⟨hx, hb, hml, hown, hts⟩ := id C
  have hl : lv_has ls 2 [(0, .ref (g.2.2.2 0)), (1, .int a1)] := hl
  unfold wp_Main_bodyOfDouble at h
  have hk := h
  refine lv_aload_n hx hb d_Main_bodyOfDouble_0 rfl (lv_at hl 0 rfl) ?_
  refine lv_iconst (v := 2) hx hb d_Main_bodyOfDouble_1 (by decide) ?_
  refine r_runV (k_V (As := [.int (2 : Int32)]) (rest := []) C hW hP (c_Main_leave hI (2 : Int32) M _ hk) cb_Main_leave ml_Main_284 (io_0 g M) ⟨by decide, by decide⟩ rfl hl.1 rfl (Nat.le_of_ble_eq_true rfl) d_Main_bodyOfDouble_2 ⟨by decide, by decide⟩) hS (fun M1 H locs hk hP hS => ?_)
  refine lv_aload_n hx hb d_Main_bodyOfDouble_5 rfl (lv_at hl 0 rfl) ?_
  refine lv_iload_n hx hb d_Main_bodyOfDouble_6 rfl (lv_at hl 1 rfl) ?_
  refine r_runI (k_V (As := [.int a1]) (rest := []) C hW hP (c_Main_bodyOfHouse hI a1 M1 _ hk) cb_Main_bodyOfHouse ml_Main_263 (io_0 g M1) ⟨by decide, by decide⟩ rfl hl.1 rfl (Nat.le_of_ble_eq_true rfl) d_Main_bodyOfDouble_7 ⟨by decide, by decide⟩) hS (fun r3 M2 H locs hk hP hS => ?_)
  refine lv_bipush (v := 100) hx hb d_Main_bodyOfDouble_10 (by decide) ?_
  refine lv_iadd hx hb d_Main_bodyOfDouble_12 ?_
  exact r_iret C hr hlocks hP hS hk d_Main_bodyOfDouble_13
theorem d_Main_bodyOfLearning_0 : decode b_Main_bodyOfLearning 0 = .ok (.aload_n 0, 1) := by decide +kernel
theorem d_Main_bodyOfLearning_1 : decode b_Main_bodyOfLearning 1 = .ok (.iconst 3, 1) := by decide +kernel
theorem d_Main_bodyOfLearning_2 : decode b_Main_bodyOfLearning 2 = .ok (.invokevirtual 284, 3) := by decide +kernel
theorem d_Main_bodyOfLearning_5 : decode b_Main_bodyOfLearning 5 = .ok (.aload_n 0, 1) := by decide +kernel
theorem d_Main_bodyOfLearning_6 : decode b_Main_bodyOfLearning 6 = .ok (.iload_n 1, 1) := by decide +kernel
theorem d_Main_bodyOfLearning_7 : decode b_Main_bodyOfLearning 7 = .ok (.invokevirtual 260, 3) := by decide +kernel
theorem d_Main_bodyOfLearning_10 : decode b_Main_bodyOfLearning 10 = .ok (.istore_n 2, 1) := by decide +kernel
theorem d_Main_bodyOfLearning_11 : decode b_Main_bodyOfLearning 11 = .ok (.iload_n 2, 1) := by decide +kernel
theorem d_Main_bodyOfLearning_12 : decode b_Main_bodyOfLearning 12 = .ok (.aload_n 0, 1) := by decide +kernel
theorem d_Main_bodyOfLearning_13 : decode b_Main_bodyOfLearning 13 = .ok (.iload_n 1, 1) := by decide +kernel
theorem d_Main_bodyOfLearning_14 : decode b_Main_bodyOfLearning 14 = .ok (.invokevirtual 263, 3) := by decide +kernel
theorem d_Main_bodyOfLearning_17 : decode b_Main_bodyOfLearning 17 = .ok (.iadd, 1) := by decide +kernel
theorem d_Main_bodyOfLearning_18 : decode b_Main_bodyOfLearning 18 = .ok (.ireturn, 1) := by decide +kernel
set_option maxRecDepth 20000 in
theorem c_Main_bodyOfLearning {l : Launch} {g : GG} (hI : WI g) (a1 : Int32) (M : Mem) (R : Int32 → Mem → Prop) (h : wp_Main_bodyOfLearning a1 M R) : Met l y_Main_bodyOfLearning (wm y_Main_bodyOfLearning b_Main_bodyOfLearning 3 (some .int)) (RM 3 63) (PP g M [.ref (g.2.2.2 0), .int a1]) (PQ g (RI R)) 0 0 (AW g) := by
  refine m_of (own := N_Main) (by decide) rfl (Nat.le_of_ble_eq_true rfl) ?_
  intro p e s m below meth c ls C hr hlocks hW hP hS hl
  obtain ⟨hx, hb, hml, hown, hts⟩ := id C
  have hl : lv_has ls 3 [(0, .ref (g.2.2.2 0)), (1, .int a1)] := hl
  unfold wp_Main_bodyOfLearning at h
  have hk := h
  refine lv_aload_n hx hb d_Main_bodyOfLearning_0 rfl (lv_at hl 0 rfl) ?_
  refine lv_iconst (v := 3) hx hb d_Main_bodyOfLearning_1 (by decide) ?_
  refine r_runV (k_V (As := [.int (3 : Int32)]) (rest := []) C hW hP (c_Main_leave hI (3 : Int32) M _ hk) cb_Main_leave ml_Main_284 (io_0 g M) ⟨by decide, by decide⟩ rfl hl.1 rfl (Nat.le_of_ble_eq_true rfl) d_Main_bodyOfLearning_2 ⟨by decide, by decide⟩) hS (fun M1 H locs hk hP hS => ?_)
  refine lv_aload_n hx hb d_Main_bodyOfLearning_5 rfl (lv_at hl 0 rfl) ?_
  refine lv_iload_n hx hb d_Main_bodyOfLearning_6 rfl (lv_at hl 1 rfl) ?_
  refine r_runI (k_V (As := [.int a1]) (rest := []) C hW hP (c_Main_bodyOfDouble hI a1 M1 _ hk) cb_Main_bodyOfDouble ml_Main_260 (io_0 g M1) ⟨by decide, by decide⟩ rfl hl.1 rfl (Nat.le_of_ble_eq_true rfl) d_Main_bodyOfLearning_7 ⟨by decide, by decide⟩) hS (fun r3 M2 H locs hk hP hS => ?_)
  refine lv_istore_n (lv' := [(2, .int r3), (0, .ref (g.2.2.2 0)), (1, .int a1)]) hx hb d_Main_bodyOfLearning_10 rfl hl (by decide) rfl (fun ls hl => ?_)
  refine lv_iload_n hx hb d_Main_bodyOfLearning_11 rfl (lv_at hl 0 rfl) ?_
  refine lv_aload_n hx hb d_Main_bodyOfLearning_12 rfl (lv_at hl 1 rfl) ?_
  refine lv_iload_n hx hb d_Main_bodyOfLearning_13 rfl (lv_at hl 2 rfl) ?_
  refine r_runI (k_V (As := [.int a1]) (rest := [.int r3]) C hW hP (c_Main_bodyOfHouse hI a1 M2 _ hk) cb_Main_bodyOfHouse ml_Main_263 (io_0 g M2) ⟨by decide, by decide⟩ rfl hl.1 rfl (Nat.le_of_ble_eq_true rfl) d_Main_bodyOfLearning_14 ⟨by decide, by decide⟩) hS (fun r5 M4 H locs hk hP hS => ?_)
  refine lv_iadd hx hb d_Main_bodyOfLearning_17 ?_
  exact r_iret C hr hlocks hP hS hk d_Main_bodyOfLearning_18
theorem d_Main_tell_0 : decode b_Main_tell 0 = .ok (.aload_n 0, 1) := by decide +kernel
theorem d_Main_tell_1 : decode b_Main_tell 1 = .ok (.getfield 28, 3) := by decide +kernel
theorem d_Main_tell_4 : decode b_Main_tell 4 = .ok (.iload_n 1, 1) := by decide +kernel
theorem d_Main_tell_5 : decode b_Main_tell 5 = .ok (.invokevirtual 105, 3) := by decide +kernel
theorem d_Main_tell_8 : decode b_Main_tell 8 = .ok (.ifCond .ne 5, 3) := by decide +kernel
theorem d_Main_tell_11 : decode b_Main_tell 11 = .ok (.iconst (-1), 1) := by decide +kernel
theorem d_Main_tell_12 : decode b_Main_tell 12 = .ok (.ireturn, 1) := by decide +kernel
theorem d_Main_tell_13 : decode b_Main_tell 13 = .ok (.aload_n 0, 1) := by decide +kernel
theorem d_Main_tell_14 : decode b_Main_tell 14 = .ok (.getfield 28, 3) := by decide +kernel
theorem d_Main_tell_17 : decode b_Main_tell 17 = .ok (.getfield 109, 3) := by decide +kernel
theorem d_Main_tell_20 : decode b_Main_tell 20 = .ok (.iload_n 1, 1) := by decide +kernel
theorem d_Main_tell_21 : decode b_Main_tell 21 = .ok (.iaload, 1) := by decide +kernel
theorem d_Main_tell_22 : decode b_Main_tell 22 = .ok (.lookupswitch 38 #[(1, 32), (2, 26)], 26) := by decide +kernel
theorem d_Main_tell_48 : decode b_Main_tell 48 = .ok (.aload_n 0, 1) := by decide +kernel
theorem d_Main_tell_49 : decode b_Main_tell 49 = .ok (.iload_n 1, 1) := by decide +kernel
theorem d_Main_tell_50 : decode b_Main_tell 50 = .ok (.invokevirtual 257, 3) := by decide +kernel
theorem d_Main_tell_53 : decode b_Main_tell 53 = .ok (.ireturn, 1) := by decide +kernel
theorem d_Main_tell_54 : decode b_Main_tell 54 = .ok (.aload_n 0, 1) := by decide +kernel
theorem d_Main_tell_55 : decode b_Main_tell 55 = .ok (.iload_n 1, 1) := by decide +kernel
theorem d_Main_tell_56 : decode b_Main_tell 56 = .ok (.invokevirtual 260, 3) := by decide +kernel
theorem d_Main_tell_59 : decode b_Main_tell 59 = .ok (.ireturn, 1) := by decide +kernel
theorem d_Main_tell_60 : decode b_Main_tell 60 = .ok (.aload_n 0, 1) := by decide +kernel
theorem d_Main_tell_61 : decode b_Main_tell 61 = .ok (.iload_n 1, 1) := by decide +kernel
theorem d_Main_tell_62 : decode b_Main_tell 62 = .ok (.invokevirtual 263, 3) := by decide +kernel
theorem d_Main_tell_65 : decode b_Main_tell 65 = .ok (.ireturn, 1) := by decide +kernel
set_option maxRecDepth 20000 in
theorem c_Main_tell {l : Launch} {g : GG} (hI : WI g) (a1 : Int32) (M : Mem) (R : Int32 → Mem → Prop) (h : wp_Main_tell a1 M R) : Met l y_Main_tell (wm y_Main_tell b_Main_tell 2 (some .int)) (RM 4 85) (PP g M [.ref (g.2.2.2 0), .int a1]) (PQ g (RI R)) 0 0 (AW g) := by
  refine m_of (own := N_Main) (by decide) rfl (Nat.le_of_ble_eq_true rfl) ?_
  intro p e s m below meth c ls C hr hlocks hW hP hS hl
  obtain ⟨hx, hb, hml, hown, hts⟩ := id C
  have hl : lv_has ls 2 [(0, .ref (g.2.2.2 0)), (1, .int a1)] := hl
  unfold wp_Main_tell at h
  have hk := h
  refine lv_aload_n hx hb d_Main_tell_0 rfl (lv_at hl 0 rfl) ?_
  refine gf_0_2 C hW hP fl_Main_28 d_Main_tell_1 ?_
  refine lv_iload_n hx hb d_Main_tell_4 rfl (lv_at hl 1 rfl) ?_
  refine r_runZ (k_V (As := [.int a1]) (rest := []) C hW hP (c_Way_hasHouse hI a1 M _ hk) cb_Way_hasHouse ml_Main_105 (io_12 g M) ⟨by decide, by decide⟩ rfl hl.1 rfl (Nat.le_of_ble_eq_true rfl) d_Main_tell_5 ⟨by decide, by decide⟩) hS (fun r2 M1 H locs zr2 hk hP hS => ?_)
  refine lv_if_ne (tgt := 13) hx hb d_Main_tell_8 (by decide) (fun c3 => ?_) (fun c3 => ?_)
  · have hk := hk.1 c3
    refine lv_aload_n hx hb d_Main_tell_13 rfl (lv_at hl 0 rfl) ?_
    refine gf_0_2 C hW hP fl_Main_28 d_Main_tell_14 ?_
    refine gf_12_0 C hW hP fl_Main_109 d_Main_tell_17 ?_
    refine lv_iload_n hx hb d_Main_tell_20 rfl (lv_at hl 1 rfl) ?_
    obtain ⟨h4, hk⟩ := hk
    refine al_13 C hW hP h4 d_Main_tell_21 ?_
    by_cases c5 : (M1 13 a1.toNatClampNeg) = (1 : Int32)
    · have hk := hk.1 c5
      refine lv_lookup (tgt := 54) hx hb d_Main_tell_22 (by decide) (by rw [c5] <;> rfl) (by decide) ?_
      refine lv_aload_n hx hb d_Main_tell_54 rfl (lv_at hl 0 rfl) ?_
      refine lv_iload_n hx hb d_Main_tell_55 rfl (lv_at hl 1 rfl) ?_
      refine r_runI (k_V (As := [.int a1]) (rest := []) C hW hP (c_Main_bodyOfDouble hI a1 M1 _ hk) cb_Main_bodyOfDouble ml_Main_260 (io_0 g M1) ⟨by decide, by decide⟩ rfl hl.1 rfl (Nat.le_of_ble_eq_true rfl) d_Main_tell_56 ⟨by decide, by decide⟩) hS (fun r7 M6 H locs hk hP hS => ?_)
      exact r_iret C hr hlocks hP hS hk d_Main_tell_59
    · have hk := hk.2 c5
      by_cases c8 : (M1 13 a1.toNatClampNeg) = (2 : Int32)
      · have hk := hk.1 c8
        refine lv_lookup (tgt := 48) hx hb d_Main_tell_22 (by decide) (by rw [c8] <;> rfl) (by decide) ?_
        refine lv_aload_n hx hb d_Main_tell_48 rfl (lv_at hl 0 rfl) ?_
        refine lv_iload_n hx hb d_Main_tell_49 rfl (lv_at hl 1 rfl) ?_
        refine r_runI (k_V (As := [.int a1]) (rest := []) C hW hP (c_Main_bodyOfLearning hI a1 M1 _ hk) cb_Main_bodyOfLearning ml_Main_257 (io_0 g M1) ⟨by decide, by decide⟩ rfl hl.1 rfl (Nat.le_of_ble_eq_true rfl) d_Main_tell_50 ⟨by decide, by decide⟩) hS (fun r10 M9 H locs hk hP hS => ?_)
        exact r_iret C hr hlocks hP hS hk d_Main_tell_53
      · have hk := hk.2 c8
        refine lv_lookup (tgt := 60) hx hb d_Main_tell_22 (by decide) (by simp [Op.lookupswitch.offset, sw_ne (k := 1) c5, sw_ne (k := 2) c8] <;> rfl) (by decide) ?_
        refine lv_aload_n hx hb d_Main_tell_60 rfl (lv_at hl 0 rfl) ?_
        refine lv_iload_n hx hb d_Main_tell_61 rfl (lv_at hl 1 rfl) ?_
        refine r_runI (k_V (As := [.int a1]) (rest := []) C hW hP (c_Main_bodyOfHouse hI a1 M1 _ hk) cb_Main_bodyOfHouse ml_Main_263 (io_0 g M1) ⟨by decide, by decide⟩ rfl hl.1 rfl (Nat.le_of_ble_eq_true rfl) d_Main_tell_62 ⟨by decide, by decide⟩) hS (fun r12 M11 H locs hk hP hS => ?_)
        exact r_iret C hr hlocks hP hS hk d_Main_tell_65
  · have hk := hk.2 c3
    refine lv_iconst (v := -1) hx hb d_Main_tell_11 (by decide) ?_
    exact r_iret C hr hlocks hP hS hk d_Main_tell_12
theorem d_Main_ownKnock_0 : decode b_Main_ownKnock 0 = .ok (.aload_n 0, 1) := by decide +kernel
theorem d_Main_ownKnock_1 : decode b_Main_ownKnock 1 = .ok (.iconst 5, 1) := by decide +kernel
theorem d_Main_ownKnock_2 : decode b_Main_ownKnock 2 = .ok (.invokevirtual 284, 3) := by decide +kernel
theorem d_Main_ownKnock_5 : decode b_Main_ownKnock 5 = .ok (.bipush 80, 2) := by decide +kernel
theorem d_Main_ownKnock_7 : decode b_Main_ownKnock 7 = .ok (.ireturn, 1) := by decide +kernel
set_option maxRecDepth 20000 in
theorem c_Main_ownKnock {l : Launch} {g : GG} (hI : WI g) (M : Mem) (R : Int32 → Mem → Prop) (h : wp_Main_ownKnock  M R) : Met l y_Main_ownKnock (wm y_Main_ownKnock b_Main_ownKnock 1 (some .int)) (RM 1 21) (PP g M [.ref (g.2.2.2 0)]) (PQ g (RI R)) 0 0 (AW g) := by
  refine m_of (own := N_Main) (by decide) rfl (Nat.le_of_ble_eq_true rfl) ?_
  intro p e s m below meth c ls C hr hlocks hW hP hS hl
  obtain ⟨hx, hb, hml, hown, hts⟩ := id C
  have hl : lv_has ls 1 [(0, .ref (g.2.2.2 0))] := hl
  unfold wp_Main_ownKnock at h
  have hk := h
  refine lv_aload_n hx hb d_Main_ownKnock_0 rfl (lv_at hl 0 rfl) ?_
  refine lv_iconst (v := 5) hx hb d_Main_ownKnock_1 (by decide) ?_
  refine r_runV (k_V (As := [.int (5 : Int32)]) (rest := []) C hW hP (c_Main_leave hI (5 : Int32) M _ hk) cb_Main_leave ml_Main_284 (io_0 g M) ⟨by decide, by decide⟩ rfl hl.1 rfl (Nat.le_of_ble_eq_true rfl) d_Main_ownKnock_2 ⟨by decide, by decide⟩) hS (fun M1 H locs hk hP hS => ?_)
  refine lv_bipush (v := 80) hx hb d_Main_ownKnock_5 (by decide) ?_
  exact r_iret C hr hlocks hP hS hk d_Main_ownKnock_7
theorem d_Main_lentKnock_0 : decode b_Main_lentKnock 0 = .ok (.aload_n 0, 1) := by decide +kernel
theorem d_Main_lentKnock_1 : decode b_Main_lentKnock 1 = .ok (.iconst 4, 1) := by decide +kernel
theorem d_Main_lentKnock_2 : decode b_Main_lentKnock 2 = .ok (.invokevirtual 284, 3) := by decide +kernel
theorem d_Main_lentKnock_5 : decode b_Main_lentKnock 5 = .ok (.iload_n 1, 1) := by decide +kernel
theorem d_Main_lentKnock_6 : decode b_Main_lentKnock 6 = .ok (.ireturn, 1) := by decide +kernel
set_option maxRecDepth 20000 in
theorem c_Main_lentKnock {l : Launch} {g : GG} (hI : WI g) (a1 : Int32) (M : Mem) (R : Int32 → Mem → Prop) (h : wp_Main_lentKnock a1 M R) : Met l y_Main_lentKnock (wm y_Main_lentKnock b_Main_lentKnock 2 (some .int)) (RM 1 21) (PP g M [.ref (g.2.2.2 0), .int a1]) (PQ g (RI R)) 0 0 (AW g) := by
  refine m_of (own := N_Main) (by decide) rfl (Nat.le_of_ble_eq_true rfl) ?_
  intro p e s m below meth c ls C hr hlocks hW hP hS hl
  obtain ⟨hx, hb, hml, hown, hts⟩ := id C
  have hl : lv_has ls 2 [(0, .ref (g.2.2.2 0)), (1, .int a1)] := hl
  unfold wp_Main_lentKnock at h
  have hk := h
  refine lv_aload_n hx hb d_Main_lentKnock_0 rfl (lv_at hl 0 rfl) ?_
  refine lv_iconst (v := 4) hx hb d_Main_lentKnock_1 (by decide) ?_
  refine r_runV (k_V (As := [.int (4 : Int32)]) (rest := []) C hW hP (c_Main_leave hI (4 : Int32) M _ hk) cb_Main_leave ml_Main_284 (io_0 g M) ⟨by decide, by decide⟩ rfl hl.1 rfl (Nat.le_of_ble_eq_true rfl) d_Main_lentKnock_2 ⟨by decide, by decide⟩) hS (fun M1 H locs hk hP hS => ?_)
  refine lv_iload_n hx hb d_Main_lentKnock_5 rfl (lv_at hl 1 rfl) ?_
  exact r_iret C hr hlocks hP hS hk d_Main_lentKnock_6
