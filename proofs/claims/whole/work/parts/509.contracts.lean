theorem d_Model_reading_0 : decode b_Model_reading 0 = .ok (.aload_n 0, 1) := by decide +kernel
theorem d_Model_reading_1 : decode b_Model_reading 1 = .ok (.iload_n 1, 1) := by decide +kernel
theorem d_Model_reading_2 : decode b_Model_reading 2 = .ok (.invokevirtual 124, 3) := by decide +kernel
theorem d_Model_reading_5 : decode b_Model_reading 5 = .ok (.ifCond .eq 17, 3) := by decide +kernel
theorem d_Model_reading_8 : decode b_Model_reading 8 = .ok (.iload_n 2, 1) := by decide +kernel
theorem d_Model_reading_9 : decode b_Model_reading 9 = .ok (.bipush (-9), 2) := by decide +kernel
theorem d_Model_reading_11 : decode b_Model_reading 11 = .ok (.if_icmp .eq 13, 3) := by decide +kernel
theorem d_Model_reading_14 : decode b_Model_reading 14 = .ok (.aload_n 0, 1) := by decide +kernel
theorem d_Model_reading_15 : decode b_Model_reading 15 = .ok (.iload_n 2, 1) := by decide +kernel
theorem d_Model_reading_16 : decode b_Model_reading 16 = .ok (.invokevirtual 121, 3) := by decide +kernel
theorem d_Model_reading_19 : decode b_Model_reading 19 = .ok (.ifCond .ne 5, 3) := by decide +kernel
theorem d_Model_reading_22 : decode b_Model_reading 22 = .ok (.iconst (-1), 1) := by decide +kernel
theorem d_Model_reading_23 : decode b_Model_reading 23 = .ok (.ireturn, 1) := by decide +kernel
theorem d_Model_reading_24 : decode b_Model_reading 24 = .ok (.aload_n 0, 1) := by decide +kernel
theorem d_Model_reading_25 : decode b_Model_reading 25 = .ok (.getfield 104, 3) := by decide +kernel
theorem d_Model_reading_28 : decode b_Model_reading 28 = .ok (.bipush 8, 2) := by decide +kernel
theorem d_Model_reading_30 : decode b_Model_reading 30 = .ok (.if_icmp .ne 6, 3) := by decide +kernel
theorem d_Model_reading_33 : decode b_Model_reading 33 = .ok (.bipush (-4), 2) := by decide +kernel
theorem d_Model_reading_35 : decode b_Model_reading 35 = .ok (.ireturn, 1) := by decide +kernel
theorem d_Model_reading_36 : decode b_Model_reading 36 = .ok (.aload_n 0, 1) := by decide +kernel
theorem d_Model_reading_37 : decode b_Model_reading 37 = .ok (.getfield 56, 3) := by decide +kernel
theorem d_Model_reading_40 : decode b_Model_reading 40 = .ok (.aload_n 0, 1) := by decide +kernel
theorem d_Model_reading_41 : decode b_Model_reading 41 = .ok (.getfield 104, 3) := by decide +kernel
theorem d_Model_reading_44 : decode b_Model_reading 44 = .ok (.iload_n 1, 1) := by decide +kernel
theorem d_Model_reading_45 : decode b_Model_reading 45 = .ok (.iastore, 1) := by decide +kernel
theorem d_Model_reading_46 : decode b_Model_reading 46 = .ok (.aload_n 0, 1) := by decide +kernel
theorem d_Model_reading_47 : decode b_Model_reading 47 = .ok (.getfield 59, 3) := by decide +kernel
theorem d_Model_reading_50 : decode b_Model_reading 50 = .ok (.aload_n 0, 1) := by decide +kernel
theorem d_Model_reading_51 : decode b_Model_reading 51 = .ok (.getfield 104, 3) := by decide +kernel
theorem d_Model_reading_54 : decode b_Model_reading 54 = .ok (.iload_n 2, 1) := by decide +kernel
theorem d_Model_reading_55 : decode b_Model_reading 55 = .ok (.iastore, 1) := by decide +kernel
theorem d_Model_reading_56 : decode b_Model_reading 56 = .ok (.aload_n 0, 1) := by decide +kernel
theorem d_Model_reading_57 : decode b_Model_reading 57 = .ok (.dup, 1) := by decide +kernel
theorem d_Model_reading_58 : decode b_Model_reading 58 = .ok (.getfield 104, 3) := by decide +kernel
theorem d_Model_reading_61 : decode b_Model_reading 61 = .ok (.iconst 1, 1) := by decide +kernel
theorem d_Model_reading_62 : decode b_Model_reading 62 = .ok (.iadd, 1) := by decide +kernel
theorem d_Model_reading_63 : decode b_Model_reading 63 = .ok (.putfield 104, 3) := by decide +kernel
theorem d_Model_reading_66 : decode b_Model_reading 66 = .ok (.aload_n 0, 1) := by decide +kernel
theorem d_Model_reading_67 : decode b_Model_reading 67 = .ok (.getfield 104, 3) := by decide +kernel
theorem d_Model_reading_70 : decode b_Model_reading 70 = .ok (.iconst 1, 1) := by decide +kernel
theorem d_Model_reading_71 : decode b_Model_reading 71 = .ok (.isub, 1) := by decide +kernel
theorem d_Model_reading_72 : decode b_Model_reading 72 = .ok (.ireturn, 1) := by decide +kernel
set_option maxRecDepth 20000 in
theorem c_Model_reading {l : Launch} {g : GG} (hI : WI g) (a1 : Int32) (a2 : Int32) (M : Mem) (R : Int32 → Mem → Prop) (h : wp_Model_reading a1 a2 M R) : Met l y_Model_reading (wm y_Model_reading b_Model_reading 3 (some .int)) (RM 1 21) (PP g M [.ref (g.2.2.2 29), .int a1, .int a2]) (PQ g (RI R)) 0 0 (AW g) := by
  refine m_of (own := N_Model) (by decide) rfl (Nat.le_of_ble_eq_true rfl) ?_
  intro p e s m below meth c ls C hr hlocks hW hP hS hl
  obtain ⟨hx, hb, hml, hown, hts⟩ := id C
  have hl : lv_has ls 3 [(0, .ref (g.2.2.2 29)), (1, .int a1), (2, .int a2)] := hl
  unfold wp_Model_reading at h
  have J24 : ∀ (x1 : Int32) (x2 : Int32) (M : Mem), wp_Model_reading_24  R x1 x2 M → ∀ (H : Heap) (locs : List Loc) (ls : Array Slot), WP g M H → va_S (AW g) s.heap H locs → lv_has ls 3 [(0, .ref (g.2.2.2 29)), (1, .int x1), (2, .int x2)] → W p l e (RM 1 21) s m ([.ref (g.2.2.2 29), .int a1, .int a2] : List Value).toArray below meth c H locs 0 0 (MQ below (PQ g (RI R)) ([.ref (g.2.2.2 29), .int a1, .int a2] : List Value).toArray s 0 0 (AW g)) (F0 m 24 ls []) := by
    intro x1 x2 M hk H locs ls hP hS hl
    unfold wp_Model_reading_24 at hk
    refine lv_aload_n hx hb d_Model_reading_24 rfl (lv_at hl 0 rfl) ?_
    refine gf_29_23 C hW hP fl_Model_104 d_Model_reading_25 ?_
    refine lv_bipush (v := 8) hx hb d_Model_reading_28 (by decide) ?_
    refine lv_icmp_ne (tgt := 36) hx hb d_Model_reading_30 (by decide) (fun c1 => ?_) (fun c1 => ?_)
    · have hk := hk.1 c1
      refine lv_aload_n hx hb d_Model_reading_36 rfl (lv_at hl 0 rfl) ?_
      refine gf_29_24 C hW hP fl_Model_56 d_Model_reading_37 ?_
      refine lv_aload_n hx hb d_Model_reading_40 rfl (lv_at hl 0 rfl) ?_
      refine gf_29_23 C hW hP fl_Model_104 d_Model_reading_41 ?_
      refine lv_iload_n hx hb d_Model_reading_44 rfl (lv_at hl 1 rfl) ?_
      obtain ⟨h2, hk⟩ := hk
      refine as_44 hI C hW hP hS h2 d_Model_reading_45 (fun M3 eM3 H locs hP hS => ?_)
      have hk := hk M3 eM3
      refine lv_aload_n hx hb d_Model_reading_46 rfl (lv_at hl 0 rfl) ?_
      refine gf_29_25 C hW hP fl_Model_59 d_Model_reading_47 ?_
      refine lv_aload_n hx hb d_Model_reading_50 rfl (lv_at hl 0 rfl) ?_
      refine gf_29_23 C hW hP fl_Model_104 d_Model_reading_51 ?_
      refine lv_iload_n hx hb d_Model_reading_54 rfl (lv_at hl 2 rfl) ?_
      obtain ⟨h4, hk⟩ := hk
      refine as_45 hI C hW hP hS h4 d_Model_reading_55 (fun M5 eM5 H locs hP hS => ?_)
      have hk := hk M5 eM5
      refine lv_aload_n hx hb d_Model_reading_56 rfl (lv_at hl 0 rfl) ?_
      refine lv_dup hx hb d_Model_reading_57 rfl ?_
      refine gf_29_23 C hW hP fl_Model_104 d_Model_reading_58 ?_
      refine lv_iconst (v := 1) hx hb d_Model_reading_61 (by decide) ?_
      refine lv_iadd hx hb d_Model_reading_62 ?_
      refine pf_29_23 hI C hW hP hS fl_Model_104 d_Model_reading_63 (fun M6 eM6 H locs hP hS => ?_)
      have hk := hk M6 eM6
      refine lv_aload_n hx hb d_Model_reading_66 rfl (lv_at hl 0 rfl) ?_
      refine gf_29_23 C hW hP fl_Model_104 d_Model_reading_67 ?_
      refine lv_iconst (v := 1) hx hb d_Model_reading_70 (by decide) ?_
      refine lv_isub hx hb d_Model_reading_71 ?_
      exact r_iret C hr hlocks hP hS hk d_Model_reading_72
    · have hk := hk.2 c1
      refine lv_bipush (v := -4) hx hb d_Model_reading_33 (by decide) ?_
      exact r_iret C hr hlocks hP hS hk d_Model_reading_35
  have hk := h
  refine lv_aload_n hx hb d_Model_reading_0 rfl (lv_at hl 0 rfl) ?_
  refine lv_iload_n hx hb d_Model_reading_1 rfl (lv_at hl 1 rfl) ?_
  refine r_runZ (k_V (As := [.int a1]) (rest := []) C hW hP (c_Model_isGuest hI a1 M _ hk) cb_Model_isGuest ml_Model_124 (io_29 g M) ⟨by decide, by decide⟩ rfl hl.1 rfl (Nat.le_of_ble_eq_true rfl) d_Model_reading_2 ⟨by decide, by decide⟩) hS (fun r8 M7 H locs zr8 hk hP hS => ?_)
  refine lv_if_eq (tgt := 22) hx hb d_Model_reading_5 (by decide) (fun c9 => ?_) (fun c9 => ?_)
  · have hk := hk.1 c9
    refine lv_iconst (v := -1) hx hb d_Model_reading_22 (by decide) ?_
    exact r_iret C hr hlocks hP hS hk d_Model_reading_23
  · have hk := hk.2 c9
    refine lv_iload_n hx hb d_Model_reading_8 rfl (lv_at hl 2 rfl) ?_
    refine lv_bipush (v := -9) hx hb d_Model_reading_9 (by decide) ?_
    refine lv_icmp_eq (tgt := 24) hx hb d_Model_reading_11 (by decide) (fun c10 => ?_) (fun c10 => ?_)
    · have hk := hk.1 c10
      exact J24 a1 a2 M7 hk _ _ _ hP hS (lv_sub hl [0, 1, 2] rfl)
    · have hk := hk.2 c10
      refine lv_aload_n hx hb d_Model_reading_14 rfl (lv_at hl 0 rfl) ?_
      refine lv_iload_n hx hb d_Model_reading_15 rfl (lv_at hl 2 rfl) ?_
      refine r_runZ (k_V (As := [.int a2]) (rest := []) C hW hP (c_Model_isHouse hI a2 M7 _ hk) cb_Model_isHouse ml_Model_121 (io_29 g M7) ⟨by decide, by decide⟩ rfl hl.1 rfl (Nat.le_of_ble_eq_true rfl) d_Model_reading_16 ⟨by decide, by decide⟩) hS (fun r12 M11 H locs zr12 hk hP hS => ?_)
      refine lv_if_ne (tgt := 24) hx hb d_Model_reading_19 (by decide) (fun c13 => ?_) (fun c13 => ?_)
      · have hk := hk.1 c13
        exact J24 a1 a2 M11 hk _ _ _ hP hS (lv_sub hl [0, 1, 2] rfl)
      · have hk := hk.2 c13
        refine lv_iconst (v := -1) hx hb d_Model_reading_22 (by decide) ?_
        exact r_iret C hr hlocks hP hS hk d_Model_reading_23
theorem d_Model_back_0 : decode b_Model_back 0 = .ok (.iload_n 1, 1) := by decide +kernel
theorem d_Model_back_1 : decode b_Model_back 1 = .ok (.iconst 0, 1) := by decide +kernel
theorem d_Model_back_2 : decode b_Model_back 2 = .ok (.aload_n 0, 1) := by decide +kernel
theorem d_Model_back_3 : decode b_Model_back 3 = .ok (.getfield 104, 3) := by decide +kernel
theorem d_Model_back_6 : decode b_Model_back 6 = .ok (.invokestatic 67, 3) := by decide +kernel
theorem d_Model_back_9 : decode b_Model_back 9 = .ok (.ifCond .ne 6, 3) := by decide +kernel
theorem d_Model_back_12 : decode b_Model_back 12 = .ok (.bipush (-2), 2) := by decide +kernel
theorem d_Model_back_14 : decode b_Model_back 14 = .ok (.ireturn, 1) := by decide +kernel
theorem d_Model_back_15 : decode b_Model_back 15 = .ok (.aload_n 0, 1) := by decide +kernel
theorem d_Model_back_16 : decode b_Model_back 16 = .ok (.dup, 1) := by decide +kernel
theorem d_Model_back_17 : decode b_Model_back 17 = .ok (.getfield 104, 3) := by decide +kernel
theorem d_Model_back_20 : decode b_Model_back 20 = .ok (.iload_n 1, 1) := by decide +kernel
theorem d_Model_back_21 : decode b_Model_back 21 = .ok (.isub, 1) := by decide +kernel
theorem d_Model_back_22 : decode b_Model_back 22 = .ok (.putfield 104, 3) := by decide +kernel
theorem d_Model_back_25 : decode b_Model_back 25 = .ok (.aload_n 0, 1) := by decide +kernel
theorem d_Model_back_26 : decode b_Model_back 26 = .ok (.getfield 104, 3) := by decide +kernel
theorem d_Model_back_29 : decode b_Model_back 29 = .ok (.ireturn, 1) := by decide +kernel
set_option maxRecDepth 20000 in
theorem c_Model_back {l : Launch} {g : GG} (hI : WI g) (a1 : Int32) (M : Mem) (R : Int32 → Mem → Prop) (h : wp_Model_back a1 M R) : Met l y_Model_back (wm y_Model_back b_Model_back 2 (some .int)) (RM 1 22) (PP g M [.ref (g.2.2.2 29), .int a1]) (PQ g (RI R)) 0 0 (AW g) := by
  refine m_of (own := N_Model) (by decide) rfl (Nat.le_of_ble_eq_true rfl) ?_
  intro p e s m below meth c ls C hr hlocks hW hP hS hl
  obtain ⟨hx, hb, hml, hown, hts⟩ := id C
  have hl : lv_has ls 2 [(0, .ref (g.2.2.2 29)), (1, .int a1)] := hl
  unfold wp_Model_back at h
  have hk := h
  refine lv_iload_n hx hb d_Model_back_0 rfl (lv_at hl 1 rfl) ?_
  refine lv_iconst (v := 0) hx hb d_Model_back_1 (by decide) ?_
  refine lv_aload_n hx hb d_Model_back_2 rfl (lv_at hl 0 rfl) ?_
  refine gf_29_23 C hW hP fl_Model_104 d_Model_back_3 ?_
  refine r_runZ (k_S (As := [.int a1, .int (0 : Int32), .int (M 29 23)]) (rest := []) C hW hP (c_Model_within hI a1 (0 : Int32) (M 29 23) M _ hk) cb_Model_within ml_Model_67 ⟨by decide, by decide⟩ rfl hl.1 rfl (Nat.le_of_ble_eq_true rfl) d_Model_back_6 ⟨by decide, by decide⟩) hS (fun r2 M1 H locs zr2 hk hP hS => ?_)
  refine lv_if_ne (tgt := 15) hx hb d_Model_back_9 (by decide) (fun c3 => ?_) (fun c3 => ?_)
  · have hk := hk.1 c3
    refine lv_aload_n hx hb d_Model_back_15 rfl (lv_at hl 0 rfl) ?_
    refine lv_dup hx hb d_Model_back_16 rfl ?_
    refine gf_29_23 C hW hP fl_Model_104 d_Model_back_17 ?_
    refine lv_iload_n hx hb d_Model_back_20 rfl (lv_at hl 1 rfl) ?_
    refine lv_isub hx hb d_Model_back_21 ?_
    refine pf_29_23 hI C hW hP hS fl_Model_104 d_Model_back_22 (fun M4 eM4 H locs hP hS => ?_)
    have hk := hk M4 eM4
    refine lv_aload_n hx hb d_Model_back_25 rfl (lv_at hl 0 rfl) ?_
    refine gf_29_23 C hW hP fl_Model_104 d_Model_back_26 ?_
    exact r_iret C hr hlocks hP hS hk d_Model_back_29
  · have hk := hk.2 c3
    refine lv_bipush (v := -2) hx hb d_Model_back_12 (by decide) ?_
    exact r_iret C hr hlocks hP hS hk d_Model_back_14
theorem d_Model_areSo_0 : decode b_Model_areSo 0 = .ok (.aload_n 0, 1) := by decide +kernel
theorem d_Model_areSo_1 : decode b_Model_areSo 1 = .ok (.invokevirtual 185, 3) := by decide +kernel
theorem d_Model_areSo_4 : decode b_Model_areSo 4 = .ok (.iconst 0, 1) := by decide +kernel
theorem d_Model_areSo_5 : decode b_Model_areSo 5 = .ok (.istore_n 1, 1) := by decide +kernel
theorem d_Model_areSo_6 : decode b_Model_areSo 6 = .ok (.iload_n 1, 1) := by decide +kernel
theorem d_Model_areSo_7 : decode b_Model_areSo 7 = .ok (.aload_n 0, 1) := by decide +kernel
theorem d_Model_areSo_8 : decode b_Model_areSo 8 = .ok (.getfield 104, 3) := by decide +kernel
theorem d_Model_areSo_11 : decode b_Model_areSo 11 = .ok (.if_icmp .ge 31, 3) := by decide +kernel
theorem d_Model_areSo_14 : decode b_Model_areSo 14 = .ok (.aload_n 0, 1) := by decide +kernel
theorem d_Model_areSo_15 : decode b_Model_areSo 15 = .ok (.getfield 44, 3) := by decide +kernel
theorem d_Model_areSo_18 : decode b_Model_areSo 18 = .ok (.aload_n 0, 1) := by decide +kernel
theorem d_Model_areSo_19 : decode b_Model_areSo 19 = .ok (.getfield 56, 3) := by decide +kernel
theorem d_Model_areSo_22 : decode b_Model_areSo 22 = .ok (.iload_n 1, 1) := by decide +kernel
theorem d_Model_areSo_23 : decode b_Model_areSo 23 = .ok (.iaload, 1) := by decide +kernel
theorem d_Model_areSo_24 : decode b_Model_areSo 24 = .ok (.iaload, 1) := by decide +kernel
theorem d_Model_areSo_25 : decode b_Model_areSo 25 = .ok (.aload_n 0, 1) := by decide +kernel
theorem d_Model_areSo_26 : decode b_Model_areSo 26 = .ok (.getfield 59, 3) := by decide +kernel
theorem d_Model_areSo_29 : decode b_Model_areSo 29 = .ok (.iload_n 1, 1) := by decide +kernel
theorem d_Model_areSo_30 : decode b_Model_areSo 30 = .ok (.iaload, 1) := by decide +kernel
theorem d_Model_areSo_31 : decode b_Model_areSo 31 = .ok (.if_icmp .eq 5, 3) := by decide +kernel
theorem d_Model_areSo_34 : decode b_Model_areSo 34 = .ok (.iconst 0, 1) := by decide +kernel
theorem d_Model_areSo_35 : decode b_Model_areSo 35 = .ok (.ireturn, 1) := by decide +kernel
theorem d_Model_areSo_36 : decode b_Model_areSo 36 = .ok (.iinc 1 1, 3) := by decide +kernel
theorem d_Model_areSo_39 : decode b_Model_areSo 39 = .ok (.goto (-33), 3) := by decide +kernel
theorem d_Model_areSo_42 : decode b_Model_areSo 42 = .ok (.iconst 1, 1) := by decide +kernel
theorem d_Model_areSo_43 : decode b_Model_areSo 43 = .ok (.ireturn, 1) := by decide +kernel
set_option maxRecDepth 20000 in
theorem c_Model_areSo {l : Launch} {g : GG} (hI : WI g) (M : Mem) (R : Int32 → Mem → Prop) (h : wp_Model_areSo  M R) : Met l y_Model_areSo (wm y_Model_areSo b_Model_areSo 2 (some .boolean)) (RM 4 94) (PP g M [.ref (g.2.2.2 29)]) (PQ g (RZ R)) 0 0 (AW g) := by
  refine m_of (own := N_Model) (by decide) rfl (Nat.le_of_ble_eq_true rfl) ?_
  intro p e s m below meth c ls C hr hlocks hW hP hS hl
  obtain ⟨hx, hb, hml, hown, hts⟩ := id C
  have hl : lv_has ls 2 [(0, .ref (g.2.2.2 29))] := hl
  unfold wp_Model_areSo at h
  obtain ⟨X6, eX6⟩ : ∃ X : Int32 → Mem → Prop, ∀ (x1 : Int32) (M : Mem), X x1 M ↔ (∀ (H : Heap) (locs : List Loc) (ls : Array Slot), WP g M H → va_S (AW g) s.heap H locs → lv_has ls 2 [(0, .ref (g.2.2.2 29)), (1, .int x1)] → W p l e (RM 4 94) s m ([.ref (g.2.2.2 29)] : List Value).toArray below meth c H locs 0 0 (MQ below (PQ g (RZ R)) ([.ref (g.2.2.2 29)] : List Value).toArray s 0 0 (AW g)) (F0 m 6 ls [])) := ⟨fun x1 M => _, fun _ _ => Iff.rfl⟩
  suffices hcl : (∀ (x1 : Int32) (M : Mem), wp_Model_areSo_6 X6 R x1 M → X6 x1 M) by
    have hk := h X6 hcl
    refine lv_aload_n hx hb d_Model_areSo_0 rfl (lv_at hl 0 rfl) ?_
    refine r_runV (k_V (As := []) (rest := []) C hW hP (c_Model_goAll hI M _ hk) cb_Model_goAll ml_Model_185 (io_29 g M) ⟨by decide, by decide⟩ rfl hl.1 rfl (Nat.le_of_ble_eq_true rfl) d_Model_areSo_1 ⟨by decide, by decide⟩) hS (fun M7 H locs hk hP hS => ?_)
    refine lv_iconst (v := 0) hx hb d_Model_areSo_4 (by decide) ?_
    refine lv_istore_n (lv' := [(1, .int (0 : Int32)), (0, .ref (g.2.2.2 29))]) hx hb d_Model_areSo_5 rfl hl (by decide) rfl (fun ls hl => ?_)
    exact (eX6 (0 : Int32) M7).mp hk _ _ _ hP hS (lv_sub hl [1, 0] rfl)
  · intro x1 M hk
    refine (eX6 x1 M).mpr ?_
    intro H locs ls hP hS hl
    unfold wp_Model_areSo_6 at hk
    refine lv_iload_n hx hb d_Model_areSo_6 rfl (lv_at hl 1 rfl) ?_
    refine lv_aload_n hx hb d_Model_areSo_7 rfl (lv_at hl 0 rfl) ?_
    refine gf_29_23 C hW hP fl_Model_104 d_Model_areSo_8 ?_
    refine lv_icmp_ge (tgt := 42) hx hb d_Model_areSo_11 (by decide) (fun c1 => ?_) (fun c1 => ?_)
    · have hk := hk.1 c1
      refine lv_iconst (v := 1) hx hb d_Model_areSo_42 (by decide) ?_
      exact r_zret rfl C hr hlocks hP hS hk d_Model_areSo_43
    · have hk := hk.2 c1
      refine lv_aload_n hx hb d_Model_areSo_14 rfl (lv_at hl 0 rfl) ?_
      refine gf_29_19 C hW hP fl_Model_44 d_Model_areSo_15 ?_
      refine lv_aload_n hx hb d_Model_areSo_18 rfl (lv_at hl 0 rfl) ?_
      refine gf_29_24 C hW hP fl_Model_56 d_Model_areSo_19 ?_
      refine lv_iload_n hx hb d_Model_areSo_22 rfl (lv_at hl 1 rfl) ?_
      obtain ⟨h2, hk⟩ := hk
      refine al_44 C hW hP h2 d_Model_areSo_23 ?_
      obtain ⟨h3, hk⟩ := hk
      refine al_40 C hW hP h3 d_Model_areSo_24 ?_
      refine lv_aload_n hx hb d_Model_areSo_25 rfl (lv_at hl 0 rfl) ?_
      refine gf_29_25 C hW hP fl_Model_59 d_Model_areSo_26 ?_
      refine lv_iload_n hx hb d_Model_areSo_29 rfl (lv_at hl 1 rfl) ?_
      obtain ⟨h4, hk⟩ := hk
      refine al_45 C hW hP h4 d_Model_areSo_30 ?_
      refine lv_icmp_eq (tgt := 36) hx hb d_Model_areSo_31 (by decide) (fun c5 => ?_) (fun c5 => ?_)
      · have hk := hk.1 c5
        obtain ⟨x1_6, ex1_6⟩ : ∃ y : Int32, y = x1 + (1 : Int32) := ⟨_, rfl⟩
        have hk := hk x1_6 ex1_6
        refine lv_iinc (v := x1_6) (lv' := [(1, .int x1_6), (0, .ref (g.2.2.2 29))]) hx hb d_Model_areSo_36 hl (k := 1) rfl (by rw [ex1_6]; rfl) (by decide) rfl (fun ls hl => ?_)
        refine lv_goto (tgt := 6) hx hb d_Model_areSo_39 (by decide) ?_
        exact (eX6 x1_6 M).mp hk _ _ _ hP hS (lv_sub hl [1, 0] rfl)
      · have hk := hk.2 c5
        refine lv_iconst (v := 0) hx hb d_Model_areSo_34 (by decide) ?_
        exact r_zret rfl C hr hlocks hP hS hk d_Model_areSo_35
theorem d_Model_had_0 : decode b_Model_had 0 = .ok (.aload_n 0, 1) := by decide +kernel
theorem d_Model_had_1 : decode b_Model_had 1 = .ok (.iload_n 1, 1) := by decide +kernel
theorem d_Model_had_2 : decode b_Model_had 2 = .ok (.invokevirtual 124, 3) := by decide +kernel
theorem d_Model_had_5 : decode b_Model_had 5 = .ok (.ifCond .ne 5, 3) := by decide +kernel
theorem d_Model_had_8 : decode b_Model_had 8 = .ok (.iconst (-1), 1) := by decide +kernel
theorem d_Model_had_9 : decode b_Model_had 9 = .ok (.ireturn, 1) := by decide +kernel
theorem d_Model_had_10 : decode b_Model_had 10 = .ok (.iload_n 2, 1) := by decide +kernel
theorem d_Model_had_11 : decode b_Model_had 11 = .ok (.iconst 0, 1) := by decide +kernel
theorem d_Model_had_12 : decode b_Model_had 12 = .ok (.iconst 1, 1) := by decide +kernel
theorem d_Model_had_13 : decode b_Model_had 13 = .ok (.invokestatic 67, 3) := by decide +kernel
theorem d_Model_had_16 : decode b_Model_had 16 = .ok (.ifCond .ne 6, 3) := by decide +kernel
theorem d_Model_had_19 : decode b_Model_had 19 = .ok (.bipush (-2), 2) := by decide +kernel
theorem d_Model_had_21 : decode b_Model_had 21 = .ok (.ireturn, 1) := by decide +kernel
theorem d_Model_had_22 : decode b_Model_had 22 = .ok (.aload_n 0, 1) := by decide +kernel
theorem d_Model_had_23 : decode b_Model_had 23 = .ok (.getfield 31, 3) := by decide +kernel
theorem d_Model_had_26 : decode b_Model_had 26 = .ok (.iload_n 1, 1) := by decide +kernel
theorem d_Model_had_27 : decode b_Model_had 27 = .ok (.iaload, 1) := by decide +kernel
theorem d_Model_had_28 : decode b_Model_had 28 = .ok (.istore_n 3, 1) := by decide +kernel
theorem d_Model_had_29 : decode b_Model_had 29 = .ok (.iconst 0, 1) := by decide +kernel
theorem d_Model_had_30 : decode b_Model_had 30 = .ok (.istore 4, 2) := by decide +kernel
theorem d_Model_had_32 : decode b_Model_had 32 = .ok (.bipush (-9), 2) := by decide +kernel
theorem d_Model_had_34 : decode b_Model_had 34 = .ok (.istore 5, 2) := by decide +kernel
theorem d_Model_had_36 : decode b_Model_had 36 = .ok (.iconst 0, 1) := by decide +kernel
theorem d_Model_had_37 : decode b_Model_had 37 = .ok (.istore 6, 2) := by decide +kernel
theorem d_Model_had_39 : decode b_Model_had 39 = .ok (.iload 6, 2) := by decide +kernel
theorem d_Model_had_41 : decode b_Model_had 41 = .ok (.bipush 63, 2) := by decide +kernel
theorem d_Model_had_43 : decode b_Model_had 43 = .ok (.if_icmp .gt 41, 3) := by decide +kernel
theorem d_Model_had_46 : decode b_Model_had 46 = .ok (.aload_n 0, 1) := by decide +kernel
theorem d_Model_had_47 : decode b_Model_had 47 = .ok (.getfield 31, 3) := by decide +kernel
theorem d_Model_had_50 : decode b_Model_had 50 = .ok (.iload_n 1, 1) := by decide +kernel
theorem d_Model_had_51 : decode b_Model_had 51 = .ok (.iload 6, 2) := by decide +kernel
theorem d_Model_had_53 : decode b_Model_had 53 = .ok (.iastore, 1) := by decide +kernel
theorem d_Model_had_54 : decode b_Model_had 54 = .ok (.aload_n 0, 1) := by decide +kernel
theorem d_Model_had_55 : decode b_Model_had 55 = .ok (.invokevirtual 188, 3) := by decide +kernel
theorem d_Model_had_58 : decode b_Model_had 58 = .ok (.ifCond .eq 20, 3) := by decide +kernel
theorem d_Model_had_61 : decode b_Model_had 61 = .ok (.iload 4, 2) := by decide +kernel
theorem d_Model_had_63 : decode b_Model_had 63 = .ok (.ifCond .ne 8, 3) := by decide +kernel
theorem d_Model_had_66 : decode b_Model_had 66 = .ok (.iload 6, 2) := by decide +kernel
theorem d_Model_had_68 : decode b_Model_had 68 = .ok (.goto 5, 3) := by decide +kernel
theorem d_Model_had_71 : decode b_Model_had 71 = .ok (.iload 5, 2) := by decide +kernel
theorem d_Model_had_73 : decode b_Model_had 73 = .ok (.istore 5, 2) := by decide +kernel
theorem d_Model_had_75 : decode b_Model_had 75 = .ok (.iinc 4 1, 3) := by decide +kernel
theorem d_Model_had_78 : decode b_Model_had 78 = .ok (.iinc 6 1, 3) := by decide +kernel
theorem d_Model_had_81 : decode b_Model_had 81 = .ok (.goto (-42), 3) := by decide +kernel
theorem d_Model_had_84 : decode b_Model_had 84 = .ok (.aload_n 0, 1) := by decide +kernel
theorem d_Model_had_85 : decode b_Model_had 85 = .ok (.getfield 31, 3) := by decide +kernel
theorem d_Model_had_88 : decode b_Model_had 88 = .ok (.iload_n 1, 1) := by decide +kernel
theorem d_Model_had_89 : decode b_Model_had 89 = .ok (.iload_n 3, 1) := by decide +kernel
theorem d_Model_had_90 : decode b_Model_had 90 = .ok (.iastore, 1) := by decide +kernel
theorem d_Model_had_91 : decode b_Model_had 91 = .ok (.iload_n 2, 1) := by decide +kernel
theorem d_Model_had_92 : decode b_Model_had 92 = .ok (.ifCond .ne 8, 3) := by decide +kernel
theorem d_Model_had_95 : decode b_Model_had 95 = .ok (.iload 4, 2) := by decide +kernel
theorem d_Model_had_97 : decode b_Model_had 97 = .ok (.goto 5, 3) := by decide +kernel
theorem d_Model_had_100 : decode b_Model_had 100 = .ok (.iload 5, 2) := by decide +kernel
theorem d_Model_had_102 : decode b_Model_had 102 = .ok (.ireturn, 1) := by decide +kernel
set_option maxRecDepth 20000 in
theorem c_Model_had {l : Launch} {g : GG} (hI : WI g) (a1 : Int32) (a2 : Int32) (M : Mem) (R : Int32 → Mem → Prop) (h : wp_Model_had a1 a2 M R) : Met l y_Model_had (wm y_Model_had b_Model_had 7 (some .int)) (RM 5 115) (PP g M [.ref (g.2.2.2 29), .int a1, .int a2]) (PQ g (RI R)) 0 0 (AW g) := by
  refine m_of (own := N_Model) (by decide) rfl (Nat.le_of_ble_eq_true rfl) ?_
  intro p e s m below meth c ls C hr hlocks hW hP hS hl
  obtain ⟨hx, hb, hml, hown, hts⟩ := id C
  have hl : lv_has ls 7 [(0, .ref (g.2.2.2 29)), (1, .int a1), (2, .int a2)] := hl
  unfold wp_Model_had at h
  obtain ⟨X39, eX39⟩ : ∃ X : Int32 → Int32 → Int32 → Int32 → Int32 → Int32 → Mem → Prop, ∀ (x1 : Int32) (x2 : Int32) (x3 : Int32) (x4 : Int32) (x5 : Int32) (x6 : Int32) (M : Mem), X x1 x2 x3 x4 x5 x6 M ↔ (∀ (H : Heap) (locs : List Loc) (ls : Array Slot), WP g M H → va_S (AW g) s.heap H locs → lv_has ls 7 [(0, .ref (g.2.2.2 29)), (1, .int x1), (2, .int x2), (3, .int x3), (4, .int x4), (5, .int x5), (6, .int x6)] → W p l e (RM 5 115) s m ([.ref (g.2.2.2 29), .int a1, .int a2] : List Value).toArray below meth c H locs 0 0 (MQ below (PQ g (RI R)) ([.ref (g.2.2.2 29), .int a1, .int a2] : List Value).toArray s 0 0 (AW g)) (F0 m 39 ls [])) := ⟨fun x1 x2 x3 x4 x5 x6 M => _, fun _ _ _ _ _ _ _ => Iff.rfl⟩
  have J78 : ∀ (x1 : Int32) (x2 : Int32) (x3 : Int32) (x4 : Int32) (x5 : Int32) (x6 : Int32) (M : Mem), wp_Model_had_78 X39 R x1 x2 x3 x4 x5 x6 M → ∀ (H : Heap) (locs : List Loc) (ls : Array Slot), WP g M H → va_S (AW g) s.heap H locs → lv_has ls 7 [(0, .ref (g.2.2.2 29)), (1, .int x1), (2, .int x2), (3, .int x3), (4, .int x4), (5, .int x5), (6, .int x6)] → W p l e (RM 5 115) s m ([.ref (g.2.2.2 29), .int a1, .int a2] : List Value).toArray below meth c H locs 0 0 (MQ below (PQ g (RI R)) ([.ref (g.2.2.2 29), .int a1, .int a2] : List Value).toArray s 0 0 (AW g)) (F0 m 78 ls []) := by
    intro x1 x2 x3 x4 x5 x6 M hk H locs ls hP hS hl
    unfold wp_Model_had_78 at hk
    obtain ⟨x6_12, ex6_12⟩ : ∃ y : Int32, y = x6 + (1 : Int32) := ⟨_, rfl⟩
    have hk := hk x6_12 ex6_12
    refine lv_iinc (v := x6_12) (lv' := [(6, .int x6_12), (0, .ref (g.2.2.2 29)), (1, .int x1), (2, .int x2), (3, .int x3), (4, .int x4), (5, .int x5)]) hx hb d_Model_had_78 hl (k := 6) rfl (by rw [ex6_12]; rfl) (by decide) rfl (fun ls hl => ?_)
    refine lv_goto (tgt := 39) hx hb d_Model_had_81 (by decide) ?_
    exact (eX39 x1 x2 x3 x4 x5 x6_12 M).mp hk _ _ _ hP hS (lv_sub hl [1, 2, 3, 4, 5, 6, 0] rfl)
  have J73 : ∀ (x1 : Int32) (x2 : Int32) (x3 : Int32) (x4 : Int32) (x6 : Int32) (s0 : Int32) (M : Mem), wp_Model_had_73 X39 R x1 x2 x3 x4 x6 s0 M → ∀ (H : Heap) (locs : List Loc) (ls : Array Slot), WP g M H → va_S (AW g) s.heap H locs → lv_has ls 7 [(0, .ref (g.2.2.2 29)), (1, .int x1), (2, .int x2), (3, .int x3), (4, .int x4), (6, .int x6)] → W p l e (RM 5 115) s m ([.ref (g.2.2.2 29), .int a1, .int a2] : List Value).toArray below meth c H locs 0 0 (MQ below (PQ g (RI R)) ([.ref (g.2.2.2 29), .int a1, .int a2] : List Value).toArray s 0 0 (AW g)) (F0 m 73 ls [.int s0]) := by
    intro x1 x2 x3 x4 x6 s0 M hk H locs ls hP hS hl
    unfold wp_Model_had_73 at hk
    refine lv_istore (lv' := [(5, .int s0), (0, .ref (g.2.2.2 29)), (1, .int x1), (2, .int x2), (3, .int x3), (4, .int x4), (6, .int x6)]) hx hb d_Model_had_73 hl (by decide) rfl (fun ls hl => ?_)
    obtain ⟨x4_11, ex4_11⟩ : ∃ y : Int32, y = x4 + (1 : Int32) := ⟨_, rfl⟩
    have hk := hk x4_11 ex4_11
    refine lv_iinc (v := x4_11) (lv' := [(4, .int x4_11), (5, .int s0), (0, .ref (g.2.2.2 29)), (1, .int x1), (2, .int x2), (3, .int x3), (6, .int x6)]) hx hb d_Model_had_75 hl (k := 5) rfl (by rw [ex4_11]; rfl) (by decide) rfl (fun ls hl => ?_)
    exact J78 x1 x2 x3 x4_11 s0 x6 M hk _ _ _ hP hS (lv_sub hl [2, 3, 4, 5, 0, 1, 6] rfl)
  suffices hcl : (∀ (x1 : Int32) (x2 : Int32) (x3 : Int32) (x4 : Int32) (x5 : Int32) (x6 : Int32) (M : Mem), wp_Model_had_39 X39 R x1 x2 x3 x4 x5 x6 M → X39 x1 x2 x3 x4 x5 x6 M) by
    have hk := h X39 hcl
    refine lv_aload_n hx hb d_Model_had_0 rfl (lv_at hl 0 rfl) ?_
    refine lv_iload_n hx hb d_Model_had_1 rfl (lv_at hl 1 rfl) ?_
    refine r_runZ (k_V (As := [.int a1]) (rest := []) C hW hP (c_Model_isGuest hI a1 M _ hk) cb_Model_isGuest ml_Model_124 (io_29 g M) ⟨by decide, by decide⟩ rfl hl.1 rfl (Nat.le_of_ble_eq_true rfl) d_Model_had_2 ⟨by decide, by decide⟩) hS (fun r14 M13 H locs zr14 hk hP hS => ?_)
    refine lv_if_ne (tgt := 10) hx hb d_Model_had_5 (by decide) (fun c15 => ?_) (fun c15 => ?_)
    · have hk := hk.1 c15
      refine lv_iload_n hx hb d_Model_had_10 rfl (lv_at hl 2 rfl) ?_
      refine lv_iconst (v := 0) hx hb d_Model_had_11 (by decide) ?_
      refine lv_iconst (v := 1) hx hb d_Model_had_12 (by decide) ?_
      refine r_runZ (k_S (As := [.int a2, .int (0 : Int32), .int (1 : Int32)]) (rest := []) C hW hP (c_Model_within hI a2 (0 : Int32) (1 : Int32) M13 _ hk) cb_Model_within ml_Model_67 ⟨by decide, by decide⟩ rfl hl.1 rfl (Nat.le_of_ble_eq_true rfl) d_Model_had_13 ⟨by decide, by decide⟩) hS (fun r17 M16 H locs zr17 hk hP hS => ?_)
      refine lv_if_ne (tgt := 22) hx hb d_Model_had_16 (by decide) (fun c18 => ?_) (fun c18 => ?_)
      · have hk := hk.1 c18
        refine lv_aload_n hx hb d_Model_had_22 rfl (lv_at hl 0 rfl) ?_
        refine gf_29_11 C hW hP fl_Model_31 d_Model_had_23 ?_
        refine lv_iload_n hx hb d_Model_had_26 rfl (lv_at hl 1 rfl) ?_
        obtain ⟨h19, hk⟩ := hk
        refine al_37 C hW hP h19 d_Model_had_27 ?_
        refine lv_topi (fun x3_20 ex3_20 => ?_)
        have hk := hk x3_20 ex3_20
        refine lv_istore_n (lv' := [(3, .int x3_20), (0, .ref (g.2.2.2 29)), (1, .int a1), (2, .int a2)]) hx hb d_Model_had_28 rfl hl (by decide) rfl (fun ls hl => ?_)
        refine lv_iconst (v := 0) hx hb d_Model_had_29 (by decide) ?_
        refine lv_istore (lv' := [(4, .int (0 : Int32)), (3, .int x3_20), (0, .ref (g.2.2.2 29)), (1, .int a1), (2, .int a2)]) hx hb d_Model_had_30 hl (by decide) rfl (fun ls hl => ?_)
        refine lv_bipush (v := -9) hx hb d_Model_had_32 (by decide) ?_
        refine lv_istore (lv' := [(5, .int (-9 : Int32)), (4, .int (0 : Int32)), (3, .int x3_20), (0, .ref (g.2.2.2 29)), (1, .int a1), (2, .int a2)]) hx hb d_Model_had_34 hl (by decide) rfl (fun ls hl => ?_)
        refine lv_iconst (v := 0) hx hb d_Model_had_36 (by decide) ?_
        refine lv_istore (lv' := [(6, .int (0 : Int32)), (5, .int (-9 : Int32)), (4, .int (0 : Int32)), (3, .int x3_20), (0, .ref (g.2.2.2 29)), (1, .int a1), (2, .int a2)]) hx hb d_Model_had_37 hl (by decide) rfl (fun ls hl => ?_)
        exact (eX39 a1 a2 x3_20 (0 : Int32) (-9 : Int32) (0 : Int32) M16).mp hk _ _ _ hP hS (lv_sub hl [4, 5, 6, 3, 2, 1, 0] rfl)
      · have hk := hk.2 c18
        refine lv_bipush (v := -2) hx hb d_Model_had_19 (by decide) ?_
        exact r_iret C hr hlocks hP hS hk d_Model_had_21
    · have hk := hk.2 c15
      refine lv_iconst (v := -1) hx hb d_Model_had_8 (by decide) ?_
      exact r_iret C hr hlocks hP hS hk d_Model_had_9
  · intro x1 x2 x3 x4 x5 x6 M hk
    refine (eX39 x1 x2 x3 x4 x5 x6 M).mpr ?_
    intro H locs ls hP hS hl
    unfold wp_Model_had_39 at hk
    refine lv_iload hx hb d_Model_had_39 (lv_at hl 6 rfl) ?_
    refine lv_bipush (v := 63) hx hb d_Model_had_41 (by decide) ?_
    refine lv_icmp_gt (tgt := 84) hx hb d_Model_had_43 (by decide) (fun c1 => ?_) (fun c1 => ?_)
    · have hk := hk.1 c1
      refine lv_aload_n hx hb d_Model_had_84 rfl (lv_at hl 0 rfl) ?_
      refine gf_29_11 C hW hP fl_Model_31 d_Model_had_85 ?_
      refine lv_iload_n hx hb d_Model_had_88 rfl (lv_at hl 1 rfl) ?_
      refine lv_iload_n hx hb d_Model_had_89 rfl (lv_at hl 3 rfl) ?_
      obtain ⟨h2, hk⟩ := hk
      refine as_37 hI C hW hP hS h2 d_Model_had_90 (fun M3 eM3 H locs hP hS => ?_)
      have hk := hk M3 eM3
      refine lv_iload_n hx hb d_Model_had_91 rfl (lv_at hl 2 rfl) ?_
      refine lv_if_ne (tgt := 100) hx hb d_Model_had_92 (by decide) (fun c4 => ?_) (fun c4 => ?_)
      · have hk := hk.1 c4
        refine lv_iload hx hb d_Model_had_100 (lv_at hl 5 rfl) ?_
        exact r_iret C hr hlocks hP hS hk d_Model_had_102
      · have hk := hk.2 c4
        refine lv_iload hx hb d_Model_had_95 (lv_at hl 4 rfl) ?_
        refine lv_goto (tgt := 102) hx hb d_Model_had_97 (by decide) ?_
        exact r_iret C hr hlocks hP hS hk d_Model_had_102
    · have hk := hk.2 c1
      refine lv_aload_n hx hb d_Model_had_46 rfl (lv_at hl 0 rfl) ?_
      refine gf_29_11 C hW hP fl_Model_31 d_Model_had_47 ?_
      refine lv_iload_n hx hb d_Model_had_50 rfl (lv_at hl 1 rfl) ?_
      refine lv_iload hx hb d_Model_had_51 (lv_at hl 6 rfl) ?_
      obtain ⟨h5, hk⟩ := hk
      refine as_37 hI C hW hP hS h5 d_Model_had_53 (fun M6 eM6 H locs hP hS => ?_)
      have hk := hk M6 eM6
      refine lv_aload_n hx hb d_Model_had_54 rfl (lv_at hl 0 rfl) ?_
      refine r_runZ (k_V (As := []) (rest := []) C hW hP (c_Model_areSo hI M6 _ hk) cb_Model_areSo ml_Model_188 (io_29 g M6) ⟨by decide, by decide⟩ rfl hl.1 rfl (Nat.le_of_ble_eq_true rfl) d_Model_had_55 ⟨by decide, by decide⟩) hS (fun r8 M7 H locs zr8 hk hP hS => ?_)
      refine lv_if_eq (tgt := 78) hx hb d_Model_had_58 (by decide) (fun c9 => ?_) (fun c9 => ?_)
      · have hk := hk.1 c9
        exact J78 x1 x2 x3 x4 x5 x6 M7 hk _ _ _ hP hS (lv_sub hl [0, 1, 2, 3, 4, 5, 6] rfl)
      · have hk := hk.2 c9
        refine lv_iload hx hb d_Model_had_61 (lv_at hl 4 rfl) ?_
        refine lv_if_ne (tgt := 71) hx hb d_Model_had_63 (by decide) (fun c10 => ?_) (fun c10 => ?_)
        · have hk := hk.1 c10
          refine lv_iload hx hb d_Model_had_71 (lv_at hl 5 rfl) ?_
          exact J73 x1 x2 x3 x4 x6 x5 M7 hk _ _ _ hP hS (lv_sub hl [0, 1, 2, 3, 4, 6] rfl)
        · have hk := hk.2 c10
          refine lv_iload hx hb d_Model_had_66 (lv_at hl 6 rfl) ?_
          refine lv_goto (tgt := 73) hx hb d_Model_had_68 (by decide) ?_
          exact J73 x1 x2 x3 x4 x6 x6 M7 hk _ _ _ hP hS (lv_sub hl [0, 1, 2, 3, 4, 6] rfl)
theorem d_Model_kinds_0 : decode b_Model_kinds 0 = .ok (.aload_n 0, 1) := by decide +kernel
theorem d_Model_kinds_1 : decode b_Model_kinds 1 = .ok (.iload_n 1, 1) := by decide +kernel
theorem d_Model_kinds_2 : decode b_Model_kinds 2 = .ok (.invokevirtual 121, 3) := by decide +kernel
theorem d_Model_kinds_5 : decode b_Model_kinds 5 = .ok (.ifCond .ne 5, 3) := by decide +kernel
theorem d_Model_kinds_8 : decode b_Model_kinds 8 = .ok (.iconst (-1), 1) := by decide +kernel
theorem d_Model_kinds_9 : decode b_Model_kinds 9 = .ok (.ireturn, 1) := by decide +kernel
theorem d_Model_kinds_10 : decode b_Model_kinds 10 = .ok (.aload_n 0, 1) := by decide +kernel
theorem d_Model_kinds_11 : decode b_Model_kinds 11 = .ok (.getfield 19, 3) := by decide +kernel
theorem d_Model_kinds_14 : decode b_Model_kinds 14 = .ok (.iload_n 1, 1) := by decide +kernel
theorem d_Model_kinds_15 : decode b_Model_kinds 15 = .ok (.iaload, 1) := by decide +kernel
theorem d_Model_kinds_16 : decode b_Model_kinds 16 = .ok (.istore_n 2, 1) := by decide +kernel
theorem d_Model_kinds_17 : decode b_Model_kinds 17 = .ok (.iconst 0, 1) := by decide +kernel
theorem d_Model_kinds_18 : decode b_Model_kinds 18 = .ok (.istore_n 3, 1) := by decide +kernel
theorem d_Model_kinds_19 : decode b_Model_kinds 19 = .ok (.iconst 0, 1) := by decide +kernel
theorem d_Model_kinds_20 : decode b_Model_kinds 20 = .ok (.istore 4, 2) := by decide +kernel
theorem d_Model_kinds_22 : decode b_Model_kinds 22 = .ok (.iload 4, 2) := by decide +kernel
theorem d_Model_kinds_24 : decode b_Model_kinds 24 = .ok (.iconst 3, 1) := by decide +kernel
theorem d_Model_kinds_25 : decode b_Model_kinds 25 = .ok (.if_icmp .ge 35, 3) := by decide +kernel
theorem d_Model_kinds_28 : decode b_Model_kinds 28 = .ok (.aload_n 0, 1) := by decide +kernel
theorem d_Model_kinds_29 : decode b_Model_kinds 29 = .ok (.getfield 19, 3) := by decide +kernel
theorem d_Model_kinds_32 : decode b_Model_kinds 32 = .ok (.iload_n 1, 1) := by decide +kernel
theorem d_Model_kinds_33 : decode b_Model_kinds 33 = .ok (.iload 4, 2) := by decide +kernel
theorem d_Model_kinds_35 : decode b_Model_kinds 35 = .ok (.iastore, 1) := by decide +kernel
theorem d_Model_kinds_36 : decode b_Model_kinds 36 = .ok (.iload_n 3, 1) := by decide +kernel
theorem d_Model_kinds_37 : decode b_Model_kinds 37 = .ok (.aload_n 0, 1) := by decide +kernel
theorem d_Model_kinds_38 : decode b_Model_kinds 38 = .ok (.invokevirtual 188, 3) := by decide +kernel
theorem d_Model_kinds_41 : decode b_Model_kinds 41 = .ok (.ifCond .eq 10, 3) := by decide +kernel
theorem d_Model_kinds_44 : decode b_Model_kinds 44 = .ok (.iconst 1, 1) := by decide +kernel
theorem d_Model_kinds_45 : decode b_Model_kinds 45 = .ok (.iload 4, 2) := by decide +kernel
theorem d_Model_kinds_47 : decode b_Model_kinds 47 = .ok (.ishl, 1) := by decide +kernel
theorem d_Model_kinds_48 : decode b_Model_kinds 48 = .ok (.goto 4, 3) := by decide +kernel
theorem d_Model_kinds_51 : decode b_Model_kinds 51 = .ok (.iconst 0, 1) := by decide +kernel
theorem d_Model_kinds_52 : decode b_Model_kinds 52 = .ok (.ior, 1) := by decide +kernel
theorem d_Model_kinds_53 : decode b_Model_kinds 53 = .ok (.istore_n 3, 1) := by decide +kernel
theorem d_Model_kinds_54 : decode b_Model_kinds 54 = .ok (.iinc 4 1, 3) := by decide +kernel
theorem d_Model_kinds_57 : decode b_Model_kinds 57 = .ok (.goto (-35), 3) := by decide +kernel
theorem d_Model_kinds_60 : decode b_Model_kinds 60 = .ok (.aload_n 0, 1) := by decide +kernel
theorem d_Model_kinds_61 : decode b_Model_kinds 61 = .ok (.getfield 19, 3) := by decide +kernel
theorem d_Model_kinds_64 : decode b_Model_kinds 64 = .ok (.iload_n 1, 1) := by decide +kernel
theorem d_Model_kinds_65 : decode b_Model_kinds 65 = .ok (.iload_n 2, 1) := by decide +kernel
theorem d_Model_kinds_66 : decode b_Model_kinds 66 = .ok (.iastore, 1) := by decide +kernel
theorem d_Model_kinds_67 : decode b_Model_kinds 67 = .ok (.iload_n 3, 1) := by decide +kernel
theorem d_Model_kinds_68 : decode b_Model_kinds 68 = .ok (.ireturn, 1) := by decide +kernel
set_option maxRecDepth 20000 in
theorem c_Model_kinds {l : Launch} {g : GG} (hI : WI g) (a1 : Int32) (M : Mem) (R : Int32 → Mem → Prop) (h : wp_Model_kinds a1 M R) : Met l y_Model_kinds (wm y_Model_kinds b_Model_kinds 5 (some .int)) (RM 5 115) (PP g M [.ref (g.2.2.2 29), .int a1]) (PQ g (RI R)) 0 0 (AW g) := by
  refine m_of (own := N_Model) (by decide) rfl (Nat.le_of_ble_eq_true rfl) ?_
  intro p e s m below meth c ls C hr hlocks hW hP hS hl
  obtain ⟨hx, hb, hml, hown, hts⟩ := id C
  have hl : lv_has ls 5 [(0, .ref (g.2.2.2 29)), (1, .int a1)] := hl
  unfold wp_Model_kinds at h
  obtain ⟨X22, eX22⟩ : ∃ X : Int32 → Int32 → Int32 → Int32 → Mem → Prop, ∀ (x1 : Int32) (x2 : Int32) (x3 : Int32) (x4 : Int32) (M : Mem), X x1 x2 x3 x4 M ↔ (∀ (H : Heap) (locs : List Loc) (ls : Array Slot), WP g M H → va_S (AW g) s.heap H locs → lv_has ls 5 [(0, .ref (g.2.2.2 29)), (1, .int x1), (2, .int x2), (3, .int x3), (4, .int x4)] → W p l e (RM 5 115) s m ([.ref (g.2.2.2 29), .int a1] : List Value).toArray below meth c H locs 0 0 (MQ below (PQ g (RI R)) ([.ref (g.2.2.2 29), .int a1] : List Value).toArray s 0 0 (AW g)) (F0 m 22 ls [])) := ⟨fun x1 x2 x3 x4 M => _, fun _ _ _ _ _ => Iff.rfl⟩
  have J52 : ∀ (x1 : Int32) (x2 : Int32) (x4 : Int32) (s0 : Int32) (s1 : Int32) (M : Mem), wp_Model_kinds_52 X22 R x1 x2 x4 s0 s1 M → ∀ (H : Heap) (locs : List Loc) (ls : Array Slot), WP g M H → va_S (AW g) s.heap H locs → lv_has ls 5 [(0, .ref (g.2.2.2 29)), (1, .int x1), (2, .int x2), (4, .int x4)] → W p l e (RM 5 115) s m ([.ref (g.2.2.2 29), .int a1] : List Value).toArray below meth c H locs 0 0 (MQ below (PQ g (RI R)) ([.ref (g.2.2.2 29), .int a1] : List Value).toArray s 0 0 (AW g)) (F0 m 52 ls [.int s1, .int s0]) := by
    intro x1 x2 x4 s0 s1 M hk H locs ls hP hS hl
    unfold wp_Model_kinds_52 at hk
    refine lv_ior hx hb d_Model_kinds_52 ?_
    refine lv_topi (fun x3_9 ex3_9 => ?_)
    have hk := hk x3_9 ex3_9
    refine lv_istore_n (lv' := [(3, .int x3_9), (0, .ref (g.2.2.2 29)), (1, .int x1), (2, .int x2), (4, .int x4)]) hx hb d_Model_kinds_53 rfl hl (by decide) rfl (fun ls hl => ?_)
    obtain ⟨x4_10, ex4_10⟩ : ∃ y : Int32, y = x4 + (1 : Int32) := ⟨_, rfl⟩
    have hk := hk x4_10 ex4_10
    refine lv_iinc (v := x4_10) (lv' := [(4, .int x4_10), (3, .int x3_9), (0, .ref (g.2.2.2 29)), (1, .int x1), (2, .int x2)]) hx hb d_Model_kinds_54 hl (k := 4) rfl (by rw [ex4_10]; rfl) (by decide) rfl (fun ls hl => ?_)
    refine lv_goto (tgt := 22) hx hb d_Model_kinds_57 (by decide) ?_
    exact (eX22 x1 x2 x3_9 x4_10 M).mp hk _ _ _ hP hS (lv_sub hl [2, 3, 4, 1, 0] rfl)
  suffices hcl : (∀ (x1 : Int32) (x2 : Int32) (x3 : Int32) (x4 : Int32) (M : Mem), wp_Model_kinds_22 X22 R x1 x2 x3 x4 M → X22 x1 x2 x3 x4 M) by
    have hk := h X22 hcl
    refine lv_aload_n hx hb d_Model_kinds_0 rfl (lv_at hl 0 rfl) ?_
    refine lv_iload_n hx hb d_Model_kinds_1 rfl (lv_at hl 1 rfl) ?_
    refine r_runZ (k_V (As := [.int a1]) (rest := []) C hW hP (c_Model_isHouse hI a1 M _ hk) cb_Model_isHouse ml_Model_121 (io_29 g M) ⟨by decide, by decide⟩ rfl hl.1 rfl (Nat.le_of_ble_eq_true rfl) d_Model_kinds_2 ⟨by decide, by decide⟩) hS (fun r12 M11 H locs zr12 hk hP hS => ?_)
    refine lv_if_ne (tgt := 10) hx hb d_Model_kinds_5 (by decide) (fun c13 => ?_) (fun c13 => ?_)
    · have hk := hk.1 c13
      refine lv_aload_n hx hb d_Model_kinds_10 rfl (lv_at hl 0 rfl) ?_
      refine gf_29_7 C hW hP fl_Model_19 d_Model_kinds_11 ?_
      refine lv_iload_n hx hb d_Model_kinds_14 rfl (lv_at hl 1 rfl) ?_
      obtain ⟨h14, hk⟩ := hk
      refine al_33 C hW hP h14 d_Model_kinds_15 ?_
      refine lv_topi (fun x2_15 ex2_15 => ?_)
      have hk := hk x2_15 ex2_15
      refine lv_istore_n (lv' := [(2, .int x2_15), (0, .ref (g.2.2.2 29)), (1, .int a1)]) hx hb d_Model_kinds_16 rfl hl (by decide) rfl (fun ls hl => ?_)
      refine lv_iconst (v := 0) hx hb d_Model_kinds_17 (by decide) ?_
      refine lv_istore_n (lv' := [(3, .int (0 : Int32)), (2, .int x2_15), (0, .ref (g.2.2.2 29)), (1, .int a1)]) hx hb d_Model_kinds_18 rfl hl (by decide) rfl (fun ls hl => ?_)
      refine lv_iconst (v := 0) hx hb d_Model_kinds_19 (by decide) ?_
      refine lv_istore (lv' := [(4, .int (0 : Int32)), (3, .int (0 : Int32)), (2, .int x2_15), (0, .ref (g.2.2.2 29)), (1, .int a1)]) hx hb d_Model_kinds_20 hl (by decide) rfl (fun ls hl => ?_)
      exact (eX22 a1 x2_15 (0 : Int32) (0 : Int32) M11).mp hk _ _ _ hP hS (lv_sub hl [3, 4, 2, 1, 0] rfl)
    · have hk := hk.2 c13
      refine lv_iconst (v := -1) hx hb d_Model_kinds_8 (by decide) ?_
      exact r_iret C hr hlocks hP hS hk d_Model_kinds_9
  · intro x1 x2 x3 x4 M hk
    refine (eX22 x1 x2 x3 x4 M).mpr ?_
    intro H locs ls hP hS hl
    unfold wp_Model_kinds_22 at hk
    refine lv_iload hx hb d_Model_kinds_22 (lv_at hl 4 rfl) ?_
    refine lv_iconst (v := 3) hx hb d_Model_kinds_24 (by decide) ?_
    refine lv_icmp_ge (tgt := 60) hx hb d_Model_kinds_25 (by decide) (fun c1 => ?_) (fun c1 => ?_)
    · have hk := hk.1 c1
      refine lv_aload_n hx hb d_Model_kinds_60 rfl (lv_at hl 0 rfl) ?_
      refine gf_29_7 C hW hP fl_Model_19 d_Model_kinds_61 ?_
      refine lv_iload_n hx hb d_Model_kinds_64 rfl (lv_at hl 1 rfl) ?_
      refine lv_iload_n hx hb d_Model_kinds_65 rfl (lv_at hl 2 rfl) ?_
      obtain ⟨h2, hk⟩ := hk
      refine as_33 hI C hW hP hS h2 d_Model_kinds_66 (fun M3 eM3 H locs hP hS => ?_)
      have hk := hk M3 eM3
      refine lv_iload_n hx hb d_Model_kinds_67 rfl (lv_at hl 3 rfl) ?_
      exact r_iret C hr hlocks hP hS hk d_Model_kinds_68
    · have hk := hk.2 c1
      refine lv_aload_n hx hb d_Model_kinds_28 rfl (lv_at hl 0 rfl) ?_
      refine gf_29_7 C hW hP fl_Model_19 d_Model_kinds_29 ?_
      refine lv_iload_n hx hb d_Model_kinds_32 rfl (lv_at hl 1 rfl) ?_
      refine lv_iload hx hb d_Model_kinds_33 (lv_at hl 4 rfl) ?_
      obtain ⟨h4, hk⟩ := hk
      refine as_33 hI C hW hP hS h4 d_Model_kinds_35 (fun M5 eM5 H locs hP hS => ?_)
      have hk := hk M5 eM5
      refine lv_iload_n hx hb d_Model_kinds_36 rfl (lv_at hl 3 rfl) ?_
      refine lv_aload_n hx hb d_Model_kinds_37 rfl (lv_at hl 0 rfl) ?_
      refine r_runZ (k_V (As := []) (rest := [.int x3]) C hW hP (c_Model_areSo hI M5 _ hk) cb_Model_areSo ml_Model_188 (io_29 g M5) ⟨by decide, by decide⟩ rfl hl.1 rfl (Nat.le_of_ble_eq_true rfl) d_Model_kinds_38 ⟨by decide, by decide⟩) hS (fun r7 M6 H locs zr7 hk hP hS => ?_)
      refine lv_if_eq (tgt := 51) hx hb d_Model_kinds_41 (by decide) (fun c8 => ?_) (fun c8 => ?_)
      · have hk := hk.1 c8
        refine lv_iconst (v := 0) hx hb d_Model_kinds_51 (by decide) ?_
        exact J52 x1 x2 x4 x3 (0 : Int32) M6 hk _ _ _ hP hS (lv_sub hl [0, 1, 2, 4] rfl)
      · have hk := hk.2 c8
        refine lv_iconst (v := 1) hx hb d_Model_kinds_44 (by decide) ?_
        refine lv_iload hx hb d_Model_kinds_45 (lv_at hl 4 rfl) ?_
        refine lv_ishl hx hb d_Model_kinds_47 ?_
        refine lv_goto (tgt := 52) hx hb d_Model_kinds_48 (by decide) ?_
        exact J52 x1 x2 x4 x3 ((1 : Int32) <<< (x4 &&& (31 : Int32))) M6 hk _ _ _ hP hS (lv_sub hl [0, 1, 2, 4] rfl)
theorem d_Model_inLeastTerms_0 : decode b_Model_inLeastTerms 0 = .ok (.lload_n 0, 1) := by decide +kernel
theorem d_Model_inLeastTerms_1 : decode b_Model_inLeastTerms 1 = .ok (.lstore 5, 2) := by decide +kernel
theorem d_Model_inLeastTerms_3 : decode b_Model_inLeastTerms 3 = .ok (.lload_n 2, 1) := by decide +kernel
theorem d_Model_inLeastTerms_4 : decode b_Model_inLeastTerms 4 = .ok (.lstore 7, 2) := by decide +kernel
theorem d_Model_inLeastTerms_6 : decode b_Model_inLeastTerms 6 = .ok (.lload 7, 2) := by decide +kernel
theorem d_Model_inLeastTerms_8 : decode b_Model_inLeastTerms 8 = .ok (.lconst 0, 1) := by decide +kernel
theorem d_Model_inLeastTerms_9 : decode b_Model_inLeastTerms 9 = .ok (.lcmp, 1) := by decide +kernel
theorem d_Model_inLeastTerms_10 : decode b_Model_inLeastTerms 10 = .ok (.ifCond .eq 21, 3) := by decide +kernel
theorem d_Model_inLeastTerms_13 : decode b_Model_inLeastTerms 13 = .ok (.lload 5, 2) := by decide +kernel
theorem d_Model_inLeastTerms_15 : decode b_Model_inLeastTerms 15 = .ok (.lload 7, 2) := by decide +kernel
theorem d_Model_inLeastTerms_17 : decode b_Model_inLeastTerms 17 = .ok (.lrem, 1) := by decide +kernel
theorem d_Model_inLeastTerms_18 : decode b_Model_inLeastTerms 18 = .ok (.lstore 9, 2) := by decide +kernel
theorem d_Model_inLeastTerms_20 : decode b_Model_inLeastTerms 20 = .ok (.lload 7, 2) := by decide +kernel
theorem d_Model_inLeastTerms_22 : decode b_Model_inLeastTerms 22 = .ok (.lstore 5, 2) := by decide +kernel
theorem d_Model_inLeastTerms_24 : decode b_Model_inLeastTerms 24 = .ok (.lload 9, 2) := by decide +kernel
theorem d_Model_inLeastTerms_26 : decode b_Model_inLeastTerms 26 = .ok (.lstore 7, 2) := by decide +kernel
theorem d_Model_inLeastTerms_28 : decode b_Model_inLeastTerms 28 = .ok (.goto (-22), 3) := by decide +kernel
theorem d_Model_inLeastTerms_31 : decode b_Model_inLeastTerms 31 = .ok (.iload 4, 2) := by decide +kernel
theorem d_Model_inLeastTerms_33 : decode b_Model_inLeastTerms 33 = .ok (.ifCond .ne 10, 3) := by decide +kernel
theorem d_Model_inLeastTerms_36 : decode b_Model_inLeastTerms 36 = .ok (.lload_n 0, 1) := by decide +kernel
theorem d_Model_inLeastTerms_37 : decode b_Model_inLeastTerms 37 = .ok (.lload 5, 2) := by decide +kernel
theorem d_Model_inLeastTerms_39 : decode b_Model_inLeastTerms 39 = .ok (.ldiv, 1) := by decide +kernel
theorem d_Model_inLeastTerms_40 : decode b_Model_inLeastTerms 40 = .ok (.goto 7, 3) := by decide +kernel
theorem d_Model_inLeastTerms_43 : decode b_Model_inLeastTerms 43 = .ok (.lload_n 2, 1) := by decide +kernel
theorem d_Model_inLeastTerms_44 : decode b_Model_inLeastTerms 44 = .ok (.lload 5, 2) := by decide +kernel
theorem d_Model_inLeastTerms_46 : decode b_Model_inLeastTerms 46 = .ok (.ldiv, 1) := by decide +kernel
theorem d_Model_inLeastTerms_47 : decode b_Model_inLeastTerms 47 = .ok (.lreturn, 1) := by decide +kernel
set_option maxRecDepth 20000 in
theorem c_Model_inLeastTerms {l : Launch} {g : GG} (hI : WI g) (a0 : Int64) (a2 : Int64) (a4 : Int32) (M : Mem) (R : Int64 → Mem → Prop) (h : wp_Model_inLeastTerms a0 a2 a4 M R) : Met l y_Model_inLeastTerms (wm y_Model_inLeastTerms b_Model_inLeastTerms 11 (some .long)) (RM 0 0) (PP g M [.long a0, .long a2, .int a4]) (PQ g (RL R)) 0 0 (AW g) := by
  refine m_of (own := N_Model) (by decide) rfl (Nat.le_of_ble_eq_true rfl) ?_
  intro p e s m below meth c ls C hr hlocks hW hP hS hl
  obtain ⟨hx, hb, hml, hown, hts⟩ := id C
  have hl : lv_has ls 11 [(0, .long a0), (2, .long a2), (4, .int a4)] := hl
  unfold wp_Model_inLeastTerms at h
  obtain ⟨X6, eX6⟩ : ∃ X : Int64 → Int64 → Int32 → Int64 → Int64 → Mem → Prop, ∀ (x0 : Int64) (x2 : Int64) (x4 : Int32) (x5 : Int64) (x7 : Int64) (M : Mem), X x0 x2 x4 x5 x7 M ↔ (∀ (H : Heap) (locs : List Loc) (ls : Array Slot), WP g M H → va_S (AW g) s.heap H locs → lv_has ls 11 [(0, .long x0), (2, .long x2), (4, .int x4), (5, .long x5), (7, .long x7)] → W p l e (RM 0 0) s m ([.long a0, .long a2, .int a4] : List Value).toArray below meth c H locs 0 0 (MQ below (PQ g (RL R)) ([.long a0, .long a2, .int a4] : List Value).toArray s 0 0 (AW g)) (F0 m 6 ls [])) := ⟨fun x0 x2 x4 x5 x7 M => _, fun _ _ _ _ _ _ => Iff.rfl⟩
  suffices hcl : (∀ (x0 : Int64) (x2 : Int64) (x4 : Int32) (x5 : Int64) (x7 : Int64) (M : Mem), wp_Model_inLeastTerms_6 X6 R x0 x2 x4 x5 x7 M → X6 x0 x2 x4 x5 x7 M) by
    have hk := h X6 hcl
    refine lv_lload_n hx hb d_Model_inLeastTerms_0 rfl (lv_at hl 0 rfl) ?_
    refine lv_lstore (lv' := [(5, .long a0), (0, .long a0), (2, .long a2), (4, .int a4)]) hx hb d_Model_inLeastTerms_1 hl (by decide) rfl (fun ls hl => ?_)
    refine lv_lload_n hx hb d_Model_inLeastTerms_3 rfl (lv_at hl 2 rfl) ?_
    refine lv_lstore (lv' := [(7, .long a2), (5, .long a0), (0, .long a0), (2, .long a2), (4, .int a4)]) hx hb d_Model_inLeastTerms_4 hl (by decide) rfl (fun ls hl => ?_)
    exact (eX6 a0 a2 a4 a0 a2 M).mp hk _ _ _ hP hS (lv_sub hl [2, 3, 4, 1, 0] rfl)
  · intro x0 x2 x4 x5 x7 M hk
    refine (eX6 x0 x2 x4 x5 x7 M).mpr ?_
    intro H locs ls hP hS hl
    unfold wp_Model_inLeastTerms_6 at hk
    refine lv_lload hx hb d_Model_inLeastTerms_6 (lv_at hl 4 rfl) ?_
    refine lv_lconst (v := 0) hx hb d_Model_inLeastTerms_8 (by decide) ?_
    refine W.lcmp hx hb d_Model_inLeastTerms_9 ?_
    refine lv_if_eq (tgt := 31) hx hb d_Model_inLeastTerms_10 (by decide) (fun c1 => ?_) (fun c1 => ?_)
    · have hk := hk.1 c1
      refine lv_iload hx hb d_Model_inLeastTerms_31 (lv_at hl 2 rfl) ?_
      refine lv_if_ne (tgt := 43) hx hb d_Model_inLeastTerms_33 (by decide) (fun c2 => ?_) (fun c2 => ?_)
      · have hk := hk.1 c2
        refine lv_lload_n hx hb d_Model_inLeastTerms_43 rfl (lv_at hl 1 rfl) ?_
        refine lv_lload hx hb d_Model_inLeastTerms_44 (lv_at hl 3 rfl) ?_
        obtain ⟨h3, hk⟩ := hk
        refine lv_ldiv hx hb d_Model_inLeastTerms_46 h3 ?_
        exact r_lret C hr hlocks hP hS hk d_Model_inLeastTerms_47
      · have hk := hk.2 c2
        refine lv_lload_n hx hb d_Model_inLeastTerms_36 rfl (lv_at hl 0 rfl) ?_
        refine lv_lload hx hb d_Model_inLeastTerms_37 (lv_at hl 3 rfl) ?_
        obtain ⟨h4, hk⟩ := hk
        refine lv_ldiv hx hb d_Model_inLeastTerms_39 h4 ?_
        refine lv_goto (tgt := 47) hx hb d_Model_inLeastTerms_40 (by decide) ?_
        exact r_lret C hr hlocks hP hS hk d_Model_inLeastTerms_47
    · have hk := hk.2 c1
      refine lv_lload hx hb d_Model_inLeastTerms_13 (lv_at hl 3 rfl) ?_
      refine lv_lload hx hb d_Model_inLeastTerms_15 (lv_at hl 4 rfl) ?_
      obtain ⟨h5, hk⟩ := hk
      refine lv_lrem hx hb d_Model_inLeastTerms_17 h5 ?_
      refine lv_topl (fun x9_6 ex9_6 => ?_)
      have hk := hk x9_6 ex9_6
      refine lv_lstore (lv' := [(9, .long x9_6), (0, .long x0), (2, .long x2), (4, .int x4), (5, .long x5), (7, .long x7)]) hx hb d_Model_inLeastTerms_18 hl (by decide) rfl (fun ls hl => ?_)
      refine lv_lload hx hb d_Model_inLeastTerms_20 (lv_at hl 5 rfl) ?_
      refine lv_lstore (lv' := [(5, .long x7), (9, .long x9_6), (0, .long x0), (2, .long x2), (4, .int x4), (7, .long x7)]) hx hb d_Model_inLeastTerms_22 hl (by decide) rfl (fun ls hl => ?_)
      refine lv_lload hx hb d_Model_inLeastTerms_24 (lv_at hl 1 rfl) ?_
      refine lv_lstore (lv' := [(7, .long x9_6), (5, .long x7), (9, .long x9_6), (0, .long x0), (2, .long x2), (4, .int x4)]) hx hb d_Model_inLeastTerms_26 hl (by decide) rfl (fun ls hl => ?_)
      refine lv_goto (tgt := 6) hx hb d_Model_inLeastTerms_28 (by decide) ?_
      exact (eX6 x0 x2 x4 x7 x9_6 M).mp hk _ _ _ hP hS (lv_sub hl [3, 4, 5, 1, 0] rfl)
theorem d_Model_odds_0 : decode b_Model_odds 0 = .ok (.aload_n 0, 1) := by decide +kernel
theorem d_Model_odds_1 : decode b_Model_odds 1 = .ok (.iload_n 1, 1) := by decide +kernel
theorem d_Model_odds_2 : decode b_Model_odds 2 = .ok (.invokevirtual 124, 3) := by decide +kernel
theorem d_Model_odds_5 : decode b_Model_odds 5 = .ok (.ifCond .eq 12, 3) := by decide +kernel
theorem d_Model_odds_8 : decode b_Model_odds 8 = .ok (.iload_n 2, 1) := by decide +kernel
theorem d_Model_odds_9 : decode b_Model_odds 9 = .ok (.iconst 0, 1) := by decide +kernel
theorem d_Model_odds_10 : decode b_Model_odds 10 = .ok (.iconst 1, 1) := by decide +kernel
theorem d_Model_odds_11 : decode b_Model_odds 11 = .ok (.invokestatic 67, 3) := by decide +kernel
theorem d_Model_odds_14 : decode b_Model_odds 14 = .ok (.ifCond .ne 7, 3) := by decide +kernel
theorem d_Model_odds_17 : decode b_Model_odds 17 = .ok (.ldc2_w 65, 3) := by decide +kernel
theorem d_Model_odds_20 : decode b_Model_odds 20 = .ok (.lreturn, 1) := by decide +kernel
theorem d_Model_odds_21 : decode b_Model_odds 21 = .ok (.iconst 0, 1) := by decide +kernel
theorem d_Model_odds_22 : decode b_Model_odds 22 = .ok (.istore_n 3, 1) := by decide +kernel
theorem d_Model_odds_23 : decode b_Model_odds 23 = .ok (.iconst 0, 1) := by decide +kernel
theorem d_Model_odds_24 : decode b_Model_odds 24 = .ok (.istore 4, 2) := by decide +kernel
theorem d_Model_odds_26 : decode b_Model_odds 26 = .ok (.iconst 1, 1) := by decide +kernel
theorem d_Model_odds_27 : decode b_Model_odds 27 = .ok (.istore 5, 2) := by decide +kernel
theorem d_Model_odds_29 : decode b_Model_odds 29 = .ok (.aload_n 0, 1) := by decide +kernel
theorem d_Model_odds_30 : decode b_Model_odds 30 = .ok (.invokevirtual 166, 3) := by decide +kernel
theorem d_Model_odds_33 : decode b_Model_odds 33 = .ok (.iload 5, 2) := by decide +kernel
theorem d_Model_odds_35 : decode b_Model_odds 35 = .ok (.ifCond .eq 40, 3) := by decide +kernel
theorem d_Model_odds_38 : decode b_Model_odds 38 = .ok (.aload_n 0, 1) := by decide +kernel
theorem d_Model_odds_39 : decode b_Model_odds 39 = .ok (.invokevirtual 169, 3) := by decide +kernel
theorem d_Model_odds_42 : decode b_Model_odds 42 = .ok (.iload 4, 2) := by decide +kernel
theorem d_Model_odds_44 : decode b_Model_odds 44 = .ok (.aload_n 0, 1) := by decide +kernel
theorem d_Model_odds_45 : decode b_Model_odds 45 = .ok (.getfield 44, 3) := by decide +kernel
theorem d_Model_odds_48 : decode b_Model_odds 48 = .ok (.iload_n 1, 1) := by decide +kernel
theorem d_Model_odds_49 : decode b_Model_odds 49 = .ok (.iaload, 1) := by decide +kernel
theorem d_Model_odds_50 : decode b_Model_odds 50 = .ok (.bipush (-9), 2) := by decide +kernel
theorem d_Model_odds_52 : decode b_Model_odds 52 = .ok (.if_icmp .ne 7, 3) := by decide +kernel
theorem d_Model_odds_55 : decode b_Model_odds 55 = .ok (.iconst 1, 1) := by decide +kernel
theorem d_Model_odds_56 : decode b_Model_odds 56 = .ok (.goto 4, 3) := by decide +kernel
theorem d_Model_odds_59 : decode b_Model_odds 59 = .ok (.iconst 0, 1) := by decide +kernel
theorem d_Model_odds_60 : decode b_Model_odds 60 = .ok (.iadd, 1) := by decide +kernel
theorem d_Model_odds_61 : decode b_Model_odds 61 = .ok (.istore 4, 2) := by decide +kernel
theorem d_Model_odds_63 : decode b_Model_odds 63 = .ok (.iinc 3 1, 3) := by decide +kernel
theorem d_Model_odds_66 : decode b_Model_odds 66 = .ok (.aload_n 0, 1) := by decide +kernel
theorem d_Model_odds_67 : decode b_Model_odds 67 = .ok (.invokevirtual 175, 3) := by decide +kernel
theorem d_Model_odds_70 : decode b_Model_odds 70 = .ok (.istore 5, 2) := by decide +kernel
theorem d_Model_odds_72 : decode b_Model_odds 72 = .ok (.goto (-39), 3) := by decide +kernel
theorem d_Model_odds_75 : decode b_Model_odds 75 = .ok (.iload 4, 2) := by decide +kernel
theorem d_Model_odds_77 : decode b_Model_odds 77 = .ok (.i2l, 1) := by decide +kernel
theorem d_Model_odds_78 : decode b_Model_odds 78 = .ok (.iload_n 3, 1) := by decide +kernel
theorem d_Model_odds_79 : decode b_Model_odds 79 = .ok (.i2l, 1) := by decide +kernel
theorem d_Model_odds_80 : decode b_Model_odds 80 = .ok (.iload_n 2, 1) := by decide +kernel
theorem d_Model_odds_81 : decode b_Model_odds 81 = .ok (.invokestatic 191, 3) := by decide +kernel
theorem d_Model_odds_84 : decode b_Model_odds 84 = .ok (.lreturn, 1) := by decide +kernel
set_option maxRecDepth 20000 in
theorem c_Model_odds {l : Launch} {g : GG} (hI : WI g) (a1 : Int32) (a2 : Int32) (M : Mem) (R : Int64 → Mem → Prop) (h : wp_Model_odds a1 a2 M R) : Met l y_Model_odds (wm y_Model_odds b_Model_odds 6 (some .long)) (RM 4 94) (PP g M [.ref (g.2.2.2 29), .int a1, .int a2]) (PQ g (RL R)) 0 0 (AW g) := by
  refine m_of (own := N_Model) (by decide) rfl (Nat.le_of_ble_eq_true rfl) ?_
  intro p e s m below meth c ls C hr hlocks hW hP hS hl
  obtain ⟨hx, hb, hml, hown, hts⟩ := id C
  have hl : lv_has ls 6 [(0, .ref (g.2.2.2 29)), (1, .int a1), (2, .int a2)] := hl
  unfold wp_Model_odds at h
  obtain ⟨X33, eX33⟩ : ∃ X : Int32 → Int32 → Int32 → Int32 → Int32 → Mem → Prop, ∀ (x1 : Int32) (x2 : Int32) (x3 : Int32) (x4 : Int32) (x5 : Int32) (M : Mem), X x1 x2 x3 x4 x5 M ↔ (∀ (H : Heap) (locs : List Loc) (ls : Array Slot), WP g M H → va_S (AW g) s.heap H locs → lv_has ls 6 [(0, .ref (g.2.2.2 29)), (1, .int x1), (2, .int x2), (3, .int x3), (4, .int x4), (5, .int x5)] → W p l e (RM 4 94) s m ([.ref (g.2.2.2 29), .int a1, .int a2] : List Value).toArray below meth c H locs 0 0 (MQ below (PQ g (RL R)) ([.ref (g.2.2.2 29), .int a1, .int a2] : List Value).toArray s 0 0 (AW g)) (F0 m 33 ls [])) := ⟨fun x1 x2 x3 x4 x5 M => _, fun _ _ _ _ _ _ => Iff.rfl⟩
  have J60 : ∀ (x1 : Int32) (x2 : Int32) (x3 : Int32) (s0 : Int32) (s1 : Int32) (M : Mem), wp_Model_odds_60 X33 R x1 x2 x3 s0 s1 M → ∀ (H : Heap) (locs : List Loc) (ls : Array Slot), WP g M H → va_S (AW g) s.heap H locs → lv_has ls 6 [(0, .ref (g.2.2.2 29)), (1, .int x1), (2, .int x2), (3, .int x3)] → W p l e (RM 4 94) s m ([.ref (g.2.2.2 29), .int a1, .int a2] : List Value).toArray below meth c H locs 0 0 (MQ below (PQ g (RL R)) ([.ref (g.2.2.2 29), .int a1, .int a2] : List Value).toArray s 0 0 (AW g)) (F0 m 60 ls [.int s1, .int s0]) := by
    intro x1 x2 x3 s0 s1 M hk H locs ls hP hS hl
    unfold wp_Model_odds_60 at hk
    refine lv_iadd hx hb d_Model_odds_60 ?_
    refine lv_topi (fun x4_7 ex4_7 => ?_)
    have hk := hk x4_7 ex4_7
    refine lv_istore (lv' := [(4, .int x4_7), (0, .ref (g.2.2.2 29)), (1, .int x1), (2, .int x2), (3, .int x3)]) hx hb d_Model_odds_61 hl (by decide) rfl (fun ls hl => ?_)
    obtain ⟨x3_8, ex3_8⟩ : ∃ y : Int32, y = x3 + (1 : Int32) := ⟨_, rfl⟩
    have hk := hk x3_8 ex3_8
    refine lv_iinc (v := x3_8) (lv' := [(3, .int x3_8), (4, .int x4_7), (0, .ref (g.2.2.2 29)), (1, .int x1), (2, .int x2)]) hx hb d_Model_odds_63 hl (k := 4) rfl (by rw [ex3_8]; rfl) (by decide) rfl (fun ls hl => ?_)
    refine lv_aload_n hx hb d_Model_odds_66 rfl (lv_at hl 2 rfl) ?_
    refine r_runZ (k_V (As := []) (rest := []) C hW hP (c_Model_nextRow hI M _ hk) cb_Model_nextRow ml_Model_175 (io_29 g M) ⟨by decide, by decide⟩ rfl hl.1 rfl (Nat.le_of_ble_eq_true rfl) d_Model_odds_67 ⟨by decide, by decide⟩) hS (fun r10 M9 H locs zr10 hk hP hS => ?_)
    refine lv_istore (lv' := [(5, .int r10), (3, .int x3_8), (4, .int x4_7), (0, .ref (g.2.2.2 29)), (1, .int x1), (2, .int x2)]) hx hb d_Model_odds_70 hl (by decide) rfl (fun ls hl => ?_)
    refine lv_goto (tgt := 33) hx hb d_Model_odds_72 (by decide) ?_
    exact (eX33 x1 x2 x3_8 x4_7 r10 M9).mp hk _ _ _ hP hS (lv_sub hl [3, 4, 5, 1, 2, 0] rfl)
  suffices hcl : (∀ (x1 : Int32) (x2 : Int32) (x3 : Int32) (x4 : Int32) (x5 : Int32) (M : Mem), wp_Model_odds_33 X33 R x1 x2 x3 x4 x5 M → X33 x1 x2 x3 x4 x5 M) by
    have hk := h X33 hcl
    refine lv_aload_n hx hb d_Model_odds_0 rfl (lv_at hl 0 rfl) ?_
    refine lv_iload_n hx hb d_Model_odds_1 rfl (lv_at hl 1 rfl) ?_
    refine r_runZ (k_V (As := [.int a1]) (rest := []) C hW hP (c_Model_isGuest hI a1 M _ hk) cb_Model_isGuest ml_Model_124 (io_29 g M) ⟨by decide, by decide⟩ rfl hl.1 rfl (Nat.le_of_ble_eq_true rfl) d_Model_odds_2 ⟨by decide, by decide⟩) hS (fun r12 M11 H locs zr12 hk hP hS => ?_)
    refine lv_if_eq (tgt := 17) hx hb d_Model_odds_5 (by decide) (fun c13 => ?_) (fun c13 => ?_)
    · have hk := hk.1 c13
      refine lv_ldc2 (v := -9223372036854775808) hx hb hown (C.2.2.2.2 _ kc_Model_65) d_Model_odds_17 ?_
      exact r_lret C hr hlocks hP hS hk d_Model_odds_20
    · have hk := hk.2 c13
      refine lv_iload_n hx hb d_Model_odds_8 rfl (lv_at hl 2 rfl) ?_
      refine lv_iconst (v := 0) hx hb d_Model_odds_9 (by decide) ?_
      refine lv_iconst (v := 1) hx hb d_Model_odds_10 (by decide) ?_
      refine r_runZ (k_S (As := [.int a2, .int (0 : Int32), .int (1 : Int32)]) (rest := []) C hW hP (c_Model_within hI a2 (0 : Int32) (1 : Int32) M11 _ hk) cb_Model_within ml_Model_67 ⟨by decide, by decide⟩ rfl hl.1 rfl (Nat.le_of_ble_eq_true rfl) d_Model_odds_11 ⟨by decide, by decide⟩) hS (fun r15 M14 H locs zr15 hk hP hS => ?_)
      refine lv_if_ne (tgt := 21) hx hb d_Model_odds_14 (by decide) (fun c16 => ?_) (fun c16 => ?_)
      · have hk := hk.1 c16
        refine lv_iconst (v := 0) hx hb d_Model_odds_21 (by decide) ?_
        refine lv_istore_n (lv' := [(3, .int (0 : Int32)), (0, .ref (g.2.2.2 29)), (1, .int a1), (2, .int a2)]) hx hb d_Model_odds_22 rfl hl (by decide) rfl (fun ls hl => ?_)
        refine lv_iconst (v := 0) hx hb d_Model_odds_23 (by decide) ?_
        refine lv_istore (lv' := [(4, .int (0 : Int32)), (3, .int (0 : Int32)), (0, .ref (g.2.2.2 29)), (1, .int a1), (2, .int a2)]) hx hb d_Model_odds_24 hl (by decide) rfl (fun ls hl => ?_)
        refine lv_iconst (v := 1) hx hb d_Model_odds_26 (by decide) ?_
        refine lv_istore (lv' := [(5, .int (1 : Int32)), (4, .int (0 : Int32)), (3, .int (0 : Int32)), (0, .ref (g.2.2.2 29)), (1, .int a1), (2, .int a2)]) hx hb d_Model_odds_27 hl (by decide) rfl (fun ls hl => ?_)
        refine lv_aload_n hx hb d_Model_odds_29 rfl (lv_at hl 3 rfl) ?_
        refine r_runV (k_V (As := []) (rest := []) C hW hP (c_Model_beginRows hI M14 _ hk) cb_Model_beginRows ml_Model_166 (io_29 g M14) ⟨by decide, by decide⟩ rfl hl.1 rfl (Nat.le_of_ble_eq_true rfl) d_Model_odds_30 ⟨by decide, by decide⟩) hS (fun M17 H locs hk hP hS => ?_)
        exact (eX33 a1 a2 (0 : Int32) (0 : Int32) (1 : Int32) M17).mp hk _ _ _ hP hS (lv_sub hl [3, 4, 5, 2, 1, 0] rfl)
      · have hk := hk.2 c16
        refine lv_ldc2 (v := -9223372036854775808) hx hb hown (C.2.2.2.2 _ kc_Model_65) d_Model_odds_17 ?_
        exact r_lret C hr hlocks hP hS hk d_Model_odds_20
  · intro x1 x2 x3 x4 x5 M hk
    refine (eX33 x1 x2 x3 x4 x5 M).mpr ?_
    intro H locs ls hP hS hl
    unfold wp_Model_odds_33 at hk
    refine lv_iload hx hb d_Model_odds_33 (lv_at hl 5 rfl) ?_
    refine lv_if_eq (tgt := 75) hx hb d_Model_odds_35 (by decide) (fun c1 => ?_) (fun c1 => ?_)
    · have hk := hk.1 c1
      refine lv_iload hx hb d_Model_odds_75 (lv_at hl 4 rfl) ?_
      refine lv_i2l hx hb d_Model_odds_77 rfl ?_
      refine lv_iload_n hx hb d_Model_odds_78 rfl (lv_at hl 3 rfl) ?_
      refine lv_i2l hx hb d_Model_odds_79 rfl ?_
      refine lv_iload_n hx hb d_Model_odds_80 rfl (lv_at hl 2 rfl) ?_
      refine r_runL (k_S (As := [.long x4.toInt64, .long x3.toInt64, .int x2]) (rest := []) C hW hP (c_Model_inLeastTerms hI x4.toInt64 x3.toInt64 x2 M _ hk) cb_Model_inLeastTerms ml_Model_191 ⟨by decide, by decide⟩ rfl hl.1 rfl (Nat.le_of_ble_eq_true rfl) d_Model_odds_81 ⟨by decide, by decide⟩) hS (fun r3 M2 H locs hk hP hS => ?_)
      exact r_lret C hr hlocks hP hS hk d_Model_odds_84
    · have hk := hk.2 c1
      refine lv_aload_n hx hb d_Model_odds_38 rfl (lv_at hl 0 rfl) ?_
      refine r_runV (k_V (As := []) (rest := []) C hW hP (c_Model_goRow hI M _ hk) cb_Model_goRow ml_Model_169 (io_29 g M) ⟨by decide, by decide⟩ rfl hl.1 rfl (Nat.le_of_ble_eq_true rfl) d_Model_odds_39 ⟨by decide, by decide⟩) hS (fun M4 H locs hk hP hS => ?_)
      refine lv_iload hx hb d_Model_odds_42 (lv_at hl 4 rfl) ?_
      refine lv_aload_n hx hb d_Model_odds_44 rfl (lv_at hl 0 rfl) ?_
      refine gf_29_19 C hW hP fl_Model_44 d_Model_odds_45 ?_
      refine lv_iload_n hx hb d_Model_odds_48 rfl (lv_at hl 1 rfl) ?_
      obtain ⟨h5, hk⟩ := hk
      refine al_40 C hW hP h5 d_Model_odds_49 ?_
      refine lv_bipush (v := -9) hx hb d_Model_odds_50 (by decide) ?_
      refine lv_icmp_ne (tgt := 59) hx hb d_Model_odds_52 (by decide) (fun c6 => ?_) (fun c6 => ?_)
      · have hk := hk.1 c6
        refine lv_iconst (v := 0) hx hb d_Model_odds_59 (by decide) ?_
        exact J60 x1 x2 x3 x4 (0 : Int32) M4 hk _ _ _ hP hS (lv_sub hl [0, 1, 2, 3] rfl)
      · have hk := hk.2 c6
        refine lv_iconst (v := 1) hx hb d_Model_odds_55 (by decide) ?_
        refine lv_goto (tgt := 60) hx hb d_Model_odds_56 (by decide) ?_
        exact J60 x1 x2 x3 x4 (1 : Int32) M4 hk _ _ _ hP hS (lv_sub hl [0, 1, 2, 3] rfl)
theorem d_Model_sheet_0 : decode b_Model_sheet 0 = .ok (.aload_n 0, 1) := by decide +kernel
theorem d_Model_sheet_1 : decode b_Model_sheet 1 = .ok (.iconst 0, 1) := by decide +kernel
theorem d_Model_sheet_2 : decode b_Model_sheet 2 = .ok (.putfield 62, 3) := by decide +kernel
theorem d_Model_sheet_5 : decode b_Model_sheet 5 = .ok (.iload_n 1, 1) := by decide +kernel
theorem d_Model_sheet_6 : decode b_Model_sheet 6 = .ok (.invokestatic 80, 3) := by decide +kernel
theorem d_Model_sheet_9 : decode b_Model_sheet 9 = .ok (.ifCond .ne 5, 3) := by decide +kernel
theorem d_Model_sheet_12 : decode b_Model_sheet 12 = .ok (.iconst (-1), 1) := by decide +kernel
theorem d_Model_sheet_13 : decode b_Model_sheet 13 = .ok (.ireturn, 1) := by decide +kernel
theorem d_Model_sheet_14 : decode b_Model_sheet 14 = .ok (.iload_n 2, 1) := by decide +kernel
theorem d_Model_sheet_15 : decode b_Model_sheet 15 = .ok (.invokestatic 84, 3) := by decide +kernel
theorem d_Model_sheet_18 : decode b_Model_sheet 18 = .ok (.ifCond .eq 9, 3) := by decide +kernel
theorem d_Model_sheet_21 : decode b_Model_sheet 21 = .ok (.iload_n 3, 1) := by decide +kernel
theorem d_Model_sheet_22 : decode b_Model_sheet 22 = .ok (.bipush 60, 2) := by decide +kernel
theorem d_Model_sheet_24 : decode b_Model_sheet 24 = .ok (.if_icmp .le 6, 3) := by decide +kernel
theorem d_Model_sheet_27 : decode b_Model_sheet 27 = .ok (.bipush (-2), 2) := by decide +kernel
theorem d_Model_sheet_29 : decode b_Model_sheet 29 = .ok (.ireturn, 1) := by decide +kernel
theorem d_Model_sheet_30 : decode b_Model_sheet 30 = .ok (.iload_n 3, 1) := by decide +kernel
theorem d_Model_sheet_31 : decode b_Model_sheet 31 = .ok (.ifCond .ge 9, 3) := by decide +kernel
theorem d_Model_sheet_34 : decode b_Model_sheet 34 = .ok (.aload_n 0, 1) := by decide +kernel
theorem d_Model_sheet_35 : decode b_Model_sheet 35 = .ok (.iconst 4, 1) := by decide +kernel
theorem d_Model_sheet_36 : decode b_Model_sheet 36 = .ok (.invokevirtual 91, 3) := by decide +kernel
theorem d_Model_sheet_39 : decode b_Model_sheet 39 = .ok (.ireturn, 1) := by decide +kernel
theorem d_Model_sheet_40 : decode b_Model_sheet 40 = .ok (.aload_n 0, 1) := by decide +kernel
theorem d_Model_sheet_41 : decode b_Model_sheet 41 = .ok (.getfield 9, 3) := by decide +kernel
theorem d_Model_sheet_44 : decode b_Model_sheet 44 = .ok (.iload_n 1, 1) := by decide +kernel
theorem d_Model_sheet_45 : decode b_Model_sheet 45 = .ok (.iload_n 2, 1) := by decide +kernel
theorem d_Model_sheet_46 : decode b_Model_sheet 46 = .ok (.iastore, 1) := by decide +kernel
theorem d_Model_sheet_47 : decode b_Model_sheet 47 = .ok (.aload_n 0, 1) := by decide +kernel
theorem d_Model_sheet_48 : decode b_Model_sheet 48 = .ok (.getfield 13, 3) := by decide +kernel
theorem d_Model_sheet_51 : decode b_Model_sheet 51 = .ok (.iload_n 1, 1) := by decide +kernel
theorem d_Model_sheet_52 : decode b_Model_sheet 52 = .ok (.iload_n 3, 1) := by decide +kernel
theorem d_Model_sheet_53 : decode b_Model_sheet 53 = .ok (.iastore, 1) := by decide +kernel
theorem d_Model_sheet_54 : decode b_Model_sheet 54 = .ok (.iconst 0, 1) := by decide +kernel
theorem d_Model_sheet_55 : decode b_Model_sheet 55 = .ok (.istore 4, 2) := by decide +kernel
theorem d_Model_sheet_57 : decode b_Model_sheet 57 = .ok (.iload 4, 2) := by decide +kernel
theorem d_Model_sheet_59 : decode b_Model_sheet 59 = .ok (.bipush 60, 2) := by decide +kernel
theorem d_Model_sheet_61 : decode b_Model_sheet 61 = .ok (.if_icmp .ge 22, 3) := by decide +kernel
theorem d_Model_sheet_64 : decode b_Model_sheet 64 = .ok (.aload_n 0, 1) := by decide +kernel
theorem d_Model_sheet_65 : decode b_Model_sheet 65 = .ok (.getfield 16, 3) := by decide +kernel
theorem d_Model_sheet_68 : decode b_Model_sheet 68 = .ok (.bipush 60, 2) := by decide +kernel
theorem d_Model_sheet_70 : decode b_Model_sheet 70 = .ok (.iload_n 1, 1) := by decide +kernel
theorem d_Model_sheet_71 : decode b_Model_sheet 71 = .ok (.imul, 1) := by decide +kernel
theorem d_Model_sheet_72 : decode b_Model_sheet 72 = .ok (.iload 4, 2) := by decide +kernel
theorem d_Model_sheet_74 : decode b_Model_sheet 74 = .ok (.iadd, 1) := by decide +kernel
theorem d_Model_sheet_75 : decode b_Model_sheet 75 = .ok (.iconst 0, 1) := by decide +kernel
theorem d_Model_sheet_76 : decode b_Model_sheet 76 = .ok (.iastore, 1) := by decide +kernel
theorem d_Model_sheet_77 : decode b_Model_sheet 77 = .ok (.iinc 4 1, 3) := by decide +kernel
theorem d_Model_sheet_80 : decode b_Model_sheet 80 = .ok (.goto (-23), 3) := by decide +kernel
theorem d_Model_sheet_83 : decode b_Model_sheet 83 = .ok (.iconst 1, 1) := by decide +kernel
theorem d_Model_sheet_84 : decode b_Model_sheet 84 = .ok (.ireturn, 1) := by decide +kernel
set_option maxRecDepth 20000 in
theorem c_Model_sheet {l : Launch} {g : GG} (hI : WI g) (a1 : Int32) (a2 : Int32) (a3 : Int32) (M : Mem) (R : Int32 → Mem → Prop) (h : wp_Model_sheet a1 a2 a3 M R) : Met l y_Model_sheet (wm y_Model_sheet b_Model_sheet 5 (some .int)) (RM 2 42) (PP g M [.ref (g.2.2.2 29), .int a1, .int a2, .int a3]) (PQ g (RI R)) 0 0 (AW g) := by
  refine m_of (own := N_Model) (by decide) rfl (Nat.le_of_ble_eq_true rfl) ?_
  intro p e s m below meth c ls C hr hlocks hW hP hS hl
  obtain ⟨hx, hb, hml, hown, hts⟩ := id C
  have hl : lv_has ls 5 [(0, .ref (g.2.2.2 29)), (1, .int a1), (2, .int a2), (3, .int a3)] := hl
  unfold wp_Model_sheet at h
  obtain ⟨X57, eX57⟩ : ∃ X : Int32 → Int32 → Mem → Prop, ∀ (x1 : Int32) (x4 : Int32) (M : Mem), X x1 x4 M ↔ (∀ (H : Heap) (locs : List Loc) (ls : Array Slot), WP g M H → va_S (AW g) s.heap H locs → lv_has ls 5 [(0, .ref (g.2.2.2 29)), (1, .int x1), (4, .int x4)] → W p l e (RM 2 42) s m ([.ref (g.2.2.2 29), .int a1, .int a2, .int a3] : List Value).toArray below meth c H locs 0 0 (MQ below (PQ g (RI R)) ([.ref (g.2.2.2 29), .int a1, .int a2, .int a3] : List Value).toArray s 0 0 (AW g)) (F0 m 57 ls [])) := ⟨fun x1 x4 M => _, fun _ _ _ => Iff.rfl⟩
  suffices hcl : (∀ (x1 : Int32) (x4 : Int32) (M : Mem), wp_Model_sheet_57 X57 R x1 x4 M → X57 x1 x4 M) by
    have hk := h X57 hcl
    refine lv_aload_n hx hb d_Model_sheet_0 rfl (lv_at hl 0 rfl) ?_
    refine lv_iconst (v := 0) hx hb d_Model_sheet_1 (by decide) ?_
    refine pf_29_0 hI C hW hP hS fl_Model_62 d_Model_sheet_2 (fun M5 eM5 H locs hP hS => ?_)
    have hk := hk M5 eM5
    refine lv_iload_n hx hb d_Model_sheet_5 rfl (lv_at hl 1 rfl) ?_
    refine r_runZ (k_S (As := [.int a1]) (rest := []) C hW hP (c_Model_isSheet hI a1 M5 _ hk) cb_Model_isSheet ml_Model_80 ⟨by decide, by decide⟩ rfl hl.1 rfl (Nat.le_of_ble_eq_true rfl) d_Model_sheet_6 ⟨by decide, by decide⟩) hS (fun r7 M6 H locs zr7 hk hP hS => ?_)
    refine lv_if_ne (tgt := 14) hx hb d_Model_sheet_9 (by decide) (fun c8 => ?_) (fun c8 => ?_)
    · have hk := hk.1 c8
      refine lv_iload_n hx hb d_Model_sheet_14 rfl (lv_at hl 2 rfl) ?_
      refine r_runZ (k_S (As := [.int a2]) (rest := []) C hW hP (c_Model_isSort hI a2 M6 _ hk) cb_Model_isSort ml_Model_84 ⟨by decide, by decide⟩ rfl hl.1 rfl (Nat.le_of_ble_eq_true rfl) d_Model_sheet_15 ⟨by decide, by decide⟩) hS (fun r10 M9 H locs zr10 hk hP hS => ?_)
      refine lv_if_eq (tgt := 27) hx hb d_Model_sheet_18 (by decide) (fun c11 => ?_) (fun c11 => ?_)
      · have hk := hk.1 c11
        refine lv_bipush (v := -2) hx hb d_Model_sheet_27 (by decide) ?_
        exact r_iret C hr hlocks hP hS hk d_Model_sheet_29
      · have hk := hk.2 c11
        refine lv_iload_n hx hb d_Model_sheet_21 rfl (lv_at hl 3 rfl) ?_
        refine lv_bipush (v := 60) hx hb d_Model_sheet_22 (by decide) ?_
        refine lv_icmp_le (tgt := 30) hx hb d_Model_sheet_24 (by decide) (fun c12 => ?_) (fun c12 => ?_)
        · have hk := hk.1 c12
          refine lv_iload_n hx hb d_Model_sheet_30 rfl (lv_at hl 3 rfl) ?_
          refine lv_if_ge (tgt := 40) hx hb d_Model_sheet_31 (by decide) (fun c13 => ?_) (fun c13 => ?_)
          · have hk := hk.1 c13
            refine lv_aload_n hx hb d_Model_sheet_40 rfl (lv_at hl 0 rfl) ?_
            refine gf_29_2 C hW hP fl_Model_9 d_Model_sheet_41 ?_
            refine lv_iload_n hx hb d_Model_sheet_44 rfl (lv_at hl 1 rfl) ?_
            refine lv_iload_n hx hb d_Model_sheet_45 rfl (lv_at hl 2 rfl) ?_
            obtain ⟨h14, hk⟩ := hk
            refine as_30 hI C hW hP hS h14 d_Model_sheet_46 (fun M15 eM15 H locs hP hS => ?_)
            have hk := hk M15 eM15
            refine lv_aload_n hx hb d_Model_sheet_47 rfl (lv_at hl 0 rfl) ?_
            refine gf_29_3 C hW hP fl_Model_13 d_Model_sheet_48 ?_
            refine lv_iload_n hx hb d_Model_sheet_51 rfl (lv_at hl 1 rfl) ?_
            refine lv_iload_n hx hb d_Model_sheet_52 rfl (lv_at hl 3 rfl) ?_
            obtain ⟨h16, hk⟩ := hk
            refine as_31 hI C hW hP hS h16 d_Model_sheet_53 (fun M17 eM17 H locs hP hS => ?_)
            have hk := hk M17 eM17
            refine lv_iconst (v := 0) hx hb d_Model_sheet_54 (by decide) ?_
            refine lv_istore (lv' := [(4, .int (0 : Int32)), (0, .ref (g.2.2.2 29)), (1, .int a1), (2, .int a2), (3, .int a3)]) hx hb d_Model_sheet_55 hl (by decide) rfl (fun ls hl => ?_)
            exact (eX57 a1 (0 : Int32) M17).mp hk _ _ _ hP hS (lv_sub hl [1, 2, 0] rfl)
          · have hk := hk.2 c13
            refine lv_aload_n hx hb d_Model_sheet_34 rfl (lv_at hl 0 rfl) ?_
            refine lv_iconst (v := 4) hx hb d_Model_sheet_35 (by decide) ?_
            refine r_runI (k_V (As := [.int (4 : Int32)]) (rest := []) C hW hP (c_Model_fails hI (4 : Int32) M9 _ hk) cb_Model_fails ml_Model_91 (io_29 g M9) ⟨by decide, by decide⟩ rfl hl.1 rfl (Nat.le_of_ble_eq_true rfl) d_Model_sheet_36 ⟨by decide, by decide⟩) hS (fun r19 M18 H locs hk hP hS => ?_)
            exact r_iret C hr hlocks hP hS hk d_Model_sheet_39
        · have hk := hk.2 c12
          refine lv_bipush (v := -2) hx hb d_Model_sheet_27 (by decide) ?_
          exact r_iret C hr hlocks hP hS hk d_Model_sheet_29
    · have hk := hk.2 c8
      refine lv_iconst (v := -1) hx hb d_Model_sheet_12 (by decide) ?_
      exact r_iret C hr hlocks hP hS hk d_Model_sheet_13
  · intro x1 x4 M hk
    refine (eX57 x1 x4 M).mpr ?_
    intro H locs ls hP hS hl
    unfold wp_Model_sheet_57 at hk
    refine lv_iload hx hb d_Model_sheet_57 (lv_at hl 2 rfl) ?_
    refine lv_bipush (v := 60) hx hb d_Model_sheet_59 (by decide) ?_
    refine lv_icmp_ge (tgt := 83) hx hb d_Model_sheet_61 (by decide) (fun c1 => ?_) (fun c1 => ?_)
    · have hk := hk.1 c1
      refine lv_iconst (v := 1) hx hb d_Model_sheet_83 (by decide) ?_
      exact r_iret C hr hlocks hP hS hk d_Model_sheet_84
    · have hk := hk.2 c1
      refine lv_aload_n hx hb d_Model_sheet_64 rfl (lv_at hl 0 rfl) ?_
      refine gf_29_4 C hW hP fl_Model_16 d_Model_sheet_65 ?_
      refine lv_bipush (v := 60) hx hb d_Model_sheet_68 (by decide) ?_
      refine lv_iload_n hx hb d_Model_sheet_70 rfl (lv_at hl 1 rfl) ?_
      refine lv_imul hx hb d_Model_sheet_71 ?_
      refine lv_iload hx hb d_Model_sheet_72 (lv_at hl 2 rfl) ?_
      refine lv_iadd hx hb d_Model_sheet_74 ?_
      refine lv_iconst (v := 0) hx hb d_Model_sheet_75 (by decide) ?_
      obtain ⟨h2, hk⟩ := hk
      refine as_32 hI C hW hP hS h2 d_Model_sheet_76 (fun M3 eM3 H locs hP hS => ?_)
      have hk := hk M3 eM3
      obtain ⟨x4_4, ex4_4⟩ : ∃ y : Int32, y = x4 + (1 : Int32) := ⟨_, rfl⟩
      have hk := hk x4_4 ex4_4
      refine lv_iinc (v := x4_4) (lv' := [(4, .int x4_4), (0, .ref (g.2.2.2 29)), (1, .int x1)]) hx hb d_Model_sheet_77 hl (k := 2) rfl (by rw [ex4_4]; rfl) (by decide) rfl (fun ls hl => ?_)
      refine lv_goto (tgt := 57) hx hb d_Model_sheet_80 (by decide) ?_
      exact (eX57 x1 x4_4 M3).mp hk _ _ _ hP hS (lv_sub hl [1, 2, 0] rfl)
theorem d_Model_lose_0 : decode b_Model_lose 0 = .ok (.iload_n 1, 1) := by decide +kernel
theorem d_Model_lose_1 : decode b_Model_lose 1 = .ok (.invokestatic 80, 3) := by decide +kernel
theorem d_Model_lose_4 : decode b_Model_lose 4 = .ok (.ifCond .ne 5, 3) := by decide +kernel
theorem d_Model_lose_7 : decode b_Model_lose 7 = .ok (.iconst (-1), 1) := by decide +kernel
theorem d_Model_lose_8 : decode b_Model_lose 8 = .ok (.ireturn, 1) := by decide +kernel
theorem d_Model_lose_9 : decode b_Model_lose 9 = .ok (.aload_n 0, 1) := by decide +kernel
theorem d_Model_lose_10 : decode b_Model_lose 10 = .ok (.getfield 9, 3) := by decide +kernel
theorem d_Model_lose_13 : decode b_Model_lose 13 = .ok (.iload_n 1, 1) := by decide +kernel
theorem d_Model_lose_14 : decode b_Model_lose 14 = .ok (.iaload, 1) := by decide +kernel
theorem d_Model_lose_15 : decode b_Model_lose 15 = .ok (.bipush (-9), 2) := by decide +kernel
theorem d_Model_lose_17 : decode b_Model_lose 17 = .ok (.if_icmp .ne 7, 3) := by decide +kernel
theorem d_Model_lose_20 : decode b_Model_lose 20 = .ok (.iconst 0, 1) := by decide +kernel
theorem d_Model_lose_21 : decode b_Model_lose 21 = .ok (.goto 4, 3) := by decide +kernel
theorem d_Model_lose_24 : decode b_Model_lose 24 = .ok (.iconst 1, 1) := by decide +kernel
theorem d_Model_lose_25 : decode b_Model_lose 25 = .ok (.istore_n 2, 1) := by decide +kernel
theorem d_Model_lose_26 : decode b_Model_lose 26 = .ok (.aload_n 0, 1) := by decide +kernel
theorem d_Model_lose_27 : decode b_Model_lose 27 = .ok (.getfield 9, 3) := by decide +kernel
theorem d_Model_lose_30 : decode b_Model_lose 30 = .ok (.iload_n 1, 1) := by decide +kernel
theorem d_Model_lose_31 : decode b_Model_lose 31 = .ok (.bipush (-9), 2) := by decide +kernel
theorem d_Model_lose_33 : decode b_Model_lose 33 = .ok (.iastore, 1) := by decide +kernel
theorem d_Model_lose_34 : decode b_Model_lose 34 = .ok (.iload_n 2, 1) := by decide +kernel
theorem d_Model_lose_35 : decode b_Model_lose 35 = .ok (.ireturn, 1) := by decide +kernel
set_option maxRecDepth 20000 in
theorem c_Model_lose {l : Launch} {g : GG} (hI : WI g) (a1 : Int32) (M : Mem) (R : Int32 → Mem → Prop) (h : wp_Model_lose a1 M R) : Met l y_Model_lose (wm y_Model_lose b_Model_lose 3 (some .int)) (RM 2 42) (PP g M [.ref (g.2.2.2 29), .int a1]) (PQ g (RI R)) 0 0 (AW g) := by
  refine m_of (own := N_Model) (by decide) rfl (Nat.le_of_ble_eq_true rfl) ?_
  intro p e s m below meth c ls C hr hlocks hW hP hS hl
  obtain ⟨hx, hb, hml, hown, hts⟩ := id C
  have hl : lv_has ls 3 [(0, .ref (g.2.2.2 29)), (1, .int a1)] := hl
  unfold wp_Model_lose at h
  have J25 : ∀ (x1 : Int32) (s0 : Int32) (M : Mem), wp_Model_lose_25  R x1 s0 M → ∀ (H : Heap) (locs : List Loc) (ls : Array Slot), WP g M H → va_S (AW g) s.heap H locs → lv_has ls 3 [(0, .ref (g.2.2.2 29)), (1, .int x1)] → W p l e (RM 2 42) s m ([.ref (g.2.2.2 29), .int a1] : List Value).toArray below meth c H locs 0 0 (MQ below (PQ g (RI R)) ([.ref (g.2.2.2 29), .int a1] : List Value).toArray s 0 0 (AW g)) (F0 m 25 ls [.int s0]) := by
    intro x1 s0 M hk H locs ls hP hS hl
    unfold wp_Model_lose_25 at hk
    refine lv_istore_n (lv' := [(2, .int s0), (0, .ref (g.2.2.2 29)), (1, .int x1)]) hx hb d_Model_lose_25 rfl hl (by decide) rfl (fun ls hl => ?_)
    refine lv_aload_n hx hb d_Model_lose_26 rfl (lv_at hl 1 rfl) ?_
    refine gf_29_2 C hW hP fl_Model_9 d_Model_lose_27 ?_
    refine lv_iload_n hx hb d_Model_lose_30 rfl (lv_at hl 2 rfl) ?_
    refine lv_bipush (v := -9) hx hb d_Model_lose_31 (by decide) ?_
    obtain ⟨h1, hk⟩ := hk
    refine as_30 hI C hW hP hS h1 d_Model_lose_33 (fun M2 eM2 H locs hP hS => ?_)
    have hk := hk M2 eM2
    refine lv_iload_n hx hb d_Model_lose_34 rfl (lv_at hl 0 rfl) ?_
    exact r_iret C hr hlocks hP hS hk d_Model_lose_35
  have hk := h
  refine lv_iload_n hx hb d_Model_lose_0 rfl (lv_at hl 1 rfl) ?_
  refine r_runZ (k_S (As := [.int a1]) (rest := []) C hW hP (c_Model_isSheet hI a1 M _ hk) cb_Model_isSheet ml_Model_80 ⟨by decide, by decide⟩ rfl hl.1 rfl (Nat.le_of_ble_eq_true rfl) d_Model_lose_1 ⟨by decide, by decide⟩) hS (fun r4 M3 H locs zr4 hk hP hS => ?_)
  refine lv_if_ne (tgt := 9) hx hb d_Model_lose_4 (by decide) (fun c5 => ?_) (fun c5 => ?_)
  · have hk := hk.1 c5
    refine lv_aload_n hx hb d_Model_lose_9 rfl (lv_at hl 0 rfl) ?_
    refine gf_29_2 C hW hP fl_Model_9 d_Model_lose_10 ?_
    refine lv_iload_n hx hb d_Model_lose_13 rfl (lv_at hl 1 rfl) ?_
    obtain ⟨h6, hk⟩ := hk
    refine al_30 C hW hP h6 d_Model_lose_14 ?_
    refine lv_bipush (v := -9) hx hb d_Model_lose_15 (by decide) ?_
    refine lv_icmp_ne (tgt := 24) hx hb d_Model_lose_17 (by decide) (fun c7 => ?_) (fun c7 => ?_)
    · have hk := hk.1 c7
      refine lv_iconst (v := 1) hx hb d_Model_lose_24 (by decide) ?_
      exact J25 a1 (1 : Int32) M3 hk _ _ _ hP hS (lv_sub hl [0, 1] rfl)
    · have hk := hk.2 c7
      refine lv_iconst (v := 0) hx hb d_Model_lose_20 (by decide) ?_
      refine lv_goto (tgt := 25) hx hb d_Model_lose_21 (by decide) ?_
      exact J25 a1 (0 : Int32) M3 hk _ _ _ hP hS (lv_sub hl [0, 1] rfl)
  · have hk := hk.2 c5
    refine lv_iconst (v := -1) hx hb d_Model_lose_7 (by decide) ?_
    exact r_iret C hr hlocks hP hS hk d_Model_lose_8
theorem d_Model_put_0 : decode b_Model_put 0 = .ok (.aload_n 0, 1) := by decide +kernel
theorem d_Model_put_1 : decode b_Model_put 1 = .ok (.iconst 0, 1) := by decide +kernel
theorem d_Model_put_2 : decode b_Model_put 2 = .ok (.putfield 62, 3) := by decide +kernel
theorem d_Model_put_5 : decode b_Model_put 5 = .ok (.iload_n 1, 1) := by decide +kernel
theorem d_Model_put_6 : decode b_Model_put 6 = .ok (.invokestatic 80, 3) := by decide +kernel
theorem d_Model_put_9 : decode b_Model_put 9 = .ok (.ifCond .ne 5, 3) := by decide +kernel
theorem d_Model_put_12 : decode b_Model_put 12 = .ok (.iconst (-1), 1) := by decide +kernel
theorem d_Model_put_13 : decode b_Model_put 13 = .ok (.ireturn, 1) := by decide +kernel
theorem d_Model_put_14 : decode b_Model_put 14 = .ok (.aload_n 0, 1) := by decide +kernel
theorem d_Model_put_15 : decode b_Model_put 15 = .ok (.getfield 9, 3) := by decide +kernel
theorem d_Model_put_18 : decode b_Model_put 18 = .ok (.iload_n 1, 1) := by decide +kernel
theorem d_Model_put_19 : decode b_Model_put 19 = .ok (.iaload, 1) := by decide +kernel
theorem d_Model_put_20 : decode b_Model_put 20 = .ok (.bipush (-9), 2) := by decide +kernel
theorem d_Model_put_22 : decode b_Model_put 22 = .ok (.if_icmp .ne 9, 3) := by decide +kernel
theorem d_Model_put_25 : decode b_Model_put 25 = .ok (.aload_n 0, 1) := by decide +kernel
theorem d_Model_put_26 : decode b_Model_put 26 = .ok (.iconst 1, 1) := by decide +kernel
theorem d_Model_put_27 : decode b_Model_put 27 = .ok (.invokevirtual 91, 3) := by decide +kernel
theorem d_Model_put_30 : decode b_Model_put 30 = .ok (.ireturn, 1) := by decide +kernel
theorem d_Model_put_31 : decode b_Model_put 31 = .ok (.iload_n 2, 1) := by decide +kernel
theorem d_Model_put_32 : decode b_Model_put 32 = .ok (.iconst 0, 1) := by decide +kernel
theorem d_Model_put_33 : decode b_Model_put 33 = .ok (.aload_n 0, 1) := by decide +kernel
theorem d_Model_put_34 : decode b_Model_put 34 = .ok (.getfield 13, 3) := by decide +kernel
theorem d_Model_put_37 : decode b_Model_put 37 = .ok (.iload_n 1, 1) := by decide +kernel
theorem d_Model_put_38 : decode b_Model_put 38 = .ok (.iaload, 1) := by decide +kernel
theorem d_Model_put_39 : decode b_Model_put 39 = .ok (.iconst 1, 1) := by decide +kernel
theorem d_Model_put_40 : decode b_Model_put 40 = .ok (.isub, 1) := by decide +kernel
theorem d_Model_put_41 : decode b_Model_put 41 = .ok (.invokestatic 67, 3) := by decide +kernel
theorem d_Model_put_44 : decode b_Model_put 44 = .ok (.ifCond .ne 9, 3) := by decide +kernel
theorem d_Model_put_47 : decode b_Model_put 47 = .ok (.aload_n 0, 1) := by decide +kernel
theorem d_Model_put_48 : decode b_Model_put 48 = .ok (.iconst 3, 1) := by decide +kernel
theorem d_Model_put_49 : decode b_Model_put 49 = .ok (.invokevirtual 91, 3) := by decide +kernel
theorem d_Model_put_52 : decode b_Model_put 52 = .ok (.ireturn, 1) := by decide +kernel
theorem d_Model_put_53 : decode b_Model_put 53 = .ok (.aload_n 0, 1) := by decide +kernel
theorem d_Model_put_54 : decode b_Model_put 54 = .ok (.getfield 16, 3) := by decide +kernel
theorem d_Model_put_57 : decode b_Model_put 57 = .ok (.bipush 60, 2) := by decide +kernel
theorem d_Model_put_59 : decode b_Model_put 59 = .ok (.iload_n 1, 1) := by decide +kernel
theorem d_Model_put_60 : decode b_Model_put 60 = .ok (.imul, 1) := by decide +kernel
theorem d_Model_put_61 : decode b_Model_put 61 = .ok (.iload_n 2, 1) := by decide +kernel
theorem d_Model_put_62 : decode b_Model_put 62 = .ok (.iadd, 1) := by decide +kernel
theorem d_Model_put_63 : decode b_Model_put 63 = .ok (.aload_n 0, 1) := by decide +kernel
theorem d_Model_put_64 : decode b_Model_put 64 = .ok (.getfield 9, 3) := by decide +kernel
theorem d_Model_put_67 : decode b_Model_put 67 = .ok (.iload_n 1, 1) := by decide +kernel
theorem d_Model_put_68 : decode b_Model_put 68 = .ok (.iaload, 1) := by decide +kernel
theorem d_Model_put_69 : decode b_Model_put 69 = .ok (.ifCond .ne 8, 3) := by decide +kernel
theorem d_Model_put_72 : decode b_Model_put 72 = .ok (.iload_n 3, 1) := by decide +kernel
theorem d_Model_put_73 : decode b_Model_put 73 = .ok (.i2b, 1) := by decide +kernel
theorem d_Model_put_74 : decode b_Model_put 74 = .ok (.goto 19, 3) := by decide +kernel
theorem d_Model_put_77 : decode b_Model_put 77 = .ok (.aload_n 0, 1) := by decide +kernel
theorem d_Model_put_78 : decode b_Model_put 78 = .ok (.getfield 9, 3) := by decide +kernel
theorem d_Model_put_81 : decode b_Model_put 81 = .ok (.iload_n 1, 1) := by decide +kernel
theorem d_Model_put_82 : decode b_Model_put 82 = .ok (.iaload, 1) := by decide +kernel
theorem d_Model_put_83 : decode b_Model_put 83 = .ok (.iconst 1, 1) := by decide +kernel
theorem d_Model_put_84 : decode b_Model_put 84 = .ok (.if_icmp .ne 8, 3) := by decide +kernel
theorem d_Model_put_87 : decode b_Model_put 87 = .ok (.iload_n 3, 1) := by decide +kernel
theorem d_Model_put_88 : decode b_Model_put 88 = .ok (.i2s, 1) := by decide +kernel
theorem d_Model_put_89 : decode b_Model_put 89 = .ok (.goto 4, 3) := by decide +kernel
theorem d_Model_put_92 : decode b_Model_put 92 = .ok (.iload_n 3, 1) := by decide +kernel
theorem d_Model_put_93 : decode b_Model_put 93 = .ok (.iastore, 1) := by decide +kernel
theorem d_Model_put_94 : decode b_Model_put 94 = .ok (.iconst 1, 1) := by decide +kernel
theorem d_Model_put_95 : decode b_Model_put 95 = .ok (.ireturn, 1) := by decide +kernel
set_option maxRecDepth 20000 in
theorem c_Model_put {l : Launch} {g : GG} (hI : WI g) (a1 : Int32) (a2 : Int32) (a3 : Int32) (M : Mem) (R : Int32 → Mem → Prop) (h : wp_Model_put a1 a2 a3 M R) : Met l y_Model_put (wm y_Model_put b_Model_put 4 (some .int)) (RM 2 42) (PP g M [.ref (g.2.2.2 29), .int a1, .int a2, .int a3]) (PQ g (RI R)) 0 0 (AW g) := by
  refine m_of (own := N_Model) (by decide) rfl (Nat.le_of_ble_eq_true rfl) ?_
  intro p e s m below meth c ls C hr hlocks hW hP hS hl
  obtain ⟨hx, hb, hml, hown, hts⟩ := id C
  have hl : lv_has ls 4 [(0, .ref (g.2.2.2 29)), (1, .int a1), (2, .int a2), (3, .int a3)] := hl
  unfold wp_Model_put at h
  have hk := h
  refine lv_aload_n hx hb d_Model_put_0 rfl (lv_at hl 0 rfl) ?_
  refine lv_iconst (v := 0) hx hb d_Model_put_1 (by decide) ?_
  refine pf_29_0 hI C hW hP hS fl_Model_62 d_Model_put_2 (fun M1 eM1 H locs hP hS => ?_)
  have hk := hk M1 eM1
  refine lv_iload_n hx hb d_Model_put_5 rfl (lv_at hl 1 rfl) ?_
  refine r_runZ (k_S (As := [.int a1]) (rest := []) C hW hP (c_Model_isSheet hI a1 M1 _ hk) cb_Model_isSheet ml_Model_80 ⟨by decide, by decide⟩ rfl hl.1 rfl (Nat.le_of_ble_eq_true rfl) d_Model_put_6 ⟨by decide, by decide⟩) hS (fun r3 M2 H locs zr3 hk hP hS => ?_)
  refine lv_if_ne (tgt := 14) hx hb d_Model_put_9 (by decide) (fun c4 => ?_) (fun c4 => ?_)
  · have hk := hk.1 c4
    refine lv_aload_n hx hb d_Model_put_14 rfl (lv_at hl 0 rfl) ?_
    refine gf_29_2 C hW hP fl_Model_9 d_Model_put_15 ?_
    refine lv_iload_n hx hb d_Model_put_18 rfl (lv_at hl 1 rfl) ?_
    obtain ⟨h5, hk⟩ := hk
    refine al_30 C hW hP h5 d_Model_put_19 ?_
    refine lv_bipush (v := -9) hx hb d_Model_put_20 (by decide) ?_
    refine lv_icmp_ne (tgt := 31) hx hb d_Model_put_22 (by decide) (fun c6 => ?_) (fun c6 => ?_)
    · have hk := hk.1 c6
      refine lv_iload_n hx hb d_Model_put_31 rfl (lv_at hl 2 rfl) ?_
      refine lv_iconst (v := 0) hx hb d_Model_put_32 (by decide) ?_
      refine lv_aload_n hx hb d_Model_put_33 rfl (lv_at hl 0 rfl) ?_
      refine gf_29_3 C hW hP fl_Model_13 d_Model_put_34 ?_
      refine lv_iload_n hx hb d_Model_put_37 rfl (lv_at hl 1 rfl) ?_
      obtain ⟨h7, hk⟩ := hk
      refine al_31 C hW hP h7 d_Model_put_38 ?_
      refine lv_iconst (v := 1) hx hb d_Model_put_39 (by decide) ?_
      refine lv_isub hx hb d_Model_put_40 ?_
      refine r_runZ (k_S (As := [.int a2, .int (0 : Int32), .int ((M2 31 a1.toNatClampNeg) - (1 : Int32))]) (rest := []) C hW hP (c_Model_within hI a2 (0 : Int32) ((M2 31 a1.toNatClampNeg) - (1 : Int32)) M2 _ hk) cb_Model_within ml_Model_67 ⟨by decide, by decide⟩ rfl hl.1 rfl (Nat.le_of_ble_eq_true rfl) d_Model_put_41 ⟨by decide, by decide⟩) hS (fun r9 M8 H locs zr9 hk hP hS => ?_)
      refine lv_if_ne (tgt := 53) hx hb d_Model_put_44 (by decide) (fun c10 => ?_) (fun c10 => ?_)
      · have hk := hk.1 c10
        refine lv_aload_n hx hb d_Model_put_53 rfl (lv_at hl 0 rfl) ?_
        refine gf_29_4 C hW hP fl_Model_16 d_Model_put_54 ?_
        refine lv_bipush (v := 60) hx hb d_Model_put_57 (by decide) ?_
        refine lv_iload_n hx hb d_Model_put_59 rfl (lv_at hl 1 rfl) ?_
        refine lv_imul hx hb d_Model_put_60 ?_
        refine lv_iload_n hx hb d_Model_put_61 rfl (lv_at hl 2 rfl) ?_
        refine lv_iadd hx hb d_Model_put_62 ?_
        refine lv_aload_n hx hb d_Model_put_63 rfl (lv_at hl 0 rfl) ?_
        refine gf_29_2 C hW hP fl_Model_9 d_Model_put_64 ?_
        refine lv_iload_n hx hb d_Model_put_67 rfl (lv_at hl 1 rfl) ?_
        obtain ⟨h11, hk⟩ := hk
        refine al_30 C hW hP h11 d_Model_put_68 ?_
        refine lv_if_ne (tgt := 77) hx hb d_Model_put_69 (by decide) (fun c12 => ?_) (fun c12 => ?_)
        · have hk := hk.1 c12
          refine lv_aload_n hx hb d_Model_put_77 rfl (lv_at hl 0 rfl) ?_
          refine gf_29_2 C hW hP fl_Model_9 d_Model_put_78 ?_
          refine lv_iload_n hx hb d_Model_put_81 rfl (lv_at hl 1 rfl) ?_
          obtain ⟨h13, hk⟩ := hk
          refine al_30 C hW hP h13 d_Model_put_82 ?_
          refine lv_iconst (v := 1) hx hb d_Model_put_83 (by decide) ?_
          refine lv_icmp_ne (tgt := 92) hx hb d_Model_put_84 (by decide) (fun c14 => ?_) (fun c14 => ?_)
          · have hk := hk.1 c14
            refine lv_iload_n hx hb d_Model_put_92 rfl (lv_at hl 3 rfl) ?_
            obtain ⟨h15, hk⟩ := hk
            refine as_32 hI C hW hP hS h15 d_Model_put_93 (fun M16 eM16 H locs hP hS => ?_)
            have hk := hk M16 eM16
            refine lv_iconst (v := 1) hx hb d_Model_put_94 (by decide) ?_
            exact r_iret C hr hlocks hP hS hk d_Model_put_95
          · have hk := hk.2 c14
            refine lv_iload_n hx hb d_Model_put_87 rfl (lv_at hl 3 rfl) ?_
            refine lv_i2s hx hb d_Model_put_88 rfl ?_
            refine lv_goto (tgt := 93) hx hb d_Model_put_89 (by decide) ?_
            obtain ⟨h17, hk⟩ := hk
            refine as_32 hI C hW hP hS h17 d_Model_put_93 (fun M18 eM18 H locs hP hS => ?_)
            have hk := hk M18 eM18
            refine lv_iconst (v := 1) hx hb d_Model_put_94 (by decide) ?_
            exact r_iret C hr hlocks hP hS hk d_Model_put_95
        · have hk := hk.2 c12
          refine lv_iload_n hx hb d_Model_put_72 rfl (lv_at hl 3 rfl) ?_
          refine lv_i2b hx hb d_Model_put_73 rfl ?_
          refine lv_goto (tgt := 93) hx hb d_Model_put_74 (by decide) ?_
          obtain ⟨h19, hk⟩ := hk
          refine as_32 hI C hW hP hS h19 d_Model_put_93 (fun M20 eM20 H locs hP hS => ?_)
          have hk := hk M20 eM20
          refine lv_iconst (v := 1) hx hb d_Model_put_94 (by decide) ?_
          exact r_iret C hr hlocks hP hS hk d_Model_put_95
      · have hk := hk.2 c10
        refine lv_aload_n hx hb d_Model_put_47 rfl (lv_at hl 0 rfl) ?_
        refine lv_iconst (v := 3) hx hb d_Model_put_48 (by decide) ?_
        refine r_runI (k_V (As := [.int (3 : Int32)]) (rest := []) C hW hP (c_Model_fails hI (3 : Int32) M8 _ hk) cb_Model_fails ml_Model_91 (io_29 g M8) ⟨by decide, by decide⟩ rfl hl.1 rfl (Nat.le_of_ble_eq_true rfl) d_Model_put_49 ⟨by decide, by decide⟩) hS (fun r22 M21 H locs hk hP hS => ?_)
        exact r_iret C hr hlocks hP hS hk d_Model_put_52
    · have hk := hk.2 c6
      refine lv_aload_n hx hb d_Model_put_25 rfl (lv_at hl 0 rfl) ?_
      refine lv_iconst (v := 1) hx hb d_Model_put_26 (by decide) ?_
      refine r_runI (k_V (As := [.int (1 : Int32)]) (rest := []) C hW hP (c_Model_fails hI (1 : Int32) M2 _ hk) cb_Model_fails ml_Model_91 (io_29 g M2) ⟨by decide, by decide⟩ rfl hl.1 rfl (Nat.le_of_ble_eq_true rfl) d_Model_put_27 ⟨by decide, by decide⟩) hS (fun r24 M23 H locs hk hP hS => ?_)
      exact r_iret C hr hlocks hP hS hk d_Model_put_30
  · have hk := hk.2 c4
    refine lv_iconst (v := -1) hx hb d_Model_put_12 (by decide) ?_
    exact r_iret C hr hlocks hP hS hk d_Model_put_13
theorem d_Model_lost_0 : decode b_Model_lost 0 = .ok (.aload_n 0, 1) := by decide +kernel
theorem d_Model_lost_1 : decode b_Model_lost 1 = .ok (.iload_n 1, 1) := by decide +kernel
theorem d_Model_lost_2 : decode b_Model_lost 2 = .ok (.putfield 62, 3) := by decide +kernel
theorem d_Model_lost_5 : decode b_Model_lost 5 = .ok (.ldc2_w 65, 3) := by decide +kernel
theorem d_Model_lost_8 : decode b_Model_lost 8 = .ok (.lreturn, 1) := by decide +kernel
set_option maxRecDepth 20000 in
theorem c_Model_lost {l : Launch} {g : GG} (hI : WI g) (a1 : Int32) (M : Mem) (R : Int64 → Mem → Prop) (h : wp_Model_lost a1 M R) : Met l y_Model_lost (wm y_Model_lost b_Model_lost 2 (some .long)) (RM 0 0) (PP g M [.ref (g.2.2.2 29), .int a1]) (PQ g (RL R)) 0 0 (AW g) := by
  refine m_of (own := N_Model) (by decide) rfl (Nat.le_of_ble_eq_true rfl) ?_
  intro p e s m below meth c ls C hr hlocks hW hP hS hl
  obtain ⟨hx, hb, hml, hown, hts⟩ := id C
  have hl : lv_has ls 2 [(0, .ref (g.2.2.2 29)), (1, .int a1)] := hl
  unfold wp_Model_lost at h
  have hk := h
  refine lv_aload_n hx hb d_Model_lost_0 rfl (lv_at hl 0 rfl) ?_
  refine lv_iload_n hx hb d_Model_lost_1 rfl (lv_at hl 1 rfl) ?_
  refine pf_29_0 hI C hW hP hS fl_Model_62 d_Model_lost_2 (fun M1 eM1 H locs hP hS => ?_)
  have hk := hk M1 eM1
  refine lv_ldc2 (v := -9223372036854775808) hx hb hown (C.2.2.2.2 _ kc_Model_65) d_Model_lost_5 ?_
  exact r_lret C hr hlocks hP hS hk d_Model_lost_8
theorem d_Model_cell_0 : decode b_Model_cell 0 = .ok (.aload_n 0, 1) := by decide +kernel
theorem d_Model_cell_1 : decode b_Model_cell 1 = .ok (.iconst 0, 1) := by decide +kernel
theorem d_Model_cell_2 : decode b_Model_cell 2 = .ok (.putfield 62, 3) := by decide +kernel
theorem d_Model_cell_5 : decode b_Model_cell 5 = .ok (.iload_n 1, 1) := by decide +kernel
theorem d_Model_cell_6 : decode b_Model_cell 6 = .ok (.invokestatic 80, 3) := by decide +kernel
theorem d_Model_cell_9 : decode b_Model_cell 9 = .ok (.ifCond .eq 10, 3) := by decide +kernel
theorem d_Model_cell_12 : decode b_Model_cell 12 = .ok (.iload_n 3, 1) := by decide +kernel
theorem d_Model_cell_13 : decode b_Model_cell 13 = .ok (.invokestatic 84, 3) := by decide +kernel
theorem d_Model_cell_16 : decode b_Model_cell 16 = .ok (.ifCond .ne 7, 3) := by decide +kernel
theorem d_Model_cell_19 : decode b_Model_cell 19 = .ok (.ldc2_w 65, 3) := by decide +kernel
theorem d_Model_cell_22 : decode b_Model_cell 22 = .ok (.lreturn, 1) := by decide +kernel
theorem d_Model_cell_23 : decode b_Model_cell 23 = .ok (.aload_n 0, 1) := by decide +kernel
theorem d_Model_cell_24 : decode b_Model_cell 24 = .ok (.getfield 9, 3) := by decide +kernel
theorem d_Model_cell_27 : decode b_Model_cell 27 = .ok (.iload_n 1, 1) := by decide +kernel
theorem d_Model_cell_28 : decode b_Model_cell 28 = .ok (.iaload, 1) := by decide +kernel
theorem d_Model_cell_29 : decode b_Model_cell 29 = .ok (.bipush (-9), 2) := by decide +kernel
theorem d_Model_cell_31 : decode b_Model_cell 31 = .ok (.if_icmp .eq 19, 3) := by decide +kernel
theorem d_Model_cell_34 : decode b_Model_cell 34 = .ok (.aload_n 0, 1) := by decide +kernel
theorem d_Model_cell_35 : decode b_Model_cell 35 = .ok (.getfield 9, 3) := by decide +kernel
theorem d_Model_cell_38 : decode b_Model_cell 38 = .ok (.iload_n 1, 1) := by decide +kernel
theorem d_Model_cell_39 : decode b_Model_cell 39 = .ok (.iaload, 1) := by decide +kernel
theorem d_Model_cell_40 : decode b_Model_cell 40 = .ok (.iload_n 3, 1) := by decide +kernel
theorem d_Model_cell_41 : decode b_Model_cell 41 = .ok (.if_icmp .eq 9, 3) := by decide +kernel
theorem d_Model_cell_44 : decode b_Model_cell 44 = .ok (.aload_n 0, 1) := by decide +kernel
theorem d_Model_cell_45 : decode b_Model_cell 45 = .ok (.iconst 2, 1) := by decide +kernel
theorem d_Model_cell_46 : decode b_Model_cell 46 = .ok (.invokevirtual 195, 3) := by decide +kernel
theorem d_Model_cell_49 : decode b_Model_cell 49 = .ok (.lreturn, 1) := by decide +kernel
theorem d_Model_cell_50 : decode b_Model_cell 50 = .ok (.aload_n 0, 1) := by decide +kernel
theorem d_Model_cell_51 : decode b_Model_cell 51 = .ok (.getfield 9, 3) := by decide +kernel
theorem d_Model_cell_54 : decode b_Model_cell 54 = .ok (.iload_n 1, 1) := by decide +kernel
theorem d_Model_cell_55 : decode b_Model_cell 55 = .ok (.iaload, 1) := by decide +kernel
theorem d_Model_cell_56 : decode b_Model_cell 56 = .ok (.bipush (-9), 2) := by decide +kernel
theorem d_Model_cell_58 : decode b_Model_cell 58 = .ok (.if_icmp .ne 9, 3) := by decide +kernel
theorem d_Model_cell_61 : decode b_Model_cell 61 = .ok (.aload_n 0, 1) := by decide +kernel
theorem d_Model_cell_62 : decode b_Model_cell 62 = .ok (.iconst 1, 1) := by decide +kernel
theorem d_Model_cell_63 : decode b_Model_cell 63 = .ok (.invokevirtual 195, 3) := by decide +kernel
theorem d_Model_cell_66 : decode b_Model_cell 66 = .ok (.lreturn, 1) := by decide +kernel
theorem d_Model_cell_67 : decode b_Model_cell 67 = .ok (.iload_n 2, 1) := by decide +kernel
theorem d_Model_cell_68 : decode b_Model_cell 68 = .ok (.iconst 0, 1) := by decide +kernel
theorem d_Model_cell_69 : decode b_Model_cell 69 = .ok (.aload_n 0, 1) := by decide +kernel
theorem d_Model_cell_70 : decode b_Model_cell 70 = .ok (.getfield 13, 3) := by decide +kernel
theorem d_Model_cell_73 : decode b_Model_cell 73 = .ok (.iload_n 1, 1) := by decide +kernel
theorem d_Model_cell_74 : decode b_Model_cell 74 = .ok (.iaload, 1) := by decide +kernel
theorem d_Model_cell_75 : decode b_Model_cell 75 = .ok (.iconst 1, 1) := by decide +kernel
theorem d_Model_cell_76 : decode b_Model_cell 76 = .ok (.isub, 1) := by decide +kernel
theorem d_Model_cell_77 : decode b_Model_cell 77 = .ok (.invokestatic 67, 3) := by decide +kernel
theorem d_Model_cell_80 : decode b_Model_cell 80 = .ok (.ifCond .ne 9, 3) := by decide +kernel
theorem d_Model_cell_83 : decode b_Model_cell 83 = .ok (.aload_n 0, 1) := by decide +kernel
theorem d_Model_cell_84 : decode b_Model_cell 84 = .ok (.iconst 3, 1) := by decide +kernel
theorem d_Model_cell_85 : decode b_Model_cell 85 = .ok (.invokevirtual 195, 3) := by decide +kernel
theorem d_Model_cell_88 : decode b_Model_cell 88 = .ok (.lreturn, 1) := by decide +kernel
theorem d_Model_cell_89 : decode b_Model_cell 89 = .ok (.aload_n 0, 1) := by decide +kernel
theorem d_Model_cell_90 : decode b_Model_cell 90 = .ok (.getfield 16, 3) := by decide +kernel
theorem d_Model_cell_93 : decode b_Model_cell 93 = .ok (.bipush 60, 2) := by decide +kernel
theorem d_Model_cell_95 : decode b_Model_cell 95 = .ok (.iload_n 1, 1) := by decide +kernel
theorem d_Model_cell_96 : decode b_Model_cell 96 = .ok (.imul, 1) := by decide +kernel
theorem d_Model_cell_97 : decode b_Model_cell 97 = .ok (.iload_n 2, 1) := by decide +kernel
theorem d_Model_cell_98 : decode b_Model_cell 98 = .ok (.iadd, 1) := by decide +kernel
theorem d_Model_cell_99 : decode b_Model_cell 99 = .ok (.iaload, 1) := by decide +kernel
theorem d_Model_cell_100 : decode b_Model_cell 100 = .ok (.i2l, 1) := by decide +kernel
theorem d_Model_cell_101 : decode b_Model_cell 101 = .ok (.lreturn, 1) := by decide +kernel
set_option maxRecDepth 20000 in
theorem c_Model_cell {l : Launch} {g : GG} (hI : WI g) (a1 : Int32) (a2 : Int32) (a3 : Int32) (M : Mem) (R : Int64 → Mem → Prop) (h : wp_Model_cell a1 a2 a3 M R) : Met l y_Model_cell (wm y_Model_cell b_Model_cell 4 (some .long)) (RM 2 42) (PP g M [.ref (g.2.2.2 29), .int a1, .int a2, .int a3]) (PQ g (RL R)) 0 0 (AW g) := by
  refine m_of (own := N_Model) (by decide) rfl (Nat.le_of_ble_eq_true rfl) ?_
  intro p e s m below meth c ls C hr hlocks hW hP hS hl
  obtain ⟨hx, hb, hml, hown, hts⟩ := id C
  have hl : lv_has ls 4 [(0, .ref (g.2.2.2 29)), (1, .int a1), (2, .int a2), (3, .int a3)] := hl
  unfold wp_Model_cell at h
  have J50 : ∀ (x1 : Int32) (x2 : Int32) (M : Mem), wp_Model_cell_50  R x1 x2 M → ∀ (H : Heap) (locs : List Loc) (ls : Array Slot), WP g M H → va_S (AW g) s.heap H locs → lv_has ls 4 [(0, .ref (g.2.2.2 29)), (1, .int x1), (2, .int x2)] → W p l e (RM 2 42) s m ([.ref (g.2.2.2 29), .int a1, .int a2, .int a3] : List Value).toArray below meth c H locs 0 0 (MQ below (PQ g (RL R)) ([.ref (g.2.2.2 29), .int a1, .int a2, .int a3] : List Value).toArray s 0 0 (AW g)) (F0 m 50 ls []) := by
    intro x1 x2 M hk H locs ls hP hS hl
    unfold wp_Model_cell_50 at hk
    refine lv_aload_n hx hb d_Model_cell_50 rfl (lv_at hl 0 rfl) ?_
    refine gf_29_2 C hW hP fl_Model_9 d_Model_cell_51 ?_
    refine lv_iload_n hx hb d_Model_cell_54 rfl (lv_at hl 1 rfl) ?_
    obtain ⟨h1, hk⟩ := hk
    refine al_30 C hW hP h1 d_Model_cell_55 ?_
    refine lv_bipush (v := -9) hx hb d_Model_cell_56 (by decide) ?_
    refine lv_icmp_ne (tgt := 67) hx hb d_Model_cell_58 (by decide) (fun c2 => ?_) (fun c2 => ?_)
    · have hk := hk.1 c2
      refine lv_iload_n hx hb d_Model_cell_67 rfl (lv_at hl 2 rfl) ?_
      refine lv_iconst (v := 0) hx hb d_Model_cell_68 (by decide) ?_
      refine lv_aload_n hx hb d_Model_cell_69 rfl (lv_at hl 0 rfl) ?_
      refine gf_29_3 C hW hP fl_Model_13 d_Model_cell_70 ?_
      refine lv_iload_n hx hb d_Model_cell_73 rfl (lv_at hl 1 rfl) ?_
      obtain ⟨h3, hk⟩ := hk
      refine al_31 C hW hP h3 d_Model_cell_74 ?_
      refine lv_iconst (v := 1) hx hb d_Model_cell_75 (by decide) ?_
      refine lv_isub hx hb d_Model_cell_76 ?_
      refine r_runZ (k_S (As := [.int x2, .int (0 : Int32), .int ((M 31 x1.toNatClampNeg) - (1 : Int32))]) (rest := []) C hW hP (c_Model_within hI x2 (0 : Int32) ((M 31 x1.toNatClampNeg) - (1 : Int32)) M _ hk) cb_Model_within ml_Model_67 ⟨by decide, by decide⟩ rfl hl.1 rfl (Nat.le_of_ble_eq_true rfl) d_Model_cell_77 ⟨by decide, by decide⟩) hS (fun r5 M4 H locs zr5 hk hP hS => ?_)
      refine lv_if_ne (tgt := 89) hx hb d_Model_cell_80 (by decide) (fun c6 => ?_) (fun c6 => ?_)
      · have hk := hk.1 c6
        refine lv_aload_n hx hb d_Model_cell_89 rfl (lv_at hl 0 rfl) ?_
        refine gf_29_4 C hW hP fl_Model_16 d_Model_cell_90 ?_
        refine lv_bipush (v := 60) hx hb d_Model_cell_93 (by decide) ?_
        refine lv_iload_n hx hb d_Model_cell_95 rfl (lv_at hl 1 rfl) ?_
        refine lv_imul hx hb d_Model_cell_96 ?_
        refine lv_iload_n hx hb d_Model_cell_97 rfl (lv_at hl 2 rfl) ?_
        refine lv_iadd hx hb d_Model_cell_98 ?_
        obtain ⟨h7, hk⟩ := hk
        refine al_32 C hW hP h7 d_Model_cell_99 ?_
        refine lv_i2l hx hb d_Model_cell_100 rfl ?_
        exact r_lret C hr hlocks hP hS hk d_Model_cell_101
      · have hk := hk.2 c6
        refine lv_aload_n hx hb d_Model_cell_83 rfl (lv_at hl 0 rfl) ?_
        refine lv_iconst (v := 3) hx hb d_Model_cell_84 (by decide) ?_
        refine r_runL (k_V (As := [.int (3 : Int32)]) (rest := []) C hW hP (c_Model_lost hI (3 : Int32) M4 _ hk) cb_Model_lost ml_Model_195 (io_29 g M4) ⟨by decide, by decide⟩ rfl hl.1 rfl (Nat.le_of_ble_eq_true rfl) d_Model_cell_85 ⟨by decide, by decide⟩) hS (fun r9 M8 H locs hk hP hS => ?_)
        exact r_lret C hr hlocks hP hS hk d_Model_cell_88
    · have hk := hk.2 c2
      refine lv_aload_n hx hb d_Model_cell_61 rfl (lv_at hl 0 rfl) ?_
      refine lv_iconst (v := 1) hx hb d_Model_cell_62 (by decide) ?_
      refine r_runL (k_V (As := [.int (1 : Int32)]) (rest := []) C hW hP (c_Model_lost hI (1 : Int32) M _ hk) cb_Model_lost ml_Model_195 (io_29 g M) ⟨by decide, by decide⟩ rfl hl.1 rfl (Nat.le_of_ble_eq_true rfl) d_Model_cell_63 ⟨by decide, by decide⟩) hS (fun r11 M10 H locs hk hP hS => ?_)
      exact r_lret C hr hlocks hP hS hk d_Model_cell_66
  have hk := h
  refine lv_aload_n hx hb d_Model_cell_0 rfl (lv_at hl 0 rfl) ?_
  refine lv_iconst (v := 0) hx hb d_Model_cell_1 (by decide) ?_
  refine pf_29_0 hI C hW hP hS fl_Model_62 d_Model_cell_2 (fun M12 eM12 H locs hP hS => ?_)
  have hk := hk M12 eM12
  refine lv_iload_n hx hb d_Model_cell_5 rfl (lv_at hl 1 rfl) ?_
  refine r_runZ (k_S (As := [.int a1]) (rest := []) C hW hP (c_Model_isSheet hI a1 M12 _ hk) cb_Model_isSheet ml_Model_80 ⟨by decide, by decide⟩ rfl hl.1 rfl (Nat.le_of_ble_eq_true rfl) d_Model_cell_6 ⟨by decide, by decide⟩) hS (fun r14 M13 H locs zr14 hk hP hS => ?_)
  refine lv_if_eq (tgt := 19) hx hb d_Model_cell_9 (by decide) (fun c15 => ?_) (fun c15 => ?_)
  · have hk := hk.1 c15
    refine lv_ldc2 (v := -9223372036854775808) hx hb hown (C.2.2.2.2 _ kc_Model_65) d_Model_cell_19 ?_
    exact r_lret C hr hlocks hP hS hk d_Model_cell_22
  · have hk := hk.2 c15
    refine lv_iload_n hx hb d_Model_cell_12 rfl (lv_at hl 3 rfl) ?_
    refine r_runZ (k_S (As := [.int a3]) (rest := []) C hW hP (c_Model_isSort hI a3 M13 _ hk) cb_Model_isSort ml_Model_84 ⟨by decide, by decide⟩ rfl hl.1 rfl (Nat.le_of_ble_eq_true rfl) d_Model_cell_13 ⟨by decide, by decide⟩) hS (fun r17 M16 H locs zr17 hk hP hS => ?_)
    refine lv_if_ne (tgt := 23) hx hb d_Model_cell_16 (by decide) (fun c18 => ?_) (fun c18 => ?_)
    · have hk := hk.1 c18
      refine lv_aload_n hx hb d_Model_cell_23 rfl (lv_at hl 0 rfl) ?_
      refine gf_29_2 C hW hP fl_Model_9 d_Model_cell_24 ?_
      refine lv_iload_n hx hb d_Model_cell_27 rfl (lv_at hl 1 rfl) ?_
      obtain ⟨h19, hk⟩ := hk
      refine al_30 C hW hP h19 d_Model_cell_28 ?_
      refine lv_bipush (v := -9) hx hb d_Model_cell_29 (by decide) ?_
      refine lv_icmp_eq (tgt := 50) hx hb d_Model_cell_31 (by decide) (fun c20 => ?_) (fun c20 => ?_)
      · have hk := hk.1 c20
        exact J50 a1 a2 M16 hk _ _ _ hP hS (lv_sub hl [0, 1, 2] rfl)
      · have hk := hk.2 c20
        refine lv_aload_n hx hb d_Model_cell_34 rfl (lv_at hl 0 rfl) ?_
        refine gf_29_2 C hW hP fl_Model_9 d_Model_cell_35 ?_
        refine lv_iload_n hx hb d_Model_cell_38 rfl (lv_at hl 1 rfl) ?_
        obtain ⟨h21, hk⟩ := hk
        refine al_30 C hW hP h21 d_Model_cell_39 ?_
        refine lv_iload_n hx hb d_Model_cell_40 rfl (lv_at hl 3 rfl) ?_
        refine lv_icmp_eq (tgt := 50) hx hb d_Model_cell_41 (by decide) (fun c22 => ?_) (fun c22 => ?_)
        · have hk := hk.1 c22
          exact J50 a1 a2 M16 hk _ _ _ hP hS (lv_sub hl [0, 1, 2] rfl)
        · have hk := hk.2 c22
          refine lv_aload_n hx hb d_Model_cell_44 rfl (lv_at hl 0 rfl) ?_
          refine lv_iconst (v := 2) hx hb d_Model_cell_45 (by decide) ?_
          refine r_runL (k_V (As := [.int (2 : Int32)]) (rest := []) C hW hP (c_Model_lost hI (2 : Int32) M16 _ hk) cb_Model_lost ml_Model_195 (io_29 g M16) ⟨by decide, by decide⟩ rfl hl.1 rfl (Nat.le_of_ble_eq_true rfl) d_Model_cell_46 ⟨by decide, by decide⟩) hS (fun r24 M23 H locs hk hP hS => ?_)
          exact r_lret C hr hlocks hP hS hk d_Model_cell_49
    · have hk := hk.2 c18
      refine lv_ldc2 (v := -9223372036854775808) hx hb hown (C.2.2.2.2 _ kc_Model_65) d_Model_cell_19 ?_
      exact r_lret C hr hlocks hP hS hk d_Model_cell_22
