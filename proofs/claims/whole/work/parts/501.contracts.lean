theorem d_Main_give_0 : decode b_Main_give 0 = .ok (.aload_n 0, 1) := by decide +kernel
theorem d_Main_give_1 : decode b_Main_give 1 = .ok (.getfield 28, 3) := by decide +kernel
theorem d_Main_give_4 : decode b_Main_give 4 = .ok (.iload_n 1, 1) := by decide +kernel
theorem d_Main_give_5 : decode b_Main_give 5 = .ok (.invokevirtual 122, 3) := by decide +kernel
theorem d_Main_give_8 : decode b_Main_give 8 = .ok (.ifCond .ne 5, 3) := by decide +kernel
theorem d_Main_give_11 : decode b_Main_give 11 = .ok (.iconst (-1), 1) := by decide +kernel
theorem d_Main_give_12 : decode b_Main_give 12 = .ok (.ireturn, 1) := by decide +kernel
theorem d_Main_give_13 : decode b_Main_give 13 = .ok (.iload_n 2, 1) := by decide +kernel
theorem d_Main_give_14 : decode b_Main_give 14 = .ok (.bipush 64, 2) := by decide +kernel
theorem d_Main_give_16 : decode b_Main_give 16 = .ok (.invokestatic 75, 3) := by decide +kernel
theorem d_Main_give_19 : decode b_Main_give 19 = .ok (.ifCond .ne 6, 3) := by decide +kernel
theorem d_Main_give_22 : decode b_Main_give 22 = .ok (.bipush (-2), 2) := by decide +kernel
theorem d_Main_give_24 : decode b_Main_give 24 = .ok (.ireturn, 1) := by decide +kernel
theorem d_Main_give_25 : decode b_Main_give 25 = .ok (.aload_n 0, 1) := by decide +kernel
theorem d_Main_give_26 : decode b_Main_give 26 = .ok (.getfield 28, 3) := by decide +kernel
theorem d_Main_give_29 : decode b_Main_give 29 = .ok (.getfield 125, 3) := by decide +kernel
theorem d_Main_give_32 : decode b_Main_give 32 = .ok (.iload_n 1, 1) := by decide +kernel
theorem d_Main_give_33 : decode b_Main_give 33 = .ok (.iaload, 1) := by decide +kernel
theorem d_Main_give_34 : decode b_Main_give 34 = .ok (.istore_n 3, 1) := by decide +kernel
theorem d_Main_give_35 : decode b_Main_give 35 = .ok (.aload_n 0, 1) := by decide +kernel
theorem d_Main_give_36 : decode b_Main_give 36 = .ok (.getfield 28, 3) := by decide +kernel
theorem d_Main_give_39 : decode b_Main_give 39 = .ok (.getfield 125, 3) := by decide +kernel
theorem d_Main_give_42 : decode b_Main_give 42 = .ok (.iload_n 1, 1) := by decide +kernel
theorem d_Main_give_43 : decode b_Main_give 43 = .ok (.iload_n 2, 1) := by decide +kernel
theorem d_Main_give_44 : decode b_Main_give 44 = .ok (.iastore, 1) := by decide +kernel
theorem d_Main_give_45 : decode b_Main_give 45 = .ok (.iload_n 3, 1) := by decide +kernel
theorem d_Main_give_46 : decode b_Main_give 46 = .ok (.ireturn, 1) := by decide +kernel
set_option maxRecDepth 20000 in
theorem c_Main_give {l : Launch} {g : GG} (hI : WI g) (a1 : Int32) (a2 : Int32) (M : Mem) (R : Int32 → Mem → Prop) (h : wp_Main_give a1 a2 M R) : Met l y_Main_give (wm y_Main_give b_Main_give 4 (some .int)) (RM 2 42) (PP g M [.ref (g.2.2.2 0), .int a1, .int a2]) (PQ g (RI R)) 0 0 (AW g) := by
  refine m_of (own := N_Main) (by decide) rfl (Nat.le_of_ble_eq_true rfl) ?_
  intro p e s m below meth c ls C hr hlocks hW hP hS hl
  obtain ⟨hx, hb, hml, hown, hts⟩ := id C
  have hl : lv_has ls 4 [(0, .ref (g.2.2.2 0)), (1, .int a1), (2, .int a2)] := hl
  unfold wp_Main_give at h
  have hk := h
  refine lv_aload_n hx hb d_Main_give_0 rfl (lv_at hl 0 rfl) ?_
  refine gf_0_2 C hW hP fl_Main_28 d_Main_give_1 ?_
  refine lv_iload_n hx hb d_Main_give_4 rfl (lv_at hl 1 rfl) ?_
  refine r_runZ (k_V (As := [.int a1]) (rest := []) C hW hP (c_Way_hasGuest hI a1 M _ hk) cb_Way_hasGuest ml_Main_122 (io_12 g M) ⟨by decide, by decide⟩ rfl hl.1 rfl (Nat.le_of_ble_eq_true rfl) d_Main_give_5 ⟨by decide, by decide⟩) hS (fun r2 M1 H locs zr2 hk hP hS => ?_)
  refine lv_if_ne (tgt := 13) hx hb d_Main_give_8 (by decide) (fun c3 => ?_) (fun c3 => ?_)
  · have hk := hk.1 c3
    refine lv_iload_n hx hb d_Main_give_13 rfl (lv_at hl 2 rfl) ?_
    refine lv_bipush (v := 64) hx hb d_Main_give_14 (by decide) ?_
    refine r_runZ (k_S (As := [.int a2, .int (64 : Int32)]) (rest := []) C hW hP (c_Main_isBelow hI a2 (64 : Int32) M1 _ hk) cb_Main_isBelow ml_Main_75 ⟨by decide, by decide⟩ rfl hl.1 rfl (Nat.le_of_ble_eq_true rfl) d_Main_give_16 ⟨by decide, by decide⟩) hS (fun r5 M4 H locs zr5 hk hP hS => ?_)
    refine lv_if_ne (tgt := 25) hx hb d_Main_give_19 (by decide) (fun c6 => ?_) (fun c6 => ?_)
    · have hk := hk.1 c6
      refine lv_aload_n hx hb d_Main_give_25 rfl (lv_at hl 0 rfl) ?_
      refine gf_0_2 C hW hP fl_Main_28 d_Main_give_26 ?_
      refine gf_12_4 C hW hP fl_Main_125 d_Main_give_29 ?_
      refine lv_iload_n hx hb d_Main_give_32 rfl (lv_at hl 1 rfl) ?_
      obtain ⟨h7, hk⟩ := hk
      refine al_17 C hW hP h7 d_Main_give_33 ?_
      refine lv_topi (fun x3_8 ex3_8 => ?_)
      have hk := hk x3_8 ex3_8
      refine lv_istore_n (lv' := [(3, .int x3_8), (0, .ref (g.2.2.2 0)), (1, .int a1), (2, .int a2)]) hx hb d_Main_give_34 rfl hl (by decide) rfl (fun ls hl => ?_)
      refine lv_aload_n hx hb d_Main_give_35 rfl (lv_at hl 1 rfl) ?_
      refine gf_0_2 C hW hP fl_Main_28 d_Main_give_36 ?_
      refine gf_12_4 C hW hP fl_Main_125 d_Main_give_39 ?_
      refine lv_iload_n hx hb d_Main_give_42 rfl (lv_at hl 2 rfl) ?_
      refine lv_iload_n hx hb d_Main_give_43 rfl (lv_at hl 3 rfl) ?_
      obtain ⟨h9, hk⟩ := hk
      refine as_17 hI C hW hP hS h9 d_Main_give_44 (fun M10 eM10 H locs hP hS => ?_)
      have hk := hk M10 eM10
      refine lv_iload_n hx hb d_Main_give_45 rfl (lv_at hl 0 rfl) ?_
      exact r_iret C hr hlocks hP hS hk d_Main_give_46
    · have hk := hk.2 c6
      refine lv_bipush (v := -2) hx hb d_Main_give_22 (by decide) ?_
      exact r_iret C hr hlocks hP hS hk d_Main_give_24
  · have hk := hk.2 c3
    refine lv_iconst (v := -1) hx hb d_Main_give_11 (by decide) ?_
    exact r_iret C hr hlocks hP hS hk d_Main_give_12
theorem d_Main_bar_0 : decode b_Main_bar 0 = .ok (.aload_n 0, 1) := by decide +kernel
theorem d_Main_bar_1 : decode b_Main_bar 1 = .ok (.getfield 28, 3) := by decide +kernel
theorem d_Main_bar_4 : decode b_Main_bar 4 = .ok (.iload_n 1, 1) := by decide +kernel
theorem d_Main_bar_5 : decode b_Main_bar 5 = .ok (.invokevirtual 105, 3) := by decide +kernel
theorem d_Main_bar_8 : decode b_Main_bar 8 = .ok (.ifCond .ne 5, 3) := by decide +kernel
theorem d_Main_bar_11 : decode b_Main_bar 11 = .ok (.iconst (-1), 1) := by decide +kernel
theorem d_Main_bar_12 : decode b_Main_bar 12 = .ok (.ireturn, 1) := by decide +kernel
theorem d_Main_bar_13 : decode b_Main_bar 13 = .ok (.iload_n 2, 1) := by decide +kernel
theorem d_Main_bar_14 : decode b_Main_bar 14 = .ok (.bipush 6, 2) := by decide +kernel
theorem d_Main_bar_16 : decode b_Main_bar 16 = .ok (.if_icmp .eq 15, 3) := by decide +kernel
theorem d_Main_bar_19 : decode b_Main_bar 19 = .ok (.iload_n 2, 1) := by decide +kernel
theorem d_Main_bar_20 : decode b_Main_bar 20 = .ok (.bipush 6, 2) := by decide +kernel
theorem d_Main_bar_22 : decode b_Main_bar 22 = .ok (.invokestatic 75, 3) := by decide +kernel
theorem d_Main_bar_25 : decode b_Main_bar 25 = .ok (.ifCond .ne 6, 3) := by decide +kernel
theorem d_Main_bar_28 : decode b_Main_bar 28 = .ok (.bipush (-2), 2) := by decide +kernel
theorem d_Main_bar_30 : decode b_Main_bar 30 = .ok (.ireturn, 1) := by decide +kernel
theorem d_Main_bar_31 : decode b_Main_bar 31 = .ok (.aload_n 0, 1) := by decide +kernel
theorem d_Main_bar_32 : decode b_Main_bar 32 = .ok (.getfield 28, 3) := by decide +kernel
theorem d_Main_bar_35 : decode b_Main_bar 35 = .ok (.getfield 119, 3) := by decide +kernel
theorem d_Main_bar_38 : decode b_Main_bar 38 = .ok (.iload_n 1, 1) := by decide +kernel
theorem d_Main_bar_39 : decode b_Main_bar 39 = .ok (.iaload, 1) := by decide +kernel
theorem d_Main_bar_40 : decode b_Main_bar 40 = .ok (.istore_n 3, 1) := by decide +kernel
theorem d_Main_bar_41 : decode b_Main_bar 41 = .ok (.aload_n 0, 1) := by decide +kernel
theorem d_Main_bar_42 : decode b_Main_bar 42 = .ok (.getfield 28, 3) := by decide +kernel
theorem d_Main_bar_45 : decode b_Main_bar 45 = .ok (.getfield 119, 3) := by decide +kernel
theorem d_Main_bar_48 : decode b_Main_bar 48 = .ok (.iload_n 1, 1) := by decide +kernel
theorem d_Main_bar_49 : decode b_Main_bar 49 = .ok (.iload_n 2, 1) := by decide +kernel
theorem d_Main_bar_50 : decode b_Main_bar 50 = .ok (.iastore, 1) := by decide +kernel
theorem d_Main_bar_51 : decode b_Main_bar 51 = .ok (.iload_n 3, 1) := by decide +kernel
theorem d_Main_bar_52 : decode b_Main_bar 52 = .ok (.ireturn, 1) := by decide +kernel
set_option maxRecDepth 20000 in
theorem c_Main_bar {l : Launch} {g : GG} (hI : WI g) (a1 : Int32) (a2 : Int32) (M : Mem) (R : Int32 → Mem → Prop) (h : wp_Main_bar a1 a2 M R) : Met l y_Main_bar (wm y_Main_bar b_Main_bar 4 (some .int)) (RM 2 42) (PP g M [.ref (g.2.2.2 0), .int a1, .int a2]) (PQ g (RI R)) 0 0 (AW g) := by
  refine m_of (own := N_Main) (by decide) rfl (Nat.le_of_ble_eq_true rfl) ?_
  intro p e s m below meth c ls C hr hlocks hW hP hS hl
  obtain ⟨hx, hb, hml, hown, hts⟩ := id C
  have hl : lv_has ls 4 [(0, .ref (g.2.2.2 0)), (1, .int a1), (2, .int a2)] := hl
  unfold wp_Main_bar at h
  have J31 : ∀ (x1 : Int32) (x2 : Int32) (M : Mem), wp_Main_bar_31  R x1 x2 M → ∀ (H : Heap) (locs : List Loc) (ls : Array Slot), WP g M H → va_S (AW g) s.heap H locs → lv_has ls 4 [(0, .ref (g.2.2.2 0)), (1, .int x1), (2, .int x2)] → W p l e (RM 2 42) s m ([.ref (g.2.2.2 0), .int a1, .int a2] : List Value).toArray below meth c H locs 0 0 (MQ below (PQ g (RI R)) ([.ref (g.2.2.2 0), .int a1, .int a2] : List Value).toArray s 0 0 (AW g)) (F0 m 31 ls []) := by
    intro x1 x2 M hk H locs ls hP hS hl
    unfold wp_Main_bar_31 at hk
    refine lv_aload_n hx hb d_Main_bar_31 rfl (lv_at hl 0 rfl) ?_
    refine gf_0_2 C hW hP fl_Main_28 d_Main_bar_32 ?_
    refine gf_12_3 C hW hP fl_Main_119 d_Main_bar_35 ?_
    refine lv_iload_n hx hb d_Main_bar_38 rfl (lv_at hl 1 rfl) ?_
    obtain ⟨h1, hk⟩ := hk
    refine al_16 C hW hP h1 d_Main_bar_39 ?_
    refine lv_topi (fun x3_2 ex3_2 => ?_)
    have hk := hk x3_2 ex3_2
    refine lv_istore_n (lv' := [(3, .int x3_2), (0, .ref (g.2.2.2 0)), (1, .int x1), (2, .int x2)]) hx hb d_Main_bar_40 rfl hl (by decide) rfl (fun ls hl => ?_)
    refine lv_aload_n hx hb d_Main_bar_41 rfl (lv_at hl 1 rfl) ?_
    refine gf_0_2 C hW hP fl_Main_28 d_Main_bar_42 ?_
    refine gf_12_3 C hW hP fl_Main_119 d_Main_bar_45 ?_
    refine lv_iload_n hx hb d_Main_bar_48 rfl (lv_at hl 2 rfl) ?_
    refine lv_iload_n hx hb d_Main_bar_49 rfl (lv_at hl 3 rfl) ?_
    obtain ⟨h3, hk⟩ := hk
    refine as_16 hI C hW hP hS h3 d_Main_bar_50 (fun M4 eM4 H locs hP hS => ?_)
    have hk := hk M4 eM4
    refine lv_iload_n hx hb d_Main_bar_51 rfl (lv_at hl 0 rfl) ?_
    exact r_iret C hr hlocks hP hS hk d_Main_bar_52
  have hk := h
  refine lv_aload_n hx hb d_Main_bar_0 rfl (lv_at hl 0 rfl) ?_
  refine gf_0_2 C hW hP fl_Main_28 d_Main_bar_1 ?_
  refine lv_iload_n hx hb d_Main_bar_4 rfl (lv_at hl 1 rfl) ?_
  refine r_runZ (k_V (As := [.int a1]) (rest := []) C hW hP (c_Way_hasHouse hI a1 M _ hk) cb_Way_hasHouse ml_Main_105 (io_12 g M) ⟨by decide, by decide⟩ rfl hl.1 rfl (Nat.le_of_ble_eq_true rfl) d_Main_bar_5 ⟨by decide, by decide⟩) hS (fun r6 M5 H locs zr6 hk hP hS => ?_)
  refine lv_if_ne (tgt := 13) hx hb d_Main_bar_8 (by decide) (fun c7 => ?_) (fun c7 => ?_)
  · have hk := hk.1 c7
    refine lv_iload_n hx hb d_Main_bar_13 rfl (lv_at hl 2 rfl) ?_
    refine lv_bipush (v := 6) hx hb d_Main_bar_14 (by decide) ?_
    refine lv_icmp_eq (tgt := 31) hx hb d_Main_bar_16 (by decide) (fun c8 => ?_) (fun c8 => ?_)
    · have hk := hk.1 c8
      exact J31 a1 a2 M5 hk _ _ _ hP hS (lv_sub hl [0, 1, 2] rfl)
    · have hk := hk.2 c8
      refine lv_iload_n hx hb d_Main_bar_19 rfl (lv_at hl 2 rfl) ?_
      refine lv_bipush (v := 6) hx hb d_Main_bar_20 (by decide) ?_
      refine r_runZ (k_S (As := [.int a2, .int (6 : Int32)]) (rest := []) C hW hP (c_Main_isBelow hI a2 (6 : Int32) M5 _ hk) cb_Main_isBelow ml_Main_75 ⟨by decide, by decide⟩ rfl hl.1 rfl (Nat.le_of_ble_eq_true rfl) d_Main_bar_22 ⟨by decide, by decide⟩) hS (fun r10 M9 H locs zr10 hk hP hS => ?_)
      refine lv_if_ne (tgt := 31) hx hb d_Main_bar_25 (by decide) (fun c11 => ?_) (fun c11 => ?_)
      · have hk := hk.1 c11
        exact J31 a1 a2 M9 hk _ _ _ hP hS (lv_sub hl [0, 1, 2] rfl)
      · have hk := hk.2 c11
        refine lv_bipush (v := -2) hx hb d_Main_bar_28 (by decide) ?_
        exact r_iret C hr hlocks hP hS hk d_Main_bar_30
  · have hk := hk.2 c7
    refine lv_iconst (v := -1) hx hb d_Main_bar_11 (by decide) ?_
    exact r_iret C hr hlocks hP hS hk d_Main_bar_12
theorem d_Way_usedIn_0 : decode b_Way_usedIn 0 = .ok (.iload_n 2, 1) := by decide +kernel
theorem d_Way_usedIn_1 : decode b_Way_usedIn 1 = .ok (.iload_n 3, 1) := by decide +kernel
theorem d_Way_usedIn_2 : decode b_Way_usedIn 2 = .ok (.iconst (-1), 1) := by decide +kernel
theorem d_Way_usedIn_3 : decode b_Way_usedIn 3 = .ok (.ixor, 1) := by decide +kernel
theorem d_Way_usedIn_4 : decode b_Way_usedIn 4 = .ok (.iand, 1) := by decide +kernel
theorem d_Way_usedIn_5 : decode b_Way_usedIn 5 = .ok (.iconst 1, 1) := by decide +kernel
theorem d_Way_usedIn_6 : decode b_Way_usedIn 6 = .ok (.aload_n 0, 1) := by decide +kernel
theorem d_Way_usedIn_7 : decode b_Way_usedIn 7 = .ok (.getfield 21, 3) := by decide +kernel
theorem d_Way_usedIn_10 : decode b_Way_usedIn 10 = .ok (.iload_n 1, 1) := by decide +kernel
theorem d_Way_usedIn_11 : decode b_Way_usedIn 11 = .ok (.iaload, 1) := by decide +kernel
theorem d_Way_usedIn_12 : decode b_Way_usedIn 12 = .ok (.ishl, 1) := by decide +kernel
theorem d_Way_usedIn_13 : decode b_Way_usedIn 13 = .ok (.iconst (-1), 1) := by decide +kernel
theorem d_Way_usedIn_14 : decode b_Way_usedIn 14 = .ok (.ixor, 1) := by decide +kernel
theorem d_Way_usedIn_15 : decode b_Way_usedIn 15 = .ok (.iand, 1) := by decide +kernel
theorem d_Way_usedIn_16 : decode b_Way_usedIn 16 = .ok (.iconst 1, 1) := by decide +kernel
theorem d_Way_usedIn_17 : decode b_Way_usedIn 17 = .ok (.aload_n 0, 1) := by decide +kernel
theorem d_Way_usedIn_18 : decode b_Way_usedIn 18 = .ok (.getfield 34, 3) := by decide +kernel
theorem d_Way_usedIn_21 : decode b_Way_usedIn 21 = .ok (.ishl, 1) := by decide +kernel
theorem d_Way_usedIn_22 : decode b_Way_usedIn 22 = .ok (.iconst (-1), 1) := by decide +kernel
theorem d_Way_usedIn_23 : decode b_Way_usedIn 23 = .ok (.ixor, 1) := by decide +kernel
theorem d_Way_usedIn_24 : decode b_Way_usedIn 24 = .ok (.iand, 1) := by decide +kernel
theorem d_Way_usedIn_25 : decode b_Way_usedIn 25 = .ok (.istore 4, 2) := by decide +kernel
theorem d_Way_usedIn_27 : decode b_Way_usedIn 27 = .ok (.iconst 1, 1) := by decide +kernel
theorem d_Way_usedIn_28 : decode b_Way_usedIn 28 = .ok (.aload_n 0, 1) := by decide +kernel
theorem d_Way_usedIn_29 : decode b_Way_usedIn 29 = .ok (.getfield 15, 3) := by decide +kernel
theorem d_Way_usedIn_32 : decode b_Way_usedIn 32 = .ok (.iload_n 1, 1) := by decide +kernel
theorem d_Way_usedIn_33 : decode b_Way_usedIn 33 = .ok (.iaload, 1) := by decide +kernel
theorem d_Way_usedIn_34 : decode b_Way_usedIn 34 = .ok (.ishl, 1) := by decide +kernel
theorem d_Way_usedIn_35 : decode b_Way_usedIn 35 = .ok (.istore 5, 2) := by decide +kernel
theorem d_Way_usedIn_37 : decode b_Way_usedIn 37 = .ok (.iconst 1, 1) := by decide +kernel
theorem d_Way_usedIn_38 : decode b_Way_usedIn 38 = .ok (.aload_n 0, 1) := by decide +kernel
theorem d_Way_usedIn_39 : decode b_Way_usedIn 39 = .ok (.getfield 18, 3) := by decide +kernel
theorem d_Way_usedIn_42 : decode b_Way_usedIn 42 = .ok (.iload_n 1, 1) := by decide +kernel
theorem d_Way_usedIn_43 : decode b_Way_usedIn 43 = .ok (.iaload, 1) := by decide +kernel
theorem d_Way_usedIn_44 : decode b_Way_usedIn 44 = .ok (.ishl, 1) := by decide +kernel
theorem d_Way_usedIn_45 : decode b_Way_usedIn 45 = .ok (.istore 6, 2) := by decide +kernel
theorem d_Way_usedIn_47 : decode b_Way_usedIn 47 = .ok (.aload_n 0, 1) := by decide +kernel
theorem d_Way_usedIn_48 : decode b_Way_usedIn 48 = .ok (.getfield 9, 3) := by decide +kernel
theorem d_Way_usedIn_51 : decode b_Way_usedIn 51 = .ok (.iload_n 1, 1) := by decide +kernel
theorem d_Way_usedIn_52 : decode b_Way_usedIn 52 = .ok (.iaload, 1) := by decide +kernel
theorem d_Way_usedIn_53 : decode b_Way_usedIn 53 = .ok (.iconst 1, 1) := by decide +kernel
theorem d_Way_usedIn_54 : decode b_Way_usedIn 54 = .ok (.if_icmp .ne 28, 3) := by decide +kernel
theorem d_Way_usedIn_57 : decode b_Way_usedIn 57 = .ok (.iload 5, 2) := by decide +kernel
theorem d_Way_usedIn_59 : decode b_Way_usedIn 59 = .ok (.iload 6, 2) := by decide +kernel
theorem d_Way_usedIn_61 : decode b_Way_usedIn 61 = .ok (.ior, 1) := by decide +kernel
theorem d_Way_usedIn_62 : decode b_Way_usedIn 62 = .ok (.istore 7, 2) := by decide +kernel
theorem d_Way_usedIn_64 : decode b_Way_usedIn 64 = .ok (.iload 4, 2) := by decide +kernel
theorem d_Way_usedIn_66 : decode b_Way_usedIn 66 = .ok (.iload 7, 2) := by decide +kernel
theorem d_Way_usedIn_68 : decode b_Way_usedIn 68 = .ok (.iand, 1) := by decide +kernel
theorem d_Way_usedIn_69 : decode b_Way_usedIn 69 = .ok (.iload 7, 2) := by decide +kernel
theorem d_Way_usedIn_71 : decode b_Way_usedIn 71 = .ok (.if_icmp .ne 8, 3) := by decide +kernel
theorem d_Way_usedIn_74 : decode b_Way_usedIn 74 = .ok (.iload 7, 2) := by decide +kernel
theorem d_Way_usedIn_76 : decode b_Way_usedIn 76 = .ok (.goto 5, 3) := by decide +kernel
theorem d_Way_usedIn_79 : decode b_Way_usedIn 79 = .ok (.bipush (-9), 2) := by decide +kernel
theorem d_Way_usedIn_81 : decode b_Way_usedIn 81 = .ok (.ireturn, 1) := by decide +kernel
theorem d_Way_usedIn_82 : decode b_Way_usedIn 82 = .ok (.iload 4, 2) := by decide +kernel
theorem d_Way_usedIn_84 : decode b_Way_usedIn 84 = .ok (.iload 5, 2) := by decide +kernel
theorem d_Way_usedIn_86 : decode b_Way_usedIn 86 = .ok (.iand, 1) := by decide +kernel
theorem d_Way_usedIn_87 : decode b_Way_usedIn 87 = .ok (.ifCond .eq 6, 3) := by decide +kernel
theorem d_Way_usedIn_90 : decode b_Way_usedIn 90 = .ok (.iload 5, 2) := by decide +kernel
theorem d_Way_usedIn_92 : decode b_Way_usedIn 92 = .ok (.ireturn, 1) := by decide +kernel
theorem d_Way_usedIn_93 : decode b_Way_usedIn 93 = .ok (.iload 4, 2) := by decide +kernel
theorem d_Way_usedIn_95 : decode b_Way_usedIn 95 = .ok (.iload 6, 2) := by decide +kernel
theorem d_Way_usedIn_97 : decode b_Way_usedIn 97 = .ok (.iand, 1) := by decide +kernel
theorem d_Way_usedIn_98 : decode b_Way_usedIn 98 = .ok (.ifCond .eq 8, 3) := by decide +kernel
theorem d_Way_usedIn_101 : decode b_Way_usedIn 101 = .ok (.iload 6, 2) := by decide +kernel
theorem d_Way_usedIn_103 : decode b_Way_usedIn 103 = .ok (.goto 5, 3) := by decide +kernel
theorem d_Way_usedIn_106 : decode b_Way_usedIn 106 = .ok (.bipush (-9), 2) := by decide +kernel
theorem d_Way_usedIn_108 : decode b_Way_usedIn 108 = .ok (.ireturn, 1) := by decide +kernel
set_option maxRecDepth 20000 in
theorem c_Way_usedIn {l : Launch} {g : GG} (hI : WI g) (a1 : Int32) (a2 : Int32) (a3 : Int32) (M : Mem) (R : Int32 → Mem → Prop) (h : wp_Way_usedIn a1 a2 a3 M R) : Met l y_Way_usedIn (wm y_Way_usedIn b_Way_usedIn 8 (some .int)) (RM 0 0) (PP g M [.ref (g.2.2.2 12), .int a1, .int a2, .int a3]) (PQ g (RI R)) 0 0 (AW g) := by
  refine m_of (own := N_Way) (by decide) rfl (Nat.le_of_ble_eq_true rfl) ?_
  intro p e s m below meth c ls C hr hlocks hW hP hS hl
  obtain ⟨hx, hb, hml, hown, hts⟩ := id C
  have hl : lv_has ls 8 [(0, .ref (g.2.2.2 12)), (1, .int a1), (2, .int a2), (3, .int a3)] := hl
  unfold wp_Way_usedIn at h
  have hk := h
  refine lv_iload_n hx hb d_Way_usedIn_0 rfl (lv_at hl 2 rfl) ?_
  refine lv_iload_n hx hb d_Way_usedIn_1 rfl (lv_at hl 3 rfl) ?_
  refine lv_iconst (v := -1) hx hb d_Way_usedIn_2 (by decide) ?_
  refine lv_ixor hx hb d_Way_usedIn_3 ?_
  refine lv_iand hx hb d_Way_usedIn_4 ?_
  refine lv_iconst (v := 1) hx hb d_Way_usedIn_5 (by decide) ?_
  refine lv_aload_n hx hb d_Way_usedIn_6 rfl (lv_at hl 0 rfl) ?_
  refine gf_12_3 C hW hP fl_Way_21 d_Way_usedIn_7 ?_
  refine lv_iload_n hx hb d_Way_usedIn_10 rfl (lv_at hl 1 rfl) ?_
  obtain ⟨h1, hk⟩ := hk
  refine al_16 C hW hP h1 d_Way_usedIn_11 ?_
  refine lv_ishl hx hb d_Way_usedIn_12 ?_
  refine lv_iconst (v := -1) hx hb d_Way_usedIn_13 (by decide) ?_
  refine lv_ixor hx hb d_Way_usedIn_14 ?_
  refine lv_iand hx hb d_Way_usedIn_15 ?_
  refine lv_iconst (v := 1) hx hb d_Way_usedIn_16 (by decide) ?_
  refine lv_aload_n hx hb d_Way_usedIn_17 rfl (lv_at hl 0 rfl) ?_
  refine gf_12_7 C hW hP fl_Way_34 d_Way_usedIn_18 ?_
  refine lv_ishl hx hb d_Way_usedIn_21 ?_
  refine lv_iconst (v := -1) hx hb d_Way_usedIn_22 (by decide) ?_
  refine lv_ixor hx hb d_Way_usedIn_23 ?_
  refine lv_iand hx hb d_Way_usedIn_24 ?_
  refine lv_topi (fun x4_2 ex4_2 => ?_)
  have hk := hk x4_2 ex4_2
  refine lv_istore (lv' := [(4, .int x4_2), (0, .ref (g.2.2.2 12)), (1, .int a1), (2, .int a2), (3, .int a3)]) hx hb d_Way_usedIn_25 hl (by decide) rfl (fun ls hl => ?_)
  refine lv_iconst (v := 1) hx hb d_Way_usedIn_27 (by decide) ?_
  refine lv_aload_n hx hb d_Way_usedIn_28 rfl (lv_at hl 1 rfl) ?_
  refine gf_12_1 C hW hP fl_Way_15 d_Way_usedIn_29 ?_
  refine lv_iload_n hx hb d_Way_usedIn_32 rfl (lv_at hl 2 rfl) ?_
  obtain ⟨h3, hk⟩ := hk
  refine al_14 C hW hP h3 d_Way_usedIn_33 ?_
  refine lv_ishl hx hb d_Way_usedIn_34 ?_
  refine lv_topi (fun x5_4 ex5_4 => ?_)
  have hk := hk x5_4 ex5_4
  refine lv_istore (lv' := [(5, .int x5_4), (4, .int x4_2), (0, .ref (g.2.2.2 12)), (1, .int a1), (2, .int a2), (3, .int a3)]) hx hb d_Way_usedIn_35 hl (by decide) rfl (fun ls hl => ?_)
  refine lv_iconst (v := 1) hx hb d_Way_usedIn_37 (by decide) ?_
  refine lv_aload_n hx hb d_Way_usedIn_38 rfl (lv_at hl 2 rfl) ?_
  refine gf_12_2 C hW hP fl_Way_18 d_Way_usedIn_39 ?_
  refine lv_iload_n hx hb d_Way_usedIn_42 rfl (lv_at hl 3 rfl) ?_
  obtain ⟨h5, hk⟩ := hk
  refine al_15 C hW hP h5 d_Way_usedIn_43 ?_
  refine lv_ishl hx hb d_Way_usedIn_44 ?_
  refine lv_topi (fun x6_6 ex6_6 => ?_)
  have hk := hk x6_6 ex6_6
  refine lv_istore (lv' := [(6, .int x6_6), (5, .int x5_4), (4, .int x4_2), (0, .ref (g.2.2.2 12)), (1, .int a1), (2, .int a2), (3, .int a3)]) hx hb d_Way_usedIn_45 hl (by decide) rfl (fun ls hl => ?_)
  refine lv_aload_n hx hb d_Way_usedIn_47 rfl (lv_at hl 3 rfl) ?_
  refine gf_12_0 C hW hP fl_Way_9 d_Way_usedIn_48 ?_
  refine lv_iload_n hx hb d_Way_usedIn_51 rfl (lv_at hl 4 rfl) ?_
  obtain ⟨h7, hk⟩ := hk
  refine al_13 C hW hP h7 d_Way_usedIn_52 ?_
  refine lv_iconst (v := 1) hx hb d_Way_usedIn_53 (by decide) ?_
  refine lv_icmp_ne (tgt := 82) hx hb d_Way_usedIn_54 (by decide) (fun c8 => ?_) (fun c8 => ?_)
  · have hk := hk.1 c8
    refine lv_iload hx hb d_Way_usedIn_82 (lv_at hl 2 rfl) ?_
    refine lv_iload hx hb d_Way_usedIn_84 (lv_at hl 1 rfl) ?_
    refine lv_iand hx hb d_Way_usedIn_86 ?_
    refine lv_if_eq (tgt := 93) hx hb d_Way_usedIn_87 (by decide) (fun c9 => ?_) (fun c9 => ?_)
    · have hk := hk.1 c9
      refine lv_iload hx hb d_Way_usedIn_93 (lv_at hl 2 rfl) ?_
      refine lv_iload hx hb d_Way_usedIn_95 (lv_at hl 0 rfl) ?_
      refine lv_iand hx hb d_Way_usedIn_97 ?_
      refine lv_if_eq (tgt := 106) hx hb d_Way_usedIn_98 (by decide) (fun c10 => ?_) (fun c10 => ?_)
      · have hk := hk.1 c10
        refine lv_bipush (v := -9) hx hb d_Way_usedIn_106 (by decide) ?_
        exact r_iret C hr hlocks hP hS hk d_Way_usedIn_108
      · have hk := hk.2 c10
        refine lv_iload hx hb d_Way_usedIn_101 (lv_at hl 0 rfl) ?_
        refine lv_goto (tgt := 108) hx hb d_Way_usedIn_103 (by decide) ?_
        exact r_iret C hr hlocks hP hS hk d_Way_usedIn_108
    · have hk := hk.2 c9
      refine lv_iload hx hb d_Way_usedIn_90 (lv_at hl 1 rfl) ?_
      exact r_iret C hr hlocks hP hS hk d_Way_usedIn_92
  · have hk := hk.2 c8
    refine lv_iload hx hb d_Way_usedIn_57 (lv_at hl 1 rfl) ?_
    refine lv_iload hx hb d_Way_usedIn_59 (lv_at hl 0 rfl) ?_
    refine lv_ior hx hb d_Way_usedIn_61 ?_
    refine lv_topi (fun x7_11 ex7_11 => ?_)
    have hk := hk x7_11 ex7_11
    refine lv_istore (lv' := [(7, .int x7_11), (6, .int x6_6), (5, .int x5_4), (4, .int x4_2), (0, .ref (g.2.2.2 12)), (1, .int a1), (2, .int a2), (3, .int a3)]) hx hb d_Way_usedIn_62 hl (by decide) rfl (fun ls hl => ?_)
    refine lv_iload hx hb d_Way_usedIn_64 (lv_at hl 3 rfl) ?_
    refine lv_iload hx hb d_Way_usedIn_66 (lv_at hl 0 rfl) ?_
    refine lv_iand hx hb d_Way_usedIn_68 ?_
    refine lv_iload hx hb d_Way_usedIn_69 (lv_at hl 0 rfl) ?_
    refine lv_icmp_ne (tgt := 79) hx hb d_Way_usedIn_71 (by decide) (fun c12 => ?_) (fun c12 => ?_)
    · have hk := hk.1 c12
      refine lv_bipush (v := -9) hx hb d_Way_usedIn_79 (by decide) ?_
      exact r_iret C hr hlocks hP hS hk d_Way_usedIn_81
    · have hk := hk.2 c12
      refine lv_iload hx hb d_Way_usedIn_74 (lv_at hl 0 rfl) ?_
      refine lv_goto (tgt := 81) hx hb d_Way_usedIn_76 (by decide) ?_
      exact r_iret C hr hlocks hP hS hk d_Way_usedIn_81
theorem d_Main_passes_0 : decode b_Main_passes 0 = .ok (.aload_n 0, 1) := by decide +kernel
theorem d_Main_passes_1 : decode b_Main_passes 1 = .ok (.getfield 28, 3) := by decide +kernel
theorem d_Main_passes_4 : decode b_Main_passes 4 = .ok (.iload_n 1, 1) := by decide +kernel
theorem d_Main_passes_5 : decode b_Main_passes 5 = .ok (.invokevirtual 105, 3) := by decide +kernel
theorem d_Main_passes_8 : decode b_Main_passes 8 = .ok (.ifCond .ne 5, 3) := by decide +kernel
theorem d_Main_passes_11 : decode b_Main_passes 11 = .ok (.iconst (-1), 1) := by decide +kernel
theorem d_Main_passes_12 : decode b_Main_passes 12 = .ok (.ireturn, 1) := by decide +kernel
theorem d_Main_passes_13 : decode b_Main_passes 13 = .ok (.iload_n 2, 1) := by decide +kernel
theorem d_Main_passes_14 : decode b_Main_passes 14 = .ok (.bipush 64, 2) := by decide +kernel
theorem d_Main_passes_16 : decode b_Main_passes 16 = .ok (.invokestatic 75, 3) := by decide +kernel
theorem d_Main_passes_19 : decode b_Main_passes 19 = .ok (.ifCond .eq 12, 3) := by decide +kernel
theorem d_Main_passes_22 : decode b_Main_passes 22 = .ok (.iload_n 3, 1) := by decide +kernel
theorem d_Main_passes_23 : decode b_Main_passes 23 = .ok (.bipush 64, 2) := by decide +kernel
theorem d_Main_passes_25 : decode b_Main_passes 25 = .ok (.invokestatic 75, 3) := by decide +kernel
theorem d_Main_passes_28 : decode b_Main_passes 28 = .ok (.ifCond .ne 6, 3) := by decide +kernel
theorem d_Main_passes_31 : decode b_Main_passes 31 = .ok (.bipush (-2), 2) := by decide +kernel
theorem d_Main_passes_33 : decode b_Main_passes 33 = .ok (.ireturn, 1) := by decide +kernel
theorem d_Main_passes_34 : decode b_Main_passes 34 = .ok (.aload_n 0, 1) := by decide +kernel
theorem d_Main_passes_35 : decode b_Main_passes 35 = .ok (.getfield 28, 3) := by decide +kernel
theorem d_Main_passes_38 : decode b_Main_passes 38 = .ok (.iload_n 1, 1) := by decide +kernel
theorem d_Main_passes_39 : decode b_Main_passes 39 = .ok (.iload_n 2, 1) := by decide +kernel
theorem d_Main_passes_40 : decode b_Main_passes 40 = .ok (.iload_n 3, 1) := by decide +kernel
theorem d_Main_passes_41 : decode b_Main_passes 41 = .ok (.invokevirtual 128, 3) := by decide +kernel
theorem d_Main_passes_44 : decode b_Main_passes 44 = .ok (.ireturn, 1) := by decide +kernel
set_option maxRecDepth 20000 in
theorem c_Main_passes {l : Launch} {g : GG} (hI : WI g) (a1 : Int32) (a2 : Int32) (a3 : Int32) (M : Mem) (R : Int32 → Mem → Prop) (h : wp_Main_passes a1 a2 a3 M R) : Met l y_Main_passes (wm y_Main_passes b_Main_passes 4 (some .int)) (RM 2 42) (PP g M [.ref (g.2.2.2 0), .int a1, .int a2, .int a3]) (PQ g (RI R)) 0 0 (AW g) := by
  refine m_of (own := N_Main) (by decide) rfl (Nat.le_of_ble_eq_true rfl) ?_
  intro p e s m below meth c ls C hr hlocks hW hP hS hl
  obtain ⟨hx, hb, hml, hown, hts⟩ := id C
  have hl : lv_has ls 4 [(0, .ref (g.2.2.2 0)), (1, .int a1), (2, .int a2), (3, .int a3)] := hl
  unfold wp_Main_passes at h
  have hk := h
  refine lv_aload_n hx hb d_Main_passes_0 rfl (lv_at hl 0 rfl) ?_
  refine gf_0_2 C hW hP fl_Main_28 d_Main_passes_1 ?_
  refine lv_iload_n hx hb d_Main_passes_4 rfl (lv_at hl 1 rfl) ?_
  refine r_runZ (k_V (As := [.int a1]) (rest := []) C hW hP (c_Way_hasHouse hI a1 M _ hk) cb_Way_hasHouse ml_Main_105 (io_12 g M) ⟨by decide, by decide⟩ rfl hl.1 rfl (Nat.le_of_ble_eq_true rfl) d_Main_passes_5 ⟨by decide, by decide⟩) hS (fun r2 M1 H locs zr2 hk hP hS => ?_)
  refine lv_if_ne (tgt := 13) hx hb d_Main_passes_8 (by decide) (fun c3 => ?_) (fun c3 => ?_)
  · have hk := hk.1 c3
    refine lv_iload_n hx hb d_Main_passes_13 rfl (lv_at hl 2 rfl) ?_
    refine lv_bipush (v := 64) hx hb d_Main_passes_14 (by decide) ?_
    refine r_runZ (k_S (As := [.int a2, .int (64 : Int32)]) (rest := []) C hW hP (c_Main_isBelow hI a2 (64 : Int32) M1 _ hk) cb_Main_isBelow ml_Main_75 ⟨by decide, by decide⟩ rfl hl.1 rfl (Nat.le_of_ble_eq_true rfl) d_Main_passes_16 ⟨by decide, by decide⟩) hS (fun r5 M4 H locs zr5 hk hP hS => ?_)
    refine lv_if_eq (tgt := 31) hx hb d_Main_passes_19 (by decide) (fun c6 => ?_) (fun c6 => ?_)
    · have hk := hk.1 c6
      refine lv_bipush (v := -2) hx hb d_Main_passes_31 (by decide) ?_
      exact r_iret C hr hlocks hP hS hk d_Main_passes_33
    · have hk := hk.2 c6
      refine lv_iload_n hx hb d_Main_passes_22 rfl (lv_at hl 3 rfl) ?_
      refine lv_bipush (v := 64) hx hb d_Main_passes_23 (by decide) ?_
      refine r_runZ (k_S (As := [.int a3, .int (64 : Int32)]) (rest := []) C hW hP (c_Main_isBelow hI a3 (64 : Int32) M4 _ hk) cb_Main_isBelow ml_Main_75 ⟨by decide, by decide⟩ rfl hl.1 rfl (Nat.le_of_ble_eq_true rfl) d_Main_passes_25 ⟨by decide, by decide⟩) hS (fun r8 M7 H locs zr8 hk hP hS => ?_)
      refine lv_if_ne (tgt := 34) hx hb d_Main_passes_28 (by decide) (fun c9 => ?_) (fun c9 => ?_)
      · have hk := hk.1 c9
        refine lv_aload_n hx hb d_Main_passes_34 rfl (lv_at hl 0 rfl) ?_
        refine gf_0_2 C hW hP fl_Main_28 d_Main_passes_35 ?_
        refine lv_iload_n hx hb d_Main_passes_38 rfl (lv_at hl 1 rfl) ?_
        refine lv_iload_n hx hb d_Main_passes_39 rfl (lv_at hl 2 rfl) ?_
        refine lv_iload_n hx hb d_Main_passes_40 rfl (lv_at hl 3 rfl) ?_
        refine r_runI (k_V (As := [.int a1, .int a2, .int a3]) (rest := []) C hW hP (c_Way_usedIn hI a1 a2 a3 M7 _ hk) cb_Way_usedIn ml_Main_128 (io_12 g M7) ⟨by decide, by decide⟩ rfl hl.1 rfl (Nat.le_of_ble_eq_true rfl) d_Main_passes_41 ⟨by decide, by decide⟩) hS (fun r11 M10 H locs hk hP hS => ?_)
        exact r_iret C hr hlocks hP hS hk d_Main_passes_44
      · have hk := hk.2 c9
        refine lv_bipush (v := -2) hx hb d_Main_passes_31 (by decide) ?_
        exact r_iret C hr hlocks hP hS hk d_Main_passes_33
  · have hk := hk.2 c3
    refine lv_iconst (v := -1) hx hb d_Main_passes_11 (by decide) ?_
    exact r_iret C hr hlocks hP hS hk d_Main_passes_12
theorem d_Way_isTold_0 : decode b_Way_isTold 0 = .ok (.aload_n 0, 1) := by decide +kernel
theorem d_Way_isTold_1 : decode b_Way_isTold 1 = .ok (.getfield 27, 3) := by decide +kernel
theorem d_Way_isTold_4 : decode b_Way_isTold 4 = .ok (.ifCond .le 7, 3) := by decide +kernel
theorem d_Way_isTold_7 : decode b_Way_isTold 7 = .ok (.iconst 1, 1) := by decide +kernel
theorem d_Way_isTold_8 : decode b_Way_isTold 8 = .ok (.goto 4, 3) := by decide +kernel
theorem d_Way_isTold_11 : decode b_Way_isTold 11 = .ok (.iconst 0, 1) := by decide +kernel
theorem d_Way_isTold_12 : decode b_Way_isTold 12 = .ok (.ireturn, 1) := by decide +kernel
set_option maxRecDepth 20000 in
theorem c_Way_isTold {l : Launch} {g : GG} (hI : WI g) (M : Mem) (R : Int32 → Mem → Prop) (h : wp_Way_isTold  M R) : Met l y_Way_isTold (wm y_Way_isTold b_Way_isTold 1 (some .boolean)) (RM 0 0) (PP g M [.ref (g.2.2.2 12)]) (PQ g (RZ R)) 0 0 (AW g) := by
  refine m_of (own := N_Way) (by decide) rfl (Nat.le_of_ble_eq_true rfl) ?_
  intro p e s m below meth c ls C hr hlocks hW hP hS hl
  obtain ⟨hx, hb, hml, hown, hts⟩ := id C
  have hl : lv_has ls 1 [(0, .ref (g.2.2.2 12))] := hl
  unfold wp_Way_isTold at h
  have hk := h
  refine lv_aload_n hx hb d_Way_isTold_0 rfl (lv_at hl 0 rfl) ?_
  refine gf_12_5 C hW hP fl_Way_27 d_Way_isTold_1 ?_
  refine lv_if_le (tgt := 11) hx hb d_Way_isTold_4 (by decide) (fun c1 => ?_) (fun c1 => ?_)
  · have hk := hk.1 c1
    refine lv_iconst (v := 0) hx hb d_Way_isTold_11 (by decide) ?_
    exact r_zret rfl C hr hlocks hP hS hk d_Way_isTold_12
  · have hk := hk.2 c1
    refine lv_iconst (v := 1) hx hb d_Way_isTold_7 (by decide) ?_
    refine lv_goto (tgt := 12) hx hb d_Way_isTold_8 (by decide) ?_
    exact r_zret rfl C hr hlocks hP hS hk d_Way_isTold_12
theorem d_Way_everyone_0 : decode b_Way_everyone 0 = .ok (.iconst 1, 1) := by decide +kernel
theorem d_Way_everyone_1 : decode b_Way_everyone 1 = .ok (.aload_n 0, 1) := by decide +kernel
theorem d_Way_everyone_2 : decode b_Way_everyone 2 = .ok (.getfield 31, 3) := by decide +kernel
theorem d_Way_everyone_5 : decode b_Way_everyone 5 = .ok (.ishl, 1) := by decide +kernel
theorem d_Way_everyone_6 : decode b_Way_everyone 6 = .ok (.iconst 1, 1) := by decide +kernel
theorem d_Way_everyone_7 : decode b_Way_everyone 7 = .ok (.isub, 1) := by decide +kernel
theorem d_Way_everyone_8 : decode b_Way_everyone 8 = .ok (.ireturn, 1) := by decide +kernel
set_option maxRecDepth 20000 in
theorem c_Way_everyone {l : Launch} {g : GG} (hI : WI g) (M : Mem) (R : Int32 → Mem → Prop) (h : wp_Way_everyone  M R) : Met l y_Way_everyone (wm y_Way_everyone b_Way_everyone 1 (some .int)) (RM 0 0) (PP g M [.ref (g.2.2.2 12)]) (PQ g (RI R)) 0 0 (AW g) := by
  refine m_of (own := N_Way) (by decide) rfl (Nat.le_of_ble_eq_true rfl) ?_
  intro p e s m below meth c ls C hr hlocks hW hP hS hl
  obtain ⟨hx, hb, hml, hown, hts⟩ := id C
  have hl : lv_has ls 1 [(0, .ref (g.2.2.2 12))] := hl
  unfold wp_Way_everyone at h
  have hk := h
  refine lv_iconst (v := 1) hx hb d_Way_everyone_0 (by decide) ?_
  refine lv_aload_n hx hb d_Way_everyone_1 rfl (lv_at hl 0 rfl) ?_
  refine gf_12_6 C hW hP fl_Way_31 d_Way_everyone_2 ?_
  refine lv_ishl hx hb d_Way_everyone_5 ?_
  refine lv_iconst (v := 1) hx hb d_Way_everyone_6 (by decide) ?_
  refine lv_isub hx hb d_Way_everyone_7 ?_
  exact r_iret C hr hlocks hP hS hk d_Way_everyone_8
theorem d_Main_refusalOfPairs_0 : decode b_Main_refusalOfPairs 0 = .ok (.iconst 0, 1) := by decide +kernel
theorem d_Main_refusalOfPairs_1 : decode b_Main_refusalOfPairs 1 = .ok (.istore 4, 2) := by decide +kernel
theorem d_Main_refusalOfPairs_3 : decode b_Main_refusalOfPairs 3 = .ok (.iload 4, 2) := by decide +kernel
theorem d_Main_refusalOfPairs_5 : decode b_Main_refusalOfPairs 5 = .ok (.iload_n 3, 1) := by decide +kernel
theorem d_Main_refusalOfPairs_6 : decode b_Main_refusalOfPairs 6 = .ok (.if_icmp .ge 61, 3) := by decide +kernel
theorem d_Main_refusalOfPairs_9 : decode b_Main_refusalOfPairs 9 = .ok (.aload_n 1, 1) := by decide +kernel
theorem d_Main_refusalOfPairs_10 : decode b_Main_refusalOfPairs 10 = .ok (.getfield 142, 3) := by decide +kernel
theorem d_Main_refusalOfPairs_13 : decode b_Main_refusalOfPairs 13 = .ok (.iload_n 2, 1) := by decide +kernel
theorem d_Main_refusalOfPairs_14 : decode b_Main_refusalOfPairs 14 = .ok (.iconst 2, 1) := by decide +kernel
theorem d_Main_refusalOfPairs_15 : decode b_Main_refusalOfPairs 15 = .ok (.iload 4, 2) := by decide +kernel
theorem d_Main_refusalOfPairs_17 : decode b_Main_refusalOfPairs 17 = .ok (.imul, 1) := by decide +kernel
theorem d_Main_refusalOfPairs_18 : decode b_Main_refusalOfPairs 18 = .ok (.iadd, 1) := by decide +kernel
theorem d_Main_refusalOfPairs_19 : decode b_Main_refusalOfPairs 19 = .ok (.iaload, 1) := by decide +kernel
theorem d_Main_refusalOfPairs_20 : decode b_Main_refusalOfPairs 20 = .ok (.aload_n 0, 1) := by decide +kernel
theorem d_Main_refusalOfPairs_21 : decode b_Main_refusalOfPairs 21 = .ok (.getfield 28, 3) := by decide +kernel
theorem d_Main_refusalOfPairs_24 : decode b_Main_refusalOfPairs 24 = .ok (.invokevirtual 272, 3) := by decide +kernel
theorem d_Main_refusalOfPairs_27 : decode b_Main_refusalOfPairs 27 = .ok (.iconst (-1), 1) := by decide +kernel
theorem d_Main_refusalOfPairs_28 : decode b_Main_refusalOfPairs 28 = .ok (.ixor, 1) := by decide +kernel
theorem d_Main_refusalOfPairs_29 : decode b_Main_refusalOfPairs 29 = .ok (.iand, 1) := by decide +kernel
theorem d_Main_refusalOfPairs_30 : decode b_Main_refusalOfPairs 30 = .ok (.ifCond .eq 6, 3) := by decide +kernel
theorem d_Main_refusalOfPairs_33 : decode b_Main_refusalOfPairs 33 = .ok (.bipush (-2), 2) := by decide +kernel
theorem d_Main_refusalOfPairs_35 : decode b_Main_refusalOfPairs 35 = .ok (.ireturn, 1) := by decide +kernel
theorem d_Main_refusalOfPairs_36 : decode b_Main_refusalOfPairs 36 = .ok (.aload_n 0, 1) := by decide +kernel
theorem d_Main_refusalOfPairs_37 : decode b_Main_refusalOfPairs 37 = .ok (.getfield 28, 3) := by decide +kernel
theorem d_Main_refusalOfPairs_40 : decode b_Main_refusalOfPairs 40 = .ok (.aload_n 1, 1) := by decide +kernel
theorem d_Main_refusalOfPairs_41 : decode b_Main_refusalOfPairs 41 = .ok (.getfield 142, 3) := by decide +kernel
theorem d_Main_refusalOfPairs_44 : decode b_Main_refusalOfPairs 44 = .ok (.iload_n 2, 1) := by decide +kernel
theorem d_Main_refusalOfPairs_45 : decode b_Main_refusalOfPairs 45 = .ok (.iconst 2, 1) := by decide +kernel
theorem d_Main_refusalOfPairs_46 : decode b_Main_refusalOfPairs 46 = .ok (.iload 4, 2) := by decide +kernel
theorem d_Main_refusalOfPairs_48 : decode b_Main_refusalOfPairs 48 = .ok (.imul, 1) := by decide +kernel
theorem d_Main_refusalOfPairs_49 : decode b_Main_refusalOfPairs 49 = .ok (.iadd, 1) := by decide +kernel
theorem d_Main_refusalOfPairs_50 : decode b_Main_refusalOfPairs 50 = .ok (.iconst 1, 1) := by decide +kernel
theorem d_Main_refusalOfPairs_51 : decode b_Main_refusalOfPairs 51 = .ok (.iadd, 1) := by decide +kernel
theorem d_Main_refusalOfPairs_52 : decode b_Main_refusalOfPairs 52 = .ok (.iaload, 1) := by decide +kernel
theorem d_Main_refusalOfPairs_53 : decode b_Main_refusalOfPairs 53 = .ok (.invokevirtual 105, 3) := by decide +kernel
theorem d_Main_refusalOfPairs_56 : decode b_Main_refusalOfPairs 56 = .ok (.ifCond .ne 5, 3) := by decide +kernel
theorem d_Main_refusalOfPairs_59 : decode b_Main_refusalOfPairs 59 = .ok (.iconst (-1), 1) := by decide +kernel
theorem d_Main_refusalOfPairs_60 : decode b_Main_refusalOfPairs 60 = .ok (.ireturn, 1) := by decide +kernel
theorem d_Main_refusalOfPairs_61 : decode b_Main_refusalOfPairs 61 = .ok (.iinc 4 1, 3) := by decide +kernel
theorem d_Main_refusalOfPairs_64 : decode b_Main_refusalOfPairs 64 = .ok (.goto (-61), 3) := by decide +kernel
theorem d_Main_refusalOfPairs_67 : decode b_Main_refusalOfPairs 67 = .ok (.iconst 0, 1) := by decide +kernel
theorem d_Main_refusalOfPairs_68 : decode b_Main_refusalOfPairs 68 = .ok (.ireturn, 1) := by decide +kernel
set_option maxRecDepth 20000 in
theorem c_Main_refusalOfPairs {l : Launch} {g : GG} {q1 : Nat} (hq1 : q1 < 4) (hI : WI g) (a2 : Int32) (a3 : Int32) (M : Mem) (R : Int32 → Mem → Prop) (h : wp_Main_refusalOfPairs q1 a2 a3 M R) : Met l y_Main_refusalOfPairs (wm y_Main_refusalOfPairs b_Main_refusalOfPairs 5 (some .int)) (RM 2 42) (PP g M [.ref (g.2.2.2 0), .ref (g.2.2.2 (2 + q1)), .int a2, .int a3]) (PQ g (RI R)) 0 0 (AW g) := by
  refine m_of (own := N_Main) (by decide) rfl (Nat.le_of_ble_eq_true rfl) ?_
  intro p e s m below meth c ls C hr hlocks hW hP hS hl
  obtain ⟨hx, hb, hml, hown, hts⟩ := id C
  have hl : lv_has ls 5 [(0, .ref (g.2.2.2 0)), (1, .ref (g.2.2.2 (2 + q1))), (2, .int a2), (3, .int a3)] := hl
  unfold wp_Main_refusalOfPairs at h
  obtain ⟨X3, eX3⟩ : ∃ X : Nat → Int32 → Int32 → Int32 → Mem → Prop, ∀ (u1 : Nat) (x2 : Int32) (x3 : Int32) (x4 : Int32) (M : Mem), X u1 x2 x3 x4 M ↔ (∀ (H : Heap) (locs : List Loc) (ls : Array Slot), WP g M H → va_S (AW g) s.heap H locs → lv_has ls 5 [(0, .ref (g.2.2.2 0)), (1, .ref (g.2.2.2 (2 + u1))), (2, .int x2), (3, .int x3), (4, .int x4)] → W p l e (RM 2 42) s m ([.ref (g.2.2.2 0), .ref (g.2.2.2 (2 + q1)), .int a2, .int a3] : List Value).toArray below meth c H locs 0 0 (MQ below (PQ g (RI R)) ([.ref (g.2.2.2 0), .ref (g.2.2.2 (2 + q1)), .int a2, .int a3] : List Value).toArray s 0 0 (AW g)) (F0 m 3 ls [])) := ⟨fun u1 x2 x3 x4 M => _, fun _ _ _ _ _ => Iff.rfl⟩
  suffices hcl : (∀ (u1 : Nat) (x2 : Int32) (x3 : Int32) (x4 : Int32) (M : Mem), wp_Main_refusalOfPairs_3 X3 R u1 x2 x3 x4 M → X3 u1 x2 x3 x4 M) by
    have hk := h X3 hcl
    refine lv_iconst (v := 0) hx hb d_Main_refusalOfPairs_0 (by decide) ?_
    refine lv_istore (lv' := [(4, .int (0 : Int32)), (0, .ref (g.2.2.2 0)), (1, .ref (g.2.2.2 (2 + q1))), (2, .int a2), (3, .int a3)]) hx hb d_Main_refusalOfPairs_1 hl (by decide) rfl (fun ls hl => ?_)
    exact (eX3 q1 a2 a3 (0 : Int32) M).mp hk _ _ _ hP hS (lv_sub hl [1, 2, 3, 4, 0] rfl)
  · intro u1 x2 x3 x4 M hk
    refine (eX3 u1 x2 x3 x4 M).mpr ?_
    intro H locs ls hP hS hl
    unfold wp_Main_refusalOfPairs_3 at hk
    obtain ⟨hu1, hk⟩ := hk
    refine lv_iload hx hb d_Main_refusalOfPairs_3 (lv_at hl 4 rfl) ?_
    refine lv_iload_n hx hb d_Main_refusalOfPairs_5 rfl (lv_at hl 3 rfl) ?_
    refine lv_icmp_ge (tgt := 67) hx hb d_Main_refusalOfPairs_6 (by decide) (fun c1 => ?_) (fun c1 => ?_)
    · have hk := hk.1 c1
      refine lv_iconst (v := 0) hx hb d_Main_refusalOfPairs_67 (by decide) ?_
      exact r_iret C hr hlocks hP hS hk d_Main_refusalOfPairs_68
    · have hk := hk.2 c1
      refine lv_aload_n hx hb d_Main_refusalOfPairs_9 rfl (lv_at hl 1 rfl) ?_
      refine gf_sh_0 hu1 C hW hP fl_Main_142 d_Main_refusalOfPairs_10 ?_
      refine lv_iload_n hx hb d_Main_refusalOfPairs_13 rfl (lv_at hl 2 rfl) ?_
      refine lv_iconst (v := 2) hx hb d_Main_refusalOfPairs_14 (by decide) ?_
      refine lv_iload hx hb d_Main_refusalOfPairs_15 (lv_at hl 4 rfl) ?_
      refine lv_imul hx hb d_Main_refusalOfPairs_17 ?_
      refine lv_iadd hx hb d_Main_refusalOfPairs_18 ?_
      obtain ⟨h2, hk⟩ := hk
      refine al_sh hu1 C hW hP h2 d_Main_refusalOfPairs_19 ?_
      refine lv_aload_n hx hb d_Main_refusalOfPairs_20 rfl (lv_at hl 0 rfl) ?_
      refine gf_0_2 C hW hP fl_Main_28 d_Main_refusalOfPairs_21 ?_
      refine r_runI (k_V (As := []) (rest := [.int (M (6 + u1) (x2 + ((2 : Int32) * x4)).toNatClampNeg)]) C hW hP (c_Way_everyone hI M _ hk) cb_Way_everyone ml_Main_272 (io_12 g M) ⟨by decide, by decide⟩ rfl hl.1 rfl (Nat.le_of_ble_eq_true rfl) d_Main_refusalOfPairs_24 ⟨by decide, by decide⟩) hS (fun r4 M3 H locs hk hP hS => ?_)
      refine lv_iconst (v := -1) hx hb d_Main_refusalOfPairs_27 (by decide) ?_
      refine lv_ixor hx hb d_Main_refusalOfPairs_28 ?_
      refine lv_iand hx hb d_Main_refusalOfPairs_29 ?_
      refine lv_if_eq (tgt := 36) hx hb d_Main_refusalOfPairs_30 (by decide) (fun c5 => ?_) (fun c5 => ?_)
      · have hk := hk.1 c5
        refine lv_aload_n hx hb d_Main_refusalOfPairs_36 rfl (lv_at hl 0 rfl) ?_
        refine gf_0_2 C hW hP fl_Main_28 d_Main_refusalOfPairs_37 ?_
        refine lv_aload_n hx hb d_Main_refusalOfPairs_40 rfl (lv_at hl 1 rfl) ?_
        refine gf_sh_0 hu1 C hW hP fl_Main_142 d_Main_refusalOfPairs_41 ?_
        refine lv_iload_n hx hb d_Main_refusalOfPairs_44 rfl (lv_at hl 2 rfl) ?_
        refine lv_iconst (v := 2) hx hb d_Main_refusalOfPairs_45 (by decide) ?_
        refine lv_iload hx hb d_Main_refusalOfPairs_46 (lv_at hl 4 rfl) ?_
        refine lv_imul hx hb d_Main_refusalOfPairs_48 ?_
        refine lv_iadd hx hb d_Main_refusalOfPairs_49 ?_
        refine lv_iconst (v := 1) hx hb d_Main_refusalOfPairs_50 (by decide) ?_
        refine lv_iadd hx hb d_Main_refusalOfPairs_51 ?_
        obtain ⟨h6, hk⟩ := hk
        refine al_sh hu1 C hW hP h6 d_Main_refusalOfPairs_52 ?_
        refine r_runZ (k_V (As := [.int (M3 (6 + u1) ((x2 + ((2 : Int32) * x4)) + (1 : Int32)).toNatClampNeg)]) (rest := []) C hW hP (c_Way_hasHouse hI (M3 (6 + u1) ((x2 + ((2 : Int32) * x4)) + (1 : Int32)).toNatClampNeg) M3 _ hk) cb_Way_hasHouse ml_Main_105 (io_12 g M3) ⟨by decide, by decide⟩ rfl hl.1 rfl (Nat.le_of_ble_eq_true rfl) d_Main_refusalOfPairs_53 ⟨by decide, by decide⟩) hS (fun r8 M7 H locs zr8 hk hP hS => ?_)
        refine lv_if_ne (tgt := 61) hx hb d_Main_refusalOfPairs_56 (by decide) (fun c9 => ?_) (fun c9 => ?_)
        · have hk := hk.1 c9
          obtain ⟨x4_10, ex4_10⟩ : ∃ y : Int32, y = x4 + (1 : Int32) := ⟨_, rfl⟩
          have hk := hk x4_10 ex4_10
          refine lv_iinc (v := x4_10) (lv' := [(4, .int x4_10), (0, .ref (g.2.2.2 0)), (1, .ref (g.2.2.2 (2 + u1))), (2, .int x2), (3, .int x3)]) hx hb d_Main_refusalOfPairs_61 hl (k := 4) rfl (by rw [ex4_10]; rfl) (by decide) rfl (fun ls hl => ?_)
          refine lv_goto (tgt := 3) hx hb d_Main_refusalOfPairs_64 (by decide) ?_
          exact (eX3 u1 x2 x3 x4_10 M7).mp hk _ _ _ hP hS (lv_sub hl [1, 2, 3, 4, 0] rfl)
        · have hk := hk.2 c9
          refine lv_iconst (v := -1) hx hb d_Main_refusalOfPairs_59 (by decide) ?_
          exact r_iret C hr hlocks hP hS hk d_Main_refusalOfPairs_60
      · have hk := hk.2 c5
        refine lv_bipush (v := -2) hx hb d_Main_refusalOfPairs_33 (by decide) ?_
        exact r_iret C hr hlocks hP hS hk d_Main_refusalOfPairs_35
theorem d_Arr_fill_0 : decode b_Arr_fill 0 = .ok (.iconst 0, 1) := by decide +kernel
theorem d_Arr_fill_1 : decode b_Arr_fill 1 = .ok (.istore_n 2, 1) := by decide +kernel
theorem d_Arr_fill_2 : decode b_Arr_fill 2 = .ok (.aload_n 0, 1) := by decide +kernel
theorem d_Arr_fill_3 : decode b_Arr_fill 3 = .ok (.arraylength, 1) := by decide +kernel
theorem d_Arr_fill_4 : decode b_Arr_fill 4 = .ok (.istore_n 3, 1) := by decide +kernel
theorem d_Arr_fill_5 : decode b_Arr_fill 5 = .ok (.iload_n 2, 1) := by decide +kernel
theorem d_Arr_fill_6 : decode b_Arr_fill 6 = .ok (.iload_n 3, 1) := by decide +kernel
theorem d_Arr_fill_7 : decode b_Arr_fill 7 = .ok (.if_icmp .ge 13, 3) := by decide +kernel
theorem d_Arr_fill_10 : decode b_Arr_fill 10 = .ok (.aload_n 0, 1) := by decide +kernel
theorem d_Arr_fill_11 : decode b_Arr_fill 11 = .ok (.iload_n 2, 1) := by decide +kernel
theorem d_Arr_fill_12 : decode b_Arr_fill 12 = .ok (.iload_n 1, 1) := by decide +kernel
theorem d_Arr_fill_13 : decode b_Arr_fill 13 = .ok (.iastore, 1) := by decide +kernel
theorem d_Arr_fill_14 : decode b_Arr_fill 14 = .ok (.iinc 2 1, 3) := by decide +kernel
theorem d_Arr_fill_17 : decode b_Arr_fill 17 = .ok (.goto (-12), 3) := by decide +kernel
theorem d_Arr_fill_20 : decode b_Arr_fill 20 = .ok (.return_, 1) := by decide +kernel
theorem ent_len {g : GG} {k n : Nat} (hk : k < 46) (he : ∀ f, ent g k f = .inl (g.2.1, n, .inl f)) : n ≤ 240 := by
  have h : ∀ k, k < 46 → ∀ n, (∀ f, ent g k f = .inl (g.2.1, n, .inl f)) → n ≤ 240 := by
    intro k hk n he
    have e1 := he (fun _ => 0)
    rcases (show k = 0 ∨ k = 1 ∨ k = 2 ∨ k = 3 ∨ k = 4 ∨ k = 5 ∨ k = 6 ∨ k = 7 ∨ k = 8 ∨ k = 9 ∨ k = 10 ∨ k = 11 ∨ k = 12 ∨ k = 13 ∨ k = 14 ∨ k = 15 ∨ k = 16 ∨ k = 17 ∨ k = 18 ∨ k = 19 ∨ k = 20 ∨ k = 21 ∨ k = 22 ∨ k = 23 ∨ k = 24 ∨ k = 25 ∨ k = 26 ∨ k = 27 ∨ k = 28 ∨ k = 29 ∨ k = 30 ∨ k = 31 ∨ k = 32 ∨ k = 33 ∨ k = 34 ∨ k = 35 ∨ k = 36 ∨ k = 37 ∨ k = 38 ∨ k = 39 ∨ k = 40 ∨ k = 41 ∨ k = 42 ∨ k = 43 ∨ k = 44 ∨ k = 45 by omega) with h | h | h | h | h | h | h | h | h | h | h | h | h | h | h | h | h | h | h | h | h | h | h | h | h | h | h | h | h | h | h | h | h | h | h | h | h | h | h | h | h | h | h | h | h | h <;> subst h <;> simp [ent] at e1 <;> omega
  exact h k hk n he
theorem c_Arr_fill {l : Launch} {g : GG} {k : Nat} (hk46 : k < 46) {n : Nat} (he : ∀ f, ent g k f = .inl (g.2.1, n, .inl f)) (hI : WI g) (a1 : Int32) (M : Mem) (R : Mem → Prop) (h : wp_Arr_fill k n a1 M R) : Met l y_Arr_fill (wm y_Arr_fill b_Arr_fill 4 none) (RM 0 0) (PP g M [.ref (g.2.2.2 k), .int a1]) (PQ g (RV R)) 0 0 (AW g) := by
  have hn : n ≤ 240 := ent_len hk46 he
  refine m_of (own := N_Arr) (by decide) rfl (Nat.le_of_ble_eq_true rfl) ?_
  intro p e s m below meth c ls C hr hlocks hW hP hS hl
  obtain ⟨hx, hb, hml, hown, hts⟩ := id C
  have hl : lv_has ls 4 [(0, .ref (g.2.2.2 k)), (1, .int a1)] := hl
  have key : ∀ (d i : Nat), i + d = n → ∀ (M1 : Mem), M1 = mrow M k (fun j => if j < i then a1 else M k j) → ∀ (H : Heap) (locs : List Loc) (ls : Array Slot), WP g M1 H → va_S (AW g) s.heap H locs → lv_has ls 4 [(0, .ref (g.2.2.2 k)), (1, .int a1), (2, .int (nI i)), (3, .int (nI n))] →
      W p l e (RM 0 0) s m ([.ref (g.2.2.2 k), .int a1] : List Value).toArray below meth c H locs 0 0 (MQ below (PQ g (RV R)) ([.ref (g.2.2.2 k), .int a1] : List Value).toArray s 0 0 (AW g)) (F0 m 5 ls []) := by
    intro d
    induction d with
    | zero =>
      intro i hi M1 eM H locs ls hP hS hl
      refine lv_iload_n hx hb d_Arr_fill_5 rfl (lv_at hl 2 rfl) ?_
      refine lv_iload_n hx hb d_Arr_fill_6 rfl (lv_at hl 3 rfl) ?_
      refine lv_icmp_ge (tgt := 20) hx hb d_Arr_fill_7 (by decide) (fun c1 => ?_) (fun c1 => ?_)
      · refine r_vret C hr hlocks hP hS ?_ d_Arr_fill_20
        have : i = n := by omega
        subst this
        rw [eM]
        exact h
      · exact absurd (nI_le (by omega) (by omega)) c1
    | succ d ih =>
      intro i hi M1 eM H locs ls hP hS hl
      refine lv_iload_n hx hb d_Arr_fill_5 rfl (lv_at hl 2 rfl) ?_
      refine lv_iload_n hx hb d_Arr_fill_6 rfl (lv_at hl 3 rfl) ?_
      refine lv_icmp_ge (tgt := 20) hx hb d_Arr_fill_7 (by decide) (fun c1 => ?_) (fun c1 => ?_)
      · exact absurd c1 (nI_ge (by omega) (by omega))
      · refine lv_aload_n hx hb d_Arr_fill_10 rfl (lv_at hl 0 rfl) ?_
        refine lv_iload_n hx hb d_Arr_fill_11 rfl (lv_at hl 2 rfl) ?_
        refine lv_iload_n hx hb d_Arr_fill_12 rfl (lv_at hl 1 rfl) ?_
        refine r_ast k hk46 he hI C hW hP hS (vp_in_nI (by omega) (by omega)) d_Arr_fill_13 (fun H locs hP hS => ?_)
        refine lv_iinc (v := nI (i + 1)) (lv' := [(2, .int (nI (i + 1))), (0, .ref (g.2.2.2 k)), (1, .int a1), (3, .int (nI n))]) hx hb d_Arr_fill_14 hl (k := 2) rfl (nI_1 i) (by decide) rfl (fun ls hl => ?_)
        refine lv_goto (tgt := 5) hx hb d_Arr_fill_17 (by decide) ?_
        refine ih (i + 1) (by omega) _ ?_ _ _ _ hP hS (lv_sub hl [1, 2, 0, 3] rfl)
        rw [eM, nI_clamp (by omega)]
        funext q
        by_cases hq : q = k
        · subst hq
          simp only [mset, mrow, if_true]
          funext j
          simp only [upd]
          by_cases hj : j = i
          · subst hj; simp
          · by_cases hj2 : j < i
            · rw [if_neg hj, if_pos hj2, if_pos (by omega)]
            · rw [if_neg hj, if_neg hj2, if_neg (by omega)]
        · simp [mset, mrow, hq]
  refine lv_iconst (v := 0) hx hb d_Arr_fill_0 (by decide) ?_
  refine lv_istore_n (lv' := [(2, .int 0), (0, .ref (g.2.2.2 k)), (1, .int a1)]) hx hb d_Arr_fill_1 rfl hl (by decide) rfl (fun ls hl => ?_)
  refine lv_aload_n hx hb d_Arr_fill_2 rfl (lv_at hl 1 rfl) ?_
  refine r_alen k hk46 he C hW hP d_Arr_fill_3 ?_
  refine lv_istore_n (lv' := [(3, .int (nI n)), (2, .int 0), (0, .ref (g.2.2.2 k)), (1, .int a1)]) hx hb d_Arr_fill_4 rfl hl (by decide) rfl (fun ls hl => ?_)
  refine key n 0 (by omega) M ?_ _ _ _ hP hS (lv_sub hl [2, 3, 1, 0] rfl)
  funext q
  by_cases hq : q = k
  · subst hq; simp [mrow]
  · simp [mrow, hq]
theorem d_Walk_begin_0 : decode b_Walk_begin 0 = .ok (.aload_n 0, 1) := by decide +kernel
theorem d_Walk_begin_1 : decode b_Walk_begin 1 = .ok (.getfield 15, 3) := by decide +kernel
theorem d_Walk_begin_4 : decode b_Walk_begin 4 = .ok (.iconst 0, 1) := by decide +kernel
theorem d_Walk_begin_5 : decode b_Walk_begin 5 = .ok (.invokestatic 32, 3) := by decide +kernel
theorem d_Walk_begin_8 : decode b_Walk_begin 8 = .ok (.aload_n 0, 1) := by decide +kernel
theorem d_Walk_begin_9 : decode b_Walk_begin 9 = .ok (.getfield 19, 3) := by decide +kernel
theorem d_Walk_begin_12 : decode b_Walk_begin 12 = .ok (.bipush (-9), 2) := by decide +kernel
theorem d_Walk_begin_14 : decode b_Walk_begin 14 = .ok (.invokestatic 32, 3) := by decide +kernel
theorem d_Walk_begin_17 : decode b_Walk_begin 17 = .ok (.aload_n 0, 1) := by decide +kernel
theorem d_Walk_begin_18 : decode b_Walk_begin 18 = .ok (.iconst 0, 1) := by decide +kernel
theorem d_Walk_begin_19 : decode b_Walk_begin 19 = .ok (.putfield 22, 3) := by decide +kernel
theorem d_Walk_begin_22 : decode b_Walk_begin 22 = .ok (.aload_n 0, 1) := by decide +kernel
theorem d_Walk_begin_23 : decode b_Walk_begin 23 = .ok (.iconst 0, 1) := by decide +kernel
theorem d_Walk_begin_24 : decode b_Walk_begin 24 = .ok (.putfield 26, 3) := by decide +kernel
theorem d_Walk_begin_27 : decode b_Walk_begin 27 = .ok (.aload_n 0, 1) := by decide +kernel
theorem d_Walk_begin_28 : decode b_Walk_begin 28 = .ok (.bipush (-9), 2) := by decide +kernel
theorem d_Walk_begin_30 : decode b_Walk_begin 30 = .ok (.putfield 29, 3) := by decide +kernel
theorem d_Walk_begin_33 : decode b_Walk_begin 33 = .ok (.return_, 1) := by decide +kernel
set_option maxRecDepth 20000 in
theorem c_Walk_begin {l : Launch} {g : GG} (hI : WI g) (M : Mem) (R : Mem → Prop) (h : wp_Walk_begin  M R) : Met l y_Walk_begin (wm y_Walk_begin b_Walk_begin 1 none) (RM 1 23) (PP g M [.ref (g.2.2.2 18)]) (PQ g (RV R)) 0 0 (AW g) := by
  refine m_of (own := N_Walk) (by decide) rfl (Nat.le_of_ble_eq_true rfl) ?_
  intro p e s m below meth c ls C hr hlocks hW hP hS hl
  obtain ⟨hx, hb, hml, hown, hts⟩ := id C
  have hl : lv_has ls 1 [(0, .ref (g.2.2.2 18))] := hl
  unfold wp_Walk_begin at h
  have hk := h
  refine lv_aload_n hx hb d_Walk_begin_0 rfl (lv_at hl 0 rfl) ?_
  refine gf_18_1 C hW hP fl_Walk_15 d_Walk_begin_1 ?_
  refine lv_iconst (v := 0) hx hb d_Walk_begin_4 (by decide) ?_
  refine r_runV (k_S (As := [.ref (g.2.2.2 19), .int (0 : Int32)]) (rest := []) C hW hP (c_Arr_fill (k := 19) (n := 6) (by decide) (fun _ => rfl) hI (0 : Int32) M _ hk) cb_Arr_fill ml_Walk_32 ⟨by decide, by decide⟩ rfl hl.1 rfl (Nat.le_of_ble_eq_true rfl) d_Walk_begin_5 ⟨by decide, by decide⟩) hS (fun M1 H locs hk hP hS => ?_)
  refine lv_aload_n hx hb d_Walk_begin_8 rfl (lv_at hl 0 rfl) ?_
  refine gf_18_2 C hW hP fl_Walk_19 d_Walk_begin_9 ?_
  refine lv_bipush (v := -9) hx hb d_Walk_begin_12 (by decide) ?_
  refine r_runV (k_S (As := [.ref (g.2.2.2 20), .int (-9 : Int32)]) (rest := []) C hW hP (c_Arr_fill (k := 20) (n := 5) (by decide) (fun _ => rfl) hI (-9 : Int32) M1 _ hk) cb_Arr_fill ml_Walk_32 ⟨by decide, by decide⟩ rfl hl.1 rfl (Nat.le_of_ble_eq_true rfl) d_Walk_begin_14 ⟨by decide, by decide⟩) hS (fun M2 H locs hk hP hS => ?_)
  refine lv_aload_n hx hb d_Walk_begin_17 rfl (lv_at hl 0 rfl) ?_
  refine lv_iconst (v := 0) hx hb d_Walk_begin_18 (by decide) ?_
  refine pf_18_3 hI C hW hP hS fl_Walk_22 d_Walk_begin_19 (fun M3 eM3 H locs hP hS => ?_)
  have hk := hk M3 eM3
  refine lv_aload_n hx hb d_Walk_begin_22 rfl (lv_at hl 0 rfl) ?_
  refine lv_iconst (v := 0) hx hb d_Walk_begin_23 (by decide) ?_
  refine pf_18_4 hI C hW hP hS fl_Walk_26 d_Walk_begin_24 (fun M4 eM4 H locs hP hS => ?_)
  have hk := hk M4 eM4
  refine lv_aload_n hx hb d_Walk_begin_27 rfl (lv_at hl 0 rfl) ?_
  refine lv_bipush (v := -9) hx hb d_Walk_begin_28 (by decide) ?_
  refine pf_18_5 hI C hW hP hS fl_Walk_29 d_Walk_begin_30 (fun M5 eM5 H locs hP hS => ?_)
  have hk := hk M5 eM5
  exact r_vret C hr hlocks hP hS hk d_Walk_begin_33
theorem d_Way_gearOf_0 : decode b_Way_gearOf 0 = .ok (.iconst 0, 1) := by decide +kernel
theorem d_Way_gearOf_1 : decode b_Way_gearOf 1 = .ok (.istore_n 2, 1) := by decide +kernel
theorem d_Way_gearOf_2 : decode b_Way_gearOf 2 = .ok (.iconst 0, 1) := by decide +kernel
theorem d_Way_gearOf_3 : decode b_Way_gearOf 3 = .ok (.istore_n 3, 1) := by decide +kernel
theorem d_Way_gearOf_4 : decode b_Way_gearOf 4 = .ok (.iload_n 3, 1) := by decide +kernel
theorem d_Way_gearOf_5 : decode b_Way_gearOf 5 = .ok (.aload_n 0, 1) := by decide +kernel
theorem d_Way_gearOf_6 : decode b_Way_gearOf 6 = .ok (.getfield 31, 3) := by decide +kernel
theorem d_Way_gearOf_9 : decode b_Way_gearOf 9 = .ok (.if_icmp .ge 26, 3) := by decide +kernel
theorem d_Way_gearOf_12 : decode b_Way_gearOf 12 = .ok (.iload_n 1, 1) := by decide +kernel
theorem d_Way_gearOf_13 : decode b_Way_gearOf 13 = .ok (.iconst 1, 1) := by decide +kernel
theorem d_Way_gearOf_14 : decode b_Way_gearOf 14 = .ok (.iload_n 3, 1) := by decide +kernel
theorem d_Way_gearOf_15 : decode b_Way_gearOf 15 = .ok (.ishl, 1) := by decide +kernel
theorem d_Way_gearOf_16 : decode b_Way_gearOf 16 = .ok (.iand, 1) := by decide +kernel
theorem d_Way_gearOf_17 : decode b_Way_gearOf 17 = .ok (.ifCond .eq 12, 3) := by decide +kernel
theorem d_Way_gearOf_20 : decode b_Way_gearOf 20 = .ok (.iload_n 2, 1) := by decide +kernel
theorem d_Way_gearOf_21 : decode b_Way_gearOf 21 = .ok (.aload_n 0, 1) := by decide +kernel
theorem d_Way_gearOf_22 : decode b_Way_gearOf 22 = .ok (.getfield 24, 3) := by decide +kernel
theorem d_Way_gearOf_25 : decode b_Way_gearOf 25 = .ok (.iload_n 3, 1) := by decide +kernel
theorem d_Way_gearOf_26 : decode b_Way_gearOf 26 = .ok (.iaload, 1) := by decide +kernel
theorem d_Way_gearOf_27 : decode b_Way_gearOf 27 = .ok (.ior, 1) := by decide +kernel
theorem d_Way_gearOf_28 : decode b_Way_gearOf 28 = .ok (.istore_n 2, 1) := by decide +kernel
theorem d_Way_gearOf_29 : decode b_Way_gearOf 29 = .ok (.iinc 3 1, 3) := by decide +kernel
theorem d_Way_gearOf_32 : decode b_Way_gearOf 32 = .ok (.goto (-28), 3) := by decide +kernel
theorem d_Way_gearOf_35 : decode b_Way_gearOf 35 = .ok (.iload_n 2, 1) := by decide +kernel
theorem d_Way_gearOf_36 : decode b_Way_gearOf 36 = .ok (.ireturn, 1) := by decide +kernel
set_option maxRecDepth 20000 in
theorem c_Way_gearOf {l : Launch} {g : GG} (hI : WI g) (a1 : Int32) (M : Mem) (R : Int32 → Mem → Prop) (h : wp_Way_gearOf a1 M R) : Met l y_Way_gearOf (wm y_Way_gearOf b_Way_gearOf 4 (some .int)) (RM 0 0) (PP g M [.ref (g.2.2.2 12), .int a1]) (PQ g (RI R)) 0 0 (AW g) := by
  refine m_of (own := N_Way) (by decide) rfl (Nat.le_of_ble_eq_true rfl) ?_
  intro p e s m below meth c ls C hr hlocks hW hP hS hl
  obtain ⟨hx, hb, hml, hown, hts⟩ := id C
  have hl : lv_has ls 4 [(0, .ref (g.2.2.2 12)), (1, .int a1)] := hl
  unfold wp_Way_gearOf at h
  obtain ⟨X4, eX4⟩ : ∃ X : Int32 → Int32 → Int32 → Mem → Prop, ∀ (x1 : Int32) (x2 : Int32) (x3 : Int32) (M : Mem), X x1 x2 x3 M ↔ (∀ (H : Heap) (locs : List Loc) (ls : Array Slot), WP g M H → va_S (AW g) s.heap H locs → lv_has ls 4 [(0, .ref (g.2.2.2 12)), (1, .int x1), (2, .int x2), (3, .int x3)] → W p l e (RM 0 0) s m ([.ref (g.2.2.2 12), .int a1] : List Value).toArray below meth c H locs 0 0 (MQ below (PQ g (RI R)) ([.ref (g.2.2.2 12), .int a1] : List Value).toArray s 0 0 (AW g)) (F0 m 4 ls [])) := ⟨fun x1 x2 x3 M => _, fun _ _ _ _ => Iff.rfl⟩
  have J29 : ∀ (x1 : Int32) (x2 : Int32) (x3 : Int32) (M : Mem), wp_Way_gearOf_29 X4 R x1 x2 x3 M → ∀ (H : Heap) (locs : List Loc) (ls : Array Slot), WP g M H → va_S (AW g) s.heap H locs → lv_has ls 4 [(0, .ref (g.2.2.2 12)), (1, .int x1), (2, .int x2), (3, .int x3)] → W p l e (RM 0 0) s m ([.ref (g.2.2.2 12), .int a1] : List Value).toArray below meth c H locs 0 0 (MQ below (PQ g (RI R)) ([.ref (g.2.2.2 12), .int a1] : List Value).toArray s 0 0 (AW g)) (F0 m 29 ls []) := by
    intro x1 x2 x3 M hk H locs ls hP hS hl
    unfold wp_Way_gearOf_29 at hk
    obtain ⟨x3_5, ex3_5⟩ : ∃ y : Int32, y = x3 + (1 : Int32) := ⟨_, rfl⟩
    have hk := hk x3_5 ex3_5
    refine lv_iinc (v := x3_5) (lv' := [(3, .int x3_5), (0, .ref (g.2.2.2 12)), (1, .int x1), (2, .int x2)]) hx hb d_Way_gearOf_29 hl (k := 3) rfl (by rw [ex3_5]; rfl) (by decide) rfl (fun ls hl => ?_)
    refine lv_goto (tgt := 4) hx hb d_Way_gearOf_32 (by decide) ?_
    exact (eX4 x1 x2 x3_5 M).mp hk _ _ _ hP hS (lv_sub hl [1, 2, 3, 0] rfl)
  suffices hcl : (∀ (x1 : Int32) (x2 : Int32) (x3 : Int32) (M : Mem), wp_Way_gearOf_4 X4 R x1 x2 x3 M → X4 x1 x2 x3 M) by
    have hk := h X4 hcl
    refine lv_iconst (v := 0) hx hb d_Way_gearOf_0 (by decide) ?_
    refine lv_istore_n (lv' := [(2, .int (0 : Int32)), (0, .ref (g.2.2.2 12)), (1, .int a1)]) hx hb d_Way_gearOf_1 rfl hl (by decide) rfl (fun ls hl => ?_)
    refine lv_iconst (v := 0) hx hb d_Way_gearOf_2 (by decide) ?_
    refine lv_istore_n (lv' := [(3, .int (0 : Int32)), (2, .int (0 : Int32)), (0, .ref (g.2.2.2 12)), (1, .int a1)]) hx hb d_Way_gearOf_3 rfl hl (by decide) rfl (fun ls hl => ?_)
    exact (eX4 a1 (0 : Int32) (0 : Int32) M).mp hk _ _ _ hP hS (lv_sub hl [2, 3, 1, 0] rfl)
  · intro x1 x2 x3 M hk
    refine (eX4 x1 x2 x3 M).mpr ?_
    intro H locs ls hP hS hl
    unfold wp_Way_gearOf_4 at hk
    refine lv_iload_n hx hb d_Way_gearOf_4 rfl (lv_at hl 3 rfl) ?_
    refine lv_aload_n hx hb d_Way_gearOf_5 rfl (lv_at hl 0 rfl) ?_
    refine gf_12_6 C hW hP fl_Way_31 d_Way_gearOf_6 ?_
    refine lv_icmp_ge (tgt := 35) hx hb d_Way_gearOf_9 (by decide) (fun c1 => ?_) (fun c1 => ?_)
    · have hk := hk.1 c1
      refine lv_iload_n hx hb d_Way_gearOf_35 rfl (lv_at hl 2 rfl) ?_
      exact r_iret C hr hlocks hP hS hk d_Way_gearOf_36
    · have hk := hk.2 c1
      refine lv_iload_n hx hb d_Way_gearOf_12 rfl (lv_at hl 1 rfl) ?_
      refine lv_iconst (v := 1) hx hb d_Way_gearOf_13 (by decide) ?_
      refine lv_iload_n hx hb d_Way_gearOf_14 rfl (lv_at hl 3 rfl) ?_
      refine lv_ishl hx hb d_Way_gearOf_15 ?_
      refine lv_iand hx hb d_Way_gearOf_16 ?_
      refine lv_if_eq (tgt := 29) hx hb d_Way_gearOf_17 (by decide) (fun c2 => ?_) (fun c2 => ?_)
      · have hk := hk.1 c2
        exact J29 x1 x2 x3 M hk _ _ _ hP hS (lv_sub hl [0, 1, 2, 3] rfl)
      · have hk := hk.2 c2
        refine lv_iload_n hx hb d_Way_gearOf_20 rfl (lv_at hl 2 rfl) ?_
        refine lv_aload_n hx hb d_Way_gearOf_21 rfl (lv_at hl 0 rfl) ?_
        refine gf_12_4 C hW hP fl_Way_24 d_Way_gearOf_22 ?_
        refine lv_iload_n hx hb d_Way_gearOf_25 rfl (lv_at hl 3 rfl) ?_
        obtain ⟨h3, hk⟩ := hk
        refine al_17 C hW hP h3 d_Way_gearOf_26 ?_
        refine lv_ior hx hb d_Way_gearOf_27 ?_
        refine lv_topi (fun x2_4 ex2_4 => ?_)
        have hk := hk x2_4 ex2_4
        refine lv_istore_n (lv' := [(2, .int x2_4), (0, .ref (g.2.2.2 12)), (1, .int x1), (3, .int x3)]) hx hb d_Way_gearOf_28 rfl hl (by decide) rfl (fun ls hl => ?_)
        exact J29 x1 x2_4 x3 M hk _ _ _ hP hS (lv_sub hl [1, 2, 0, 3] rfl)
theorem d_Walk_enter_0 : decode b_Walk_enter 0 = .ok (.aload_n 0, 1) := by decide +kernel
theorem d_Walk_enter_1 : decode b_Walk_enter 1 = .ok (.getfield 9, 3) := by decide +kernel
theorem d_Walk_enter_4 : decode b_Walk_enter 4 = .ok (.iload_n 1, 1) := by decide +kernel
theorem d_Walk_enter_5 : decode b_Walk_enter 5 = .ok (.iload_n 2, 1) := by decide +kernel
theorem d_Walk_enter_6 : decode b_Walk_enter 6 = .ok (.aload_n 0, 1) := by decide +kernel
theorem d_Walk_enter_7 : decode b_Walk_enter 7 = .ok (.getfield 15, 3) := by decide +kernel
theorem d_Walk_enter_10 : decode b_Walk_enter 10 = .ok (.iload_n 1, 1) := by decide +kernel
theorem d_Walk_enter_11 : decode b_Walk_enter 11 = .ok (.iaload, 1) := by decide +kernel
theorem d_Walk_enter_12 : decode b_Walk_enter 12 = .ok (.invokevirtual 69, 3) := by decide +kernel
theorem d_Walk_enter_15 : decode b_Walk_enter 15 = .ok (.istore_n 3, 1) := by decide +kernel
theorem d_Walk_enter_16 : decode b_Walk_enter 16 = .ok (.iload_n 3, 1) := by decide +kernel
theorem d_Walk_enter_17 : decode b_Walk_enter 17 = .ok (.bipush (-9), 2) := by decide +kernel
theorem d_Walk_enter_19 : decode b_Walk_enter 19 = .ok (.if_icmp .eq 26, 3) := by decide +kernel
theorem d_Walk_enter_22 : decode b_Walk_enter 22 = .ok (.aload_n 0, 1) := by decide +kernel
theorem d_Walk_enter_23 : decode b_Walk_enter 23 = .ok (.getfield 9, 3) := by decide +kernel
theorem d_Walk_enter_26 : decode b_Walk_enter 26 = .ok (.getfield 73, 3) := by decide +kernel
theorem d_Walk_enter_29 : decode b_Walk_enter 29 = .ok (.iload_n 1, 1) := by decide +kernel
theorem d_Walk_enter_30 : decode b_Walk_enter 30 = .ok (.iaload, 1) := by decide +kernel
theorem d_Walk_enter_31 : decode b_Walk_enter 31 = .ok (.iconst 2, 1) := by decide +kernel
theorem d_Walk_enter_32 : decode b_Walk_enter 32 = .ok (.if_icmp .ne 13, 3) := by decide +kernel
theorem d_Walk_enter_35 : decode b_Walk_enter 35 = .ok (.aload_n 0, 1) := by decide +kernel
theorem d_Walk_enter_36 : decode b_Walk_enter 36 = .ok (.getfield 15, 3) := by decide +kernel
theorem d_Walk_enter_39 : decode b_Walk_enter 39 = .ok (.iload_n 1, 1) := by decide +kernel
theorem d_Walk_enter_40 : decode b_Walk_enter 40 = .ok (.dup2, 1) := by decide +kernel
theorem d_Walk_enter_41 : decode b_Walk_enter 41 = .ok (.iaload, 1) := by decide +kernel
theorem d_Walk_enter_42 : decode b_Walk_enter 42 = .ok (.iload_n 3, 1) := by decide +kernel
theorem d_Walk_enter_43 : decode b_Walk_enter 43 = .ok (.ior, 1) := by decide +kernel
theorem d_Walk_enter_44 : decode b_Walk_enter 44 = .ok (.iastore, 1) := by decide +kernel
theorem d_Walk_enter_45 : decode b_Walk_enter 45 = .ok (.iload_n 3, 1) := by decide +kernel
theorem d_Walk_enter_46 : decode b_Walk_enter 46 = .ok (.bipush (-9), 2) := by decide +kernel
theorem d_Walk_enter_48 : decode b_Walk_enter 48 = .ok (.if_icmp .eq 7, 3) := by decide +kernel
theorem d_Walk_enter_51 : decode b_Walk_enter 51 = .ok (.iconst 1, 1) := by decide +kernel
theorem d_Walk_enter_52 : decode b_Walk_enter 52 = .ok (.goto 4, 3) := by decide +kernel
theorem d_Walk_enter_55 : decode b_Walk_enter 55 = .ok (.iconst 0, 1) := by decide +kernel
theorem d_Walk_enter_56 : decode b_Walk_enter 56 = .ok (.ireturn, 1) := by decide +kernel
set_option maxRecDepth 20000 in
theorem c_Walk_enter {l : Launch} {g : GG} (hI : WI g) (a1 : Int32) (a2 : Int32) (M : Mem) (R : Int32 → Mem → Prop) (h : wp_Walk_enter a1 a2 M R) : Met l y_Walk_enter (wm y_Walk_enter b_Walk_enter 4 (some .boolean)) (RM 1 27) (PP g M [.ref (g.2.2.2 18), .int a1, .int a2]) (PQ g (RZ R)) 0 0 (AW g) := by
  refine m_of (own := N_Walk) (by decide) rfl (Nat.le_of_ble_eq_true rfl) ?_
  intro p e s m below meth c ls C hr hlocks hW hP hS hl
  obtain ⟨hx, hb, hml, hown, hts⟩ := id C
  have hl : lv_has ls 4 [(0, .ref (g.2.2.2 18)), (1, .int a1), (2, .int a2)] := hl
  unfold wp_Walk_enter at h
  have J45 : ∀ (x3 : Int32) (M : Mem), wp_Walk_enter_45  R x3 M → ∀ (H : Heap) (locs : List Loc) (ls : Array Slot), WP g M H → va_S (AW g) s.heap H locs → lv_has ls 4 [(3, .int x3)] → W p l e (RM 1 27) s m ([.ref (g.2.2.2 18), .int a1, .int a2] : List Value).toArray below meth c H locs 0 0 (MQ below (PQ g (RZ R)) ([.ref (g.2.2.2 18), .int a1, .int a2] : List Value).toArray s 0 0 (AW g)) (F0 m 45 ls []) := by
    intro x3 M hk H locs ls hP hS hl
    unfold wp_Walk_enter_45 at hk
    refine lv_iload_n hx hb d_Walk_enter_45 rfl (lv_at hl 0 rfl) ?_
    refine lv_bipush (v := -9) hx hb d_Walk_enter_46 (by decide) ?_
    refine lv_icmp_eq (tgt := 55) hx hb d_Walk_enter_48 (by decide) (fun c1 => ?_) (fun c1 => ?_)
    · have hk := hk.1 c1
      refine lv_iconst (v := 0) hx hb d_Walk_enter_55 (by decide) ?_
      exact r_zret rfl C hr hlocks hP hS hk d_Walk_enter_56
    · have hk := hk.2 c1
      refine lv_iconst (v := 1) hx hb d_Walk_enter_51 (by decide) ?_
      refine lv_goto (tgt := 56) hx hb d_Walk_enter_52 (by decide) ?_
      exact r_zret rfl C hr hlocks hP hS hk d_Walk_enter_56
  have hk := h
  refine lv_aload_n hx hb d_Walk_enter_0 rfl (lv_at hl 0 rfl) ?_
  refine gf_18_0 C hW hP fl_Walk_9 d_Walk_enter_1 ?_
  refine lv_iload_n hx hb d_Walk_enter_4 rfl (lv_at hl 1 rfl) ?_
  refine lv_iload_n hx hb d_Walk_enter_5 rfl (lv_at hl 2 rfl) ?_
  refine lv_aload_n hx hb d_Walk_enter_6 rfl (lv_at hl 0 rfl) ?_
  refine gf_18_1 C hW hP fl_Walk_15 d_Walk_enter_7 ?_
  refine lv_iload_n hx hb d_Walk_enter_10 rfl (lv_at hl 1 rfl) ?_
  obtain ⟨h2, hk⟩ := hk
  refine al_19 C hW hP h2 d_Walk_enter_11 ?_
  refine r_runI (k_V (As := [.int a1, .int a2, .int (M 19 a1.toNatClampNeg)]) (rest := []) C hW hP (c_Way_usedIn hI a1 a2 (M 19 a1.toNatClampNeg) M _ hk) cb_Way_usedIn ml_Walk_69 (io_12 g M) ⟨by decide, by decide⟩ rfl hl.1 rfl (Nat.le_of_ble_eq_true rfl) d_Walk_enter_12 ⟨by decide, by decide⟩) hS (fun r4 M3 H locs hk hP hS => ?_)
  refine lv_istore_n (lv' := [(3, .int r4), (0, .ref (g.2.2.2 18)), (1, .int a1), (2, .int a2)]) hx hb d_Walk_enter_15 rfl hl (by decide) rfl (fun ls hl => ?_)
  refine lv_iload_n hx hb d_Walk_enter_16 rfl (lv_at hl 0 rfl) ?_
  refine lv_bipush (v := -9) hx hb d_Walk_enter_17 (by decide) ?_
  refine lv_icmp_eq (tgt := 45) hx hb d_Walk_enter_19 (by decide) (fun c5 => ?_) (fun c5 => ?_)
  · have hk := hk.1 c5
    exact J45 r4 M3 hk _ _ _ hP hS (lv_sub hl [0] rfl)
  · have hk := hk.2 c5
    refine lv_aload_n hx hb d_Walk_enter_22 rfl (lv_at hl 1 rfl) ?_
    refine gf_18_0 C hW hP fl_Walk_9 d_Walk_enter_23 ?_
    refine gf_12_0 C hW hP fl_Walk_73 d_Walk_enter_26 ?_
    refine lv_iload_n hx hb d_Walk_enter_29 rfl (lv_at hl 2 rfl) ?_
    obtain ⟨h6, hk⟩ := hk
    refine al_13 C hW hP h6 d_Walk_enter_30 ?_
    refine lv_iconst (v := 2) hx hb d_Walk_enter_31 (by decide) ?_
    refine lv_icmp_ne (tgt := 45) hx hb d_Walk_enter_32 (by decide) (fun c7 => ?_) (fun c7 => ?_)
    · have hk := hk.1 c7
      exact J45 r4 M3 hk _ _ _ hP hS (lv_sub hl [0] rfl)
    · have hk := hk.2 c7
      refine lv_aload_n hx hb d_Walk_enter_35 rfl (lv_at hl 1 rfl) ?_
      refine gf_18_1 C hW hP fl_Walk_15 d_Walk_enter_36 ?_
      refine lv_iload_n hx hb d_Walk_enter_39 rfl (lv_at hl 2 rfl) ?_
      refine lv_dup2_11 hx hb d_Walk_enter_40 rfl rfl ?_
      obtain ⟨h8, hk⟩ := hk
      refine al_19 C hW hP h8 d_Walk_enter_41 ?_
      refine lv_iload_n hx hb d_Walk_enter_42 rfl (lv_at hl 0 rfl) ?_
      refine lv_ior hx hb d_Walk_enter_43 ?_
      obtain ⟨h9, hk⟩ := hk
      refine as_19 hI C hW hP hS h9 d_Walk_enter_44 (fun M10 eM10 H locs hP hS => ?_)
      have hk := hk M10 eM10
      exact J45 r4 M10 hk _ _ _ hP hS (lv_sub hl [0] rfl)
theorem d_Walk_visit_0 : decode b_Walk_visit 0 = .ok (.iload_n 2, 1) := by decide +kernel
theorem d_Walk_visit_1 : decode b_Walk_visit 1 = .ok (.aload_n 0, 1) := by decide +kernel
theorem d_Walk_visit_2 : decode b_Walk_visit 2 = .ok (.getfield 26, 3) := by decide +kernel
theorem d_Walk_visit_5 : decode b_Walk_visit 5 = .ok (.iconst (-1), 1) := by decide +kernel
theorem d_Walk_visit_6 : decode b_Walk_visit 6 = .ok (.ixor, 1) := by decide +kernel
theorem d_Walk_visit_7 : decode b_Walk_visit 7 = .ok (.iand, 1) := by decide +kernel
theorem d_Walk_visit_8 : decode b_Walk_visit 8 = .ok (.istore 4, 2) := by decide +kernel
theorem d_Walk_visit_10 : decode b_Walk_visit 10 = .ok (.iload 4, 2) := by decide +kernel
theorem d_Walk_visit_12 : decode b_Walk_visit 12 = .ok (.ifCond .eq 20, 3) := by decide +kernel
theorem d_Walk_visit_15 : decode b_Walk_visit 15 = .ok (.aload_n 0, 1) := by decide +kernel
theorem d_Walk_visit_16 : decode b_Walk_visit 16 = .ok (.iload_n 3, 1) := by decide +kernel
theorem d_Walk_visit_17 : decode b_Walk_visit 17 = .ok (.aload_n 0, 1) := by decide +kernel
theorem d_Walk_visit_18 : decode b_Walk_visit 18 = .ok (.getfield 9, 3) := by decide +kernel
theorem d_Walk_visit_21 : decode b_Walk_visit 21 = .ok (.iload 4, 2) := by decide +kernel
theorem d_Walk_visit_23 : decode b_Walk_visit 23 = .ok (.invokevirtual 38, 3) := by decide +kernel
theorem d_Walk_visit_26 : decode b_Walk_visit 26 = .ok (.invokevirtual 44, 3) := by decide +kernel
theorem d_Walk_visit_29 : decode b_Walk_visit 29 = .ok (.ifCond .eq 4, 3) := by decide +kernel
theorem d_Walk_visit_32 : decode b_Walk_visit 32 = .ok (.return_, 1) := by decide +kernel
theorem d_Walk_visit_33 : decode b_Walk_visit 33 = .ok (.aload_n 0, 1) := by decide +kernel
theorem d_Walk_visit_34 : decode b_Walk_visit 34 = .ok (.dup, 1) := by decide +kernel
theorem d_Walk_visit_35 : decode b_Walk_visit 35 = .ok (.getfield 26, 3) := by decide +kernel
theorem d_Walk_visit_38 : decode b_Walk_visit 38 = .ok (.iload 4, 2) := by decide +kernel
theorem d_Walk_visit_40 : decode b_Walk_visit 40 = .ok (.ior, 1) := by decide +kernel
theorem d_Walk_visit_41 : decode b_Walk_visit 41 = .ok (.putfield 26, 3) := by decide +kernel
theorem d_Walk_visit_44 : decode b_Walk_visit 44 = .ok (.aload_n 0, 1) := by decide +kernel
theorem d_Walk_visit_45 : decode b_Walk_visit 45 = .ok (.getfield 29, 3) := by decide +kernel
theorem d_Walk_visit_48 : decode b_Walk_visit 48 = .ok (.bipush (-9), 2) := by decide +kernel
theorem d_Walk_visit_50 : decode b_Walk_visit 50 = .ok (.if_icmp .ne 8, 3) := by decide +kernel
theorem d_Walk_visit_53 : decode b_Walk_visit 53 = .ok (.aload_n 0, 1) := by decide +kernel
theorem d_Walk_visit_54 : decode b_Walk_visit 54 = .ok (.iload_n 1, 1) := by decide +kernel
theorem d_Walk_visit_55 : decode b_Walk_visit 55 = .ok (.putfield 29, 3) := by decide +kernel
theorem d_Walk_visit_58 : decode b_Walk_visit 58 = .ok (.return_, 1) := by decide +kernel
set_option maxRecDepth 20000 in
theorem c_Walk_visit {l : Launch} {g : GG} (hI : WI g) (a1 : Int32) (a2 : Int32) (a3 : Int32) (M : Mem) (R : Mem → Prop) (h : wp_Walk_visit a1 a2 a3 M R) : Met l y_Walk_visit (wm y_Walk_visit b_Walk_visit 5 none) (RM 2 50) (PP g M [.ref (g.2.2.2 18), .int a1, .int a2, .int a3]) (PQ g (RV R)) 0 0 (AW g) := by
  refine m_of (own := N_Walk) (by decide) rfl (Nat.le_of_ble_eq_true rfl) ?_
  intro p e s m below meth c ls C hr hlocks hW hP hS hl
  obtain ⟨hx, hb, hml, hown, hts⟩ := id C
  have hl : lv_has ls 5 [(0, .ref (g.2.2.2 18)), (1, .int a1), (2, .int a2), (3, .int a3)] := hl
  unfold wp_Walk_visit at h
  have hk := h
  refine lv_iload_n hx hb d_Walk_visit_0 rfl (lv_at hl 2 rfl) ?_
  refine lv_aload_n hx hb d_Walk_visit_1 rfl (lv_at hl 0 rfl) ?_
  refine gf_18_4 C hW hP fl_Walk_26 d_Walk_visit_2 ?_
  refine lv_iconst (v := -1) hx hb d_Walk_visit_5 (by decide) ?_
  refine lv_ixor hx hb d_Walk_visit_6 ?_
  refine lv_iand hx hb d_Walk_visit_7 ?_
  refine lv_topi (fun x4_1 ex4_1 => ?_)
  have hk := hk x4_1 ex4_1
  refine lv_istore (lv' := [(4, .int x4_1), (0, .ref (g.2.2.2 18)), (1, .int a1), (2, .int a2), (3, .int a3)]) hx hb d_Walk_visit_8 hl (by decide) rfl (fun ls hl => ?_)
  refine lv_iload hx hb d_Walk_visit_10 (lv_at hl 0 rfl) ?_
  refine lv_if_eq (tgt := 32) hx hb d_Walk_visit_12 (by decide) (fun c2 => ?_) (fun c2 => ?_)
  · have hk := hk.1 c2
    exact r_vret C hr hlocks hP hS hk d_Walk_visit_32
  · have hk := hk.2 c2
    refine lv_aload_n hx hb d_Walk_visit_15 rfl (lv_at hl 1 rfl) ?_
    refine lv_iload_n hx hb d_Walk_visit_16 rfl (lv_at hl 4 rfl) ?_
    refine lv_aload_n hx hb d_Walk_visit_17 rfl (lv_at hl 1 rfl) ?_
    refine gf_18_0 C hW hP fl_Walk_9 d_Walk_visit_18 ?_
    refine lv_iload hx hb d_Walk_visit_21 (lv_at hl 0 rfl) ?_
    refine r_runI (k_V (As := [.int x4_1]) (rest := [.int a3, .ref (g.2.2.2 18)]) C hW hP (c_Way_gearOf hI x4_1 M _ hk) cb_Way_gearOf ml_Walk_38 (io_12 g M) ⟨by decide, by decide⟩ rfl hl.1 rfl (Nat.le_of_ble_eq_true rfl) d_Walk_visit_23 ⟨by decide, by decide⟩) hS (fun r4 M3 H locs hk hP hS => ?_)
    refine r_runZ (k_V (As := [.int a3, .int r4]) (rest := []) C hW hP (c_Walk_enter hI a3 r4 M3 _ hk) cb_Walk_enter ml_Walk_44 (io_18 g M3) ⟨by decide, by decide⟩ rfl hl.1 rfl (Nat.le_of_ble_eq_true rfl) d_Walk_visit_26 ⟨by decide, by decide⟩) hS (fun r6 M5 H locs zr6 hk hP hS => ?_)
    refine lv_if_eq (tgt := 33) hx hb d_Walk_visit_29 (by decide) (fun c7 => ?_) (fun c7 => ?_)
    · have hk := hk.1 c7
      refine lv_aload_n hx hb d_Walk_visit_33 rfl (lv_at hl 1 rfl) ?_
      refine lv_dup hx hb d_Walk_visit_34 rfl ?_
      refine gf_18_4 C hW hP fl_Walk_26 d_Walk_visit_35 ?_
      refine lv_iload hx hb d_Walk_visit_38 (lv_at hl 0 rfl) ?_
      refine lv_ior hx hb d_Walk_visit_40 ?_
      refine pf_18_4 hI C hW hP hS fl_Walk_26 d_Walk_visit_41 (fun M8 eM8 H locs hP hS => ?_)
      have hk := hk M8 eM8
      refine lv_aload_n hx hb d_Walk_visit_44 rfl (lv_at hl 1 rfl) ?_
      refine gf_18_5 C hW hP fl_Walk_29 d_Walk_visit_45 ?_
      refine lv_bipush (v := -9) hx hb d_Walk_visit_48 (by decide) ?_
      refine lv_icmp_ne (tgt := 58) hx hb d_Walk_visit_50 (by decide) (fun c9 => ?_) (fun c9 => ?_)
      · have hk := hk.1 c9
        exact r_vret C hr hlocks hP hS hk d_Walk_visit_58
      · have hk := hk.2 c9
        refine lv_aload_n hx hb d_Walk_visit_53 rfl (lv_at hl 1 rfl) ?_
        refine lv_iload_n hx hb d_Walk_visit_54 rfl (lv_at hl 2 rfl) ?_
        refine pf_18_5 hI C hW hP hS fl_Walk_29 d_Walk_visit_55 (fun M10 eM10 H locs hP hS => ?_)
        have hk := hk M10 eM10
        exact r_vret C hr hlocks hP hS hk d_Walk_visit_58
    · have hk := hk.2 c7
      exact r_vret C hr hlocks hP hS hk d_Walk_visit_32
theorem d_Main_ofVisits_0 : decode b_Main_ofVisits 0 = .ok (.iload_n 1, 1) := by decide +kernel
theorem d_Main_ofVisits_1 : decode b_Main_ofVisits 1 = .ok (.ifCond .ne 11, 3) := by decide +kernel
theorem d_Main_ofVisits_4 : decode b_Main_ofVisits 4 = .ok (.aload_n 0, 1) := by decide +kernel
theorem d_Main_ofVisits_5 : decode b_Main_ofVisits 5 = .ok (.getfield 37, 3) := by decide +kernel
theorem d_Main_ofVisits_8 : decode b_Main_ofVisits 8 = .ok (.getfield 275, 3) := by decide +kernel
theorem d_Main_ofVisits_11 : decode b_Main_ofVisits 11 = .ok (.ireturn, 1) := by decide +kernel
theorem d_Main_ofVisits_12 : decode b_Main_ofVisits 12 = .ok (.iload_n 1, 1) := by decide +kernel
theorem d_Main_ofVisits_13 : decode b_Main_ofVisits 13 = .ok (.iconst 1, 1) := by decide +kernel
theorem d_Main_ofVisits_14 : decode b_Main_ofVisits 14 = .ok (.if_icmp .ne 11, 3) := by decide +kernel
theorem d_Main_ofVisits_17 : decode b_Main_ofVisits 17 = .ok (.aload_n 0, 1) := by decide +kernel
theorem d_Main_ofVisits_18 : decode b_Main_ofVisits 18 = .ok (.getfield 37, 3) := by decide +kernel
theorem d_Main_ofVisits_21 : decode b_Main_ofVisits 21 = .ok (.getfield 278, 3) := by decide +kernel
theorem d_Main_ofVisits_24 : decode b_Main_ofVisits 24 = .ok (.ireturn, 1) := by decide +kernel
theorem d_Main_ofVisits_25 : decode b_Main_ofVisits 25 = .ok (.iload_n 1, 1) := by decide +kernel
theorem d_Main_ofVisits_26 : decode b_Main_ofVisits 26 = .ok (.bipush 10, 2) := by decide +kernel
theorem d_Main_ofVisits_28 : decode b_Main_ofVisits 28 = .ok (.isub, 1) := by decide +kernel
theorem d_Main_ofVisits_29 : decode b_Main_ofVisits 29 = .ok (.istore_n 2, 1) := by decide +kernel
theorem d_Main_ofVisits_30 : decode b_Main_ofVisits 30 = .ok (.aload_n 0, 1) := by decide +kernel
theorem d_Main_ofVisits_31 : decode b_Main_ofVisits 31 = .ok (.getfield 28, 3) := by decide +kernel
theorem d_Main_ofVisits_34 : decode b_Main_ofVisits 34 = .ok (.iload_n 2, 1) := by decide +kernel
theorem d_Main_ofVisits_35 : decode b_Main_ofVisits 35 = .ok (.invokevirtual 105, 3) := by decide +kernel
theorem d_Main_ofVisits_38 : decode b_Main_ofVisits 38 = .ok (.ifCond .eq 15, 3) := by decide +kernel
theorem d_Main_ofVisits_41 : decode b_Main_ofVisits 41 = .ok (.aload_n 0, 1) := by decide +kernel
theorem d_Main_ofVisits_42 : decode b_Main_ofVisits 42 = .ok (.getfield 37, 3) := by decide +kernel
theorem d_Main_ofVisits_45 : decode b_Main_ofVisits 45 = .ok (.getfield 281, 3) := by decide +kernel
theorem d_Main_ofVisits_48 : decode b_Main_ofVisits 48 = .ok (.iload_n 2, 1) := by decide +kernel
theorem d_Main_ofVisits_49 : decode b_Main_ofVisits 49 = .ok (.iaload, 1) := by decide +kernel
theorem d_Main_ofVisits_50 : decode b_Main_ofVisits 50 = .ok (.goto 5, 3) := by decide +kernel
theorem d_Main_ofVisits_53 : decode b_Main_ofVisits 53 = .ok (.bipush (-9), 2) := by decide +kernel
theorem d_Main_ofVisits_55 : decode b_Main_ofVisits 55 = .ok (.ireturn, 1) := by decide +kernel
set_option maxRecDepth 20000 in
theorem c_Main_ofVisits {l : Launch} {g : GG} (hI : WI g) (a1 : Int32) (M : Mem) (R : Int32 → Mem → Prop) (h : wp_Main_ofVisits a1 M R) : Met l y_Main_ofVisits (wm y_Main_ofVisits b_Main_ofVisits 3 (some .int)) (RM 2 42) (PP g M [.ref (g.2.2.2 0), .int a1]) (PQ g (RI R)) 0 0 (AW g) := by
  refine m_of (own := N_Main) (by decide) rfl (Nat.le_of_ble_eq_true rfl) ?_
  intro p e s m below meth c ls C hr hlocks hW hP hS hl
  obtain ⟨hx, hb, hml, hown, hts⟩ := id C
  have hl : lv_has ls 3 [(0, .ref (g.2.2.2 0)), (1, .int a1)] := hl
  unfold wp_Main_ofVisits at h
  have hk := h
  refine lv_iload_n hx hb d_Main_ofVisits_0 rfl (lv_at hl 1 rfl) ?_
  refine lv_if_ne (tgt := 12) hx hb d_Main_ofVisits_1 (by decide) (fun c1 => ?_) (fun c1 => ?_)
  · have hk := hk.1 c1
    refine lv_iload_n hx hb d_Main_ofVisits_12 rfl (lv_at hl 1 rfl) ?_
    refine lv_iconst (v := 1) hx hb d_Main_ofVisits_13 (by decide) ?_
    refine lv_icmp_ne (tgt := 25) hx hb d_Main_ofVisits_14 (by decide) (fun c2 => ?_) (fun c2 => ?_)
    · have hk := hk.1 c2
      refine lv_iload_n hx hb d_Main_ofVisits_25 rfl (lv_at hl 1 rfl) ?_
      refine lv_bipush (v := 10) hx hb d_Main_ofVisits_26 (by decide) ?_
      refine lv_isub hx hb d_Main_ofVisits_28 ?_
      refine lv_topi (fun x2_3 ex2_3 => ?_)
      have hk := hk x2_3 ex2_3
      refine lv_istore_n (lv' := [(2, .int x2_3), (0, .ref (g.2.2.2 0)), (1, .int a1)]) hx hb d_Main_ofVisits_29 rfl hl (by decide) rfl (fun ls hl => ?_)
      refine lv_aload_n hx hb d_Main_ofVisits_30 rfl (lv_at hl 1 rfl) ?_
      refine gf_0_2 C hW hP fl_Main_28 d_Main_ofVisits_31 ?_
      refine lv_iload_n hx hb d_Main_ofVisits_34 rfl (lv_at hl 0 rfl) ?_
      refine r_runZ (k_V (As := [.int x2_3]) (rest := []) C hW hP (c_Way_hasHouse hI x2_3 M _ hk) cb_Way_hasHouse ml_Main_105 (io_12 g M) ⟨by decide, by decide⟩ rfl hl.1 rfl (Nat.le_of_ble_eq_true rfl) d_Main_ofVisits_35 ⟨by decide, by decide⟩) hS (fun r5 M4 H locs zr5 hk hP hS => ?_)
      refine lv_if_eq (tgt := 53) hx hb d_Main_ofVisits_38 (by decide) (fun c6 => ?_) (fun c6 => ?_)
      · have hk := hk.1 c6
        refine lv_bipush (v := -9) hx hb d_Main_ofVisits_53 (by decide) ?_
        exact r_iret C hr hlocks hP hS hk d_Main_ofVisits_55
      · have hk := hk.2 c6
        refine lv_aload_n hx hb d_Main_ofVisits_41 rfl (lv_at hl 1 rfl) ?_
        refine gf_0_3 C hW hP fl_Main_37 d_Main_ofVisits_42 ?_
        refine gf_18_1 C hW hP fl_Main_281 d_Main_ofVisits_45 ?_
        refine lv_iload_n hx hb d_Main_ofVisits_48 rfl (lv_at hl 0 rfl) ?_
        obtain ⟨h7, hk⟩ := hk
        refine al_19 C hW hP h7 d_Main_ofVisits_49 ?_
        refine lv_goto (tgt := 55) hx hb d_Main_ofVisits_50 (by decide) ?_
        exact r_iret C hr hlocks hP hS hk d_Main_ofVisits_55
    · have hk := hk.2 c2
      refine lv_aload_n hx hb d_Main_ofVisits_17 rfl (lv_at hl 0 rfl) ?_
      refine gf_0_3 C hW hP fl_Main_37 d_Main_ofVisits_18 ?_
      refine gf_18_5 C hW hP fl_Main_278 d_Main_ofVisits_21 ?_
      exact r_iret C hr hlocks hP hS hk d_Main_ofVisits_24
  · have hk := hk.2 c1
    refine lv_aload_n hx hb d_Main_ofVisits_4 rfl (lv_at hl 0 rfl) ?_
    refine gf_0_3 C hW hP fl_Main_37 d_Main_ofVisits_5 ?_
    refine gf_18_4 C hW hP fl_Main_275 d_Main_ofVisits_8 ?_
    exact r_iret C hr hlocks hP hS hk d_Main_ofVisits_11
theorem d_Main_visits_0 : decode b_Main_visits 0 = .ok (.aload_n 0, 1) := by decide +kernel
theorem d_Main_visits_1 : decode b_Main_visits 1 = .ok (.iconst 0, 1) := by decide +kernel
theorem d_Main_visits_2 : decode b_Main_visits 2 = .ok (.putfield 68, 3) := by decide +kernel
theorem d_Main_visits_5 : decode b_Main_visits 5 = .ok (.aload_n 0, 1) := by decide +kernel
theorem d_Main_visits_6 : decode b_Main_visits 6 = .ok (.iload_n 1, 1) := by decide +kernel
theorem d_Main_visits_7 : decode b_Main_visits 7 = .ok (.invokevirtual 71, 3) := by decide +kernel
theorem d_Main_visits_10 : decode b_Main_visits 10 = .ok (.astore 6, 2) := by decide +kernel
theorem d_Main_visits_12 : decode b_Main_visits 12 = .ok (.aload 6, 2) := by decide +kernel
theorem d_Main_visits_14 : decode b_Main_visits 14 = .ok (.ifnonnull 5, 3) := by decide +kernel
theorem d_Main_visits_17 : decode b_Main_visits 17 = .ok (.iconst (-1), 1) := by decide +kernel
theorem d_Main_visits_18 : decode b_Main_visits 18 = .ok (.ireturn, 1) := by decide +kernel
theorem d_Main_visits_19 : decode b_Main_visits 19 = .ok (.iload 5, 2) := by decide +kernel
theorem d_Main_visits_21 : decode b_Main_visits 21 = .ok (.ifCond .eq 22, 3) := by decide +kernel
theorem d_Main_visits_24 : decode b_Main_visits 24 = .ok (.iload 5, 2) := by decide +kernel
theorem d_Main_visits_26 : decode b_Main_visits 26 = .ok (.iconst 1, 1) := by decide +kernel
theorem d_Main_visits_27 : decode b_Main_visits 27 = .ok (.if_icmp .eq 16, 3) := by decide +kernel
theorem d_Main_visits_30 : decode b_Main_visits 30 = .ok (.iload 5, 2) := by decide +kernel
theorem d_Main_visits_32 : decode b_Main_visits 32 = .ok (.bipush 10, 2) := by decide +kernel
theorem d_Main_visits_34 : decode b_Main_visits 34 = .ok (.isub, 1) := by decide +kernel
theorem d_Main_visits_35 : decode b_Main_visits 35 = .ok (.bipush 6, 2) := by decide +kernel
theorem d_Main_visits_37 : decode b_Main_visits 37 = .ok (.invokestatic 75, 3) := by decide +kernel
theorem d_Main_visits_40 : decode b_Main_visits 40 = .ok (.ifCond .eq 7, 3) := by decide +kernel
theorem d_Main_visits_43 : decode b_Main_visits 43 = .ok (.iconst 1, 1) := by decide +kernel
theorem d_Main_visits_44 : decode b_Main_visits 44 = .ok (.goto 4, 3) := by decide +kernel
theorem d_Main_visits_47 : decode b_Main_visits 47 = .ok (.iconst 0, 1) := by decide +kernel
theorem d_Main_visits_48 : decode b_Main_visits 48 = .ok (.istore 7, 2) := by decide +kernel
theorem d_Main_visits_50 : decode b_Main_visits 50 = .ok (.iload_n 2, 1) := by decide +kernel
theorem d_Main_visits_51 : decode b_Main_visits 51 = .ok (.iconst 3, 1) := by decide +kernel
theorem d_Main_visits_52 : decode b_Main_visits 52 = .ok (.invokestatic 75, 3) := by decide +kernel
theorem d_Main_visits_55 : decode b_Main_visits 55 = .ok (.ifCond .eq 18, 3) := by decide +kernel
theorem d_Main_visits_58 : decode b_Main_visits 58 = .ok (.iload 4, 2) := by decide +kernel
theorem d_Main_visits_60 : decode b_Main_visits 60 = .ok (.bipush 21, 2) := by decide +kernel
theorem d_Main_visits_62 : decode b_Main_visits 62 = .ok (.invokestatic 75, 3) := by decide +kernel
theorem d_Main_visits_65 : decode b_Main_visits 65 = .ok (.ifCond .eq 8, 3) := by decide +kernel
theorem d_Main_visits_68 : decode b_Main_visits 68 = .ok (.iload 7, 2) := by decide +kernel
theorem d_Main_visits_70 : decode b_Main_visits 70 = .ok (.ifCond .ne 6, 3) := by decide +kernel
theorem d_Main_visits_73 : decode b_Main_visits 73 = .ok (.bipush (-2), 2) := by decide +kernel
theorem d_Main_visits_75 : decode b_Main_visits 75 = .ok (.ireturn, 1) := by decide +kernel
theorem d_Main_visits_76 : decode b_Main_visits 76 = .ok (.aload 6, 2) := by decide +kernel
theorem d_Main_visits_78 : decode b_Main_visits 78 = .ok (.iload_n 2, 1) := by decide +kernel
theorem d_Main_visits_79 : decode b_Main_visits 79 = .ok (.iload_n 3, 1) := by decide +kernel
theorem d_Main_visits_80 : decode b_Main_visits 80 = .ok (.iconst 2, 1) := by decide +kernel
theorem d_Main_visits_81 : decode b_Main_visits 81 = .ok (.iload 4, 2) := by decide +kernel
theorem d_Main_visits_83 : decode b_Main_visits 83 = .ok (.imul, 1) := by decide +kernel
theorem d_Main_visits_84 : decode b_Main_visits 84 = .ok (.invokevirtual 79, 3) := by decide +kernel
theorem d_Main_visits_87 : decode b_Main_visits 87 = .ok (.istore 8, 2) := by decide +kernel
theorem d_Main_visits_89 : decode b_Main_visits 89 = .ok (.iload 8, 2) := by decide +kernel
theorem d_Main_visits_91 : decode b_Main_visits 91 = .ok (.ifCond .eq 10, 3) := by decide +kernel
theorem d_Main_visits_94 : decode b_Main_visits 94 = .ok (.aload_n 0, 1) := by decide +kernel
theorem d_Main_visits_95 : decode b_Main_visits 95 = .ok (.iload 8, 2) := by decide +kernel
theorem d_Main_visits_97 : decode b_Main_visits 97 = .ok (.invokevirtual 83, 3) := by decide +kernel
theorem d_Main_visits_100 : decode b_Main_visits 100 = .ok (.ireturn, 1) := by decide +kernel
theorem d_Main_visits_101 : decode b_Main_visits 101 = .ok (.aload_n 0, 1) := by decide +kernel
theorem d_Main_visits_102 : decode b_Main_visits 102 = .ok (.getfield 28, 3) := by decide +kernel
theorem d_Main_visits_105 : decode b_Main_visits 105 = .ok (.invokevirtual 131, 3) := by decide +kernel
theorem d_Main_visits_108 : decode b_Main_visits 108 = .ok (.ifCond .ne 6, 3) := by decide +kernel
theorem d_Main_visits_111 : decode b_Main_visits 111 = .ok (.bipush (-3), 2) := by decide +kernel
theorem d_Main_visits_113 : decode b_Main_visits 113 = .ok (.ireturn, 1) := by decide +kernel
theorem d_Main_visits_114 : decode b_Main_visits 114 = .ok (.aload_n 0, 1) := by decide +kernel
theorem d_Main_visits_115 : decode b_Main_visits 115 = .ok (.aload 6, 2) := by decide +kernel
theorem d_Main_visits_117 : decode b_Main_visits 117 = .ok (.iload_n 3, 1) := by decide +kernel
theorem d_Main_visits_118 : decode b_Main_visits 118 = .ok (.iload 4, 2) := by decide +kernel
theorem d_Main_visits_120 : decode b_Main_visits 120 = .ok (.invokevirtual 135, 3) := by decide +kernel
theorem d_Main_visits_123 : decode b_Main_visits 123 = .ok (.istore 9, 2) := by decide +kernel
theorem d_Main_visits_125 : decode b_Main_visits 125 = .ok (.iload 9, 2) := by decide +kernel
theorem d_Main_visits_127 : decode b_Main_visits 127 = .ok (.ifCond .eq 6, 3) := by decide +kernel
theorem d_Main_visits_130 : decode b_Main_visits 130 = .ok (.iload 9, 2) := by decide +kernel
theorem d_Main_visits_132 : decode b_Main_visits 132 = .ok (.ireturn, 1) := by decide +kernel
theorem d_Main_visits_133 : decode b_Main_visits 133 = .ok (.aload_n 0, 1) := by decide +kernel
theorem d_Main_visits_134 : decode b_Main_visits 134 = .ok (.getfield 37, 3) := by decide +kernel
theorem d_Main_visits_137 : decode b_Main_visits 137 = .ok (.invokevirtual 139, 3) := by decide +kernel
theorem d_Main_visits_140 : decode b_Main_visits 140 = .ok (.iconst 0, 1) := by decide +kernel
theorem d_Main_visits_141 : decode b_Main_visits 141 = .ok (.istore 10, 2) := by decide +kernel
theorem d_Main_visits_143 : decode b_Main_visits 143 = .ok (.iload 10, 2) := by decide +kernel
theorem d_Main_visits_145 : decode b_Main_visits 145 = .ok (.iload 4, 2) := by decide +kernel
theorem d_Main_visits_147 : decode b_Main_visits 147 = .ok (.if_icmp .ge 44, 3) := by decide +kernel
theorem d_Main_visits_150 : decode b_Main_visits 150 = .ok (.aload_n 0, 1) := by decide +kernel
theorem d_Main_visits_151 : decode b_Main_visits 151 = .ok (.getfield 37, 3) := by decide +kernel
theorem d_Main_visits_154 : decode b_Main_visits 154 = .ok (.iload 10, 2) := by decide +kernel
theorem d_Main_visits_156 : decode b_Main_visits 156 = .ok (.aload 6, 2) := by decide +kernel
theorem d_Main_visits_158 : decode b_Main_visits 158 = .ok (.getfield 142, 3) := by decide +kernel
theorem d_Main_visits_161 : decode b_Main_visits 161 = .ok (.iload_n 3, 1) := by decide +kernel
theorem d_Main_visits_162 : decode b_Main_visits 162 = .ok (.iconst 2, 1) := by decide +kernel
theorem d_Main_visits_163 : decode b_Main_visits 163 = .ok (.iload 10, 2) := by decide +kernel
theorem d_Main_visits_165 : decode b_Main_visits 165 = .ok (.imul, 1) := by decide +kernel
theorem d_Main_visits_166 : decode b_Main_visits 166 = .ok (.iadd, 1) := by decide +kernel
theorem d_Main_visits_167 : decode b_Main_visits 167 = .ok (.iaload, 1) := by decide +kernel
theorem d_Main_visits_168 : decode b_Main_visits 168 = .ok (.aload 6, 2) := by decide +kernel
theorem d_Main_visits_170 : decode b_Main_visits 170 = .ok (.getfield 142, 3) := by decide +kernel
theorem d_Main_visits_173 : decode b_Main_visits 173 = .ok (.iload_n 3, 1) := by decide +kernel
theorem d_Main_visits_174 : decode b_Main_visits 174 = .ok (.iconst 2, 1) := by decide +kernel
theorem d_Main_visits_175 : decode b_Main_visits 175 = .ok (.iload 10, 2) := by decide +kernel
theorem d_Main_visits_177 : decode b_Main_visits 177 = .ok (.imul, 1) := by decide +kernel
theorem d_Main_visits_178 : decode b_Main_visits 178 = .ok (.iadd, 1) := by decide +kernel
theorem d_Main_visits_179 : decode b_Main_visits 179 = .ok (.iconst 1, 1) := by decide +kernel
theorem d_Main_visits_180 : decode b_Main_visits 180 = .ok (.iadd, 1) := by decide +kernel
theorem d_Main_visits_181 : decode b_Main_visits 181 = .ok (.iaload, 1) := by decide +kernel
theorem d_Main_visits_182 : decode b_Main_visits 182 = .ok (.invokevirtual 145, 3) := by decide +kernel
theorem d_Main_visits_185 : decode b_Main_visits 185 = .ok (.iinc 10 1, 3) := by decide +kernel
theorem d_Main_visits_188 : decode b_Main_visits 188 = .ok (.goto (-45), 3) := by decide +kernel
theorem d_Main_visits_191 : decode b_Main_visits 191 = .ok (.aload_n 0, 1) := by decide +kernel
theorem d_Main_visits_192 : decode b_Main_visits 192 = .ok (.iload 5, 2) := by decide +kernel
theorem d_Main_visits_194 : decode b_Main_visits 194 = .ok (.invokevirtual 149, 3) := by decide +kernel
theorem d_Main_visits_197 : decode b_Main_visits 197 = .ok (.ireturn, 1) := by decide +kernel
set_option maxRecDepth 20000 in
theorem c_Main_visits {l : Launch} {g : GG} (hI : WI g) (a1 : Int32) (a2 : Int32) (a3 : Int32) (a4 : Int32) (a5 : Int32) (M : Mem) (R : Int32 → Mem → Prop) (h : wp_Main_visits a1 a2 a3 a4 a5 M R) : Met l y_Main_visits (wm y_Main_visits b_Main_visits 11 (some .int)) (RM 3 74) (PP g M [.ref (g.2.2.2 0), .int a1, .int a2, .int a3, .int a4, .int a5]) (PQ g (RI R)) 0 0 (AW g) := by
  refine m_of (own := N_Main) (by decide) rfl (Nat.le_of_ble_eq_true rfl) ?_
  intro p e s m below meth c ls C hr hlocks hW hP hS hl
  obtain ⟨hx, hb, hml, hown, hts⟩ := id C
  have hl : lv_has ls 11 [(0, .ref (g.2.2.2 0)), (1, .int a1), (2, .int a2), (3, .int a3), (4, .int a4), (5, .int a5)] := hl
  unfold wp_Main_visits at h
  obtain ⟨X143, eX143⟩ : ∃ X : Int32 → Int32 → Int32 → Nat → Int32 → Mem → Prop, ∀ (x3 : Int32) (x4 : Int32) (x5 : Int32) (u6 : Nat) (x10 : Int32) (M : Mem), X x3 x4 x5 u6 x10 M ↔ (∀ (H : Heap) (locs : List Loc) (ls : Array Slot), WP g M H → va_S (AW g) s.heap H locs → lv_has ls 11 [(0, .ref (g.2.2.2 0)), (3, .int x3), (4, .int x4), (5, .int x5), (6, .ref (g.2.2.2 (2 + u6))), (10, .int x10)] → W p l e (RM 3 74) s m ([.ref (g.2.2.2 0), .int a1, .int a2, .int a3, .int a4, .int a5] : List Value).toArray below meth c H locs 0 0 (MQ below (PQ g (RI R)) ([.ref (g.2.2.2 0), .int a1, .int a2, .int a3, .int a4, .int a5] : List Value).toArray s 0 0 (AW g)) (F0 m 143 ls [])) := ⟨fun x3 x4 x5 u6 x10 M => _, fun _ _ _ _ _ _ => Iff.rfl⟩
  have J48 : ∀ (x2 : Int32) (x3 : Int32) (x4 : Int32) (x5 : Int32) (u6 : Nat) (s0 : Int32) (M : Mem), wp_Main_visits_48 X143 R x2 x3 x4 x5 u6 s0 M → ∀ (H : Heap) (locs : List Loc) (ls : Array Slot), WP g M H → va_S (AW g) s.heap H locs → lv_has ls 11 [(0, .ref (g.2.2.2 0)), (2, .int x2), (3, .int x3), (4, .int x4), (5, .int x5), (6, .ref (g.2.2.2 (2 + u6)))] → W p l e (RM 3 74) s m ([.ref (g.2.2.2 0), .int a1, .int a2, .int a3, .int a4, .int a5] : List Value).toArray below meth c H locs 0 0 (MQ below (PQ g (RI R)) ([.ref (g.2.2.2 0), .int a1, .int a2, .int a3, .int a4, .int a5] : List Value).toArray s 0 0 (AW g)) (F0 m 48 ls [.int s0]) := by
    intro x2 x3 x4 x5 u6 s0 M hk H locs ls hP hS hl
    unfold wp_Main_visits_48 at hk
    obtain ⟨hu6, hk⟩ := hk
    refine lv_istore (lv' := [(7, .int s0), (0, .ref (g.2.2.2 0)), (2, .int x2), (3, .int x3), (4, .int x4), (5, .int x5), (6, .ref (g.2.2.2 (2 + u6)))]) hx hb d_Main_visits_48 hl (by decide) rfl (fun ls hl => ?_)
    refine lv_iload_n hx hb d_Main_visits_50 rfl (lv_at hl 2 rfl) ?_
    refine lv_iconst (v := 3) hx hb d_Main_visits_51 (by decide) ?_
    refine r_runZ (k_S (As := [.int x2, .int (3 : Int32)]) (rest := []) C hW hP (c_Main_isBelow hI x2 (3 : Int32) M _ hk) cb_Main_isBelow ml_Main_75 ⟨by decide, by decide⟩ rfl hl.1 rfl (Nat.le_of_ble_eq_true rfl) d_Main_visits_52 ⟨by decide, by decide⟩) hS (fun r2 M1 H locs zr2 hk hP hS => ?_)
    refine lv_if_eq (tgt := 73) hx hb d_Main_visits_55 (by decide) (fun c3 => ?_) (fun c3 => ?_)
    · have hk := hk.1 c3
      refine lv_bipush (v := -2) hx hb d_Main_visits_73 (by decide) ?_
      exact r_iret C hr hlocks hP hS hk d_Main_visits_75
    · have hk := hk.2 c3
      refine lv_iload hx hb d_Main_visits_58 (lv_at hl 4 rfl) ?_
      refine lv_bipush (v := 21) hx hb d_Main_visits_60 (by decide) ?_
      refine r_runZ (k_S (As := [.int x4, .int (21 : Int32)]) (rest := []) C hW hP (c_Main_isBelow hI x4 (21 : Int32) M1 _ hk) cb_Main_isBelow ml_Main_75 ⟨by decide, by decide⟩ rfl hl.1 rfl (Nat.le_of_ble_eq_true rfl) d_Main_visits_62 ⟨by decide, by decide⟩) hS (fun r5 M4 H locs zr5 hk hP hS => ?_)
      refine lv_if_eq (tgt := 73) hx hb d_Main_visits_65 (by decide) (fun c6 => ?_) (fun c6 => ?_)
      · have hk := hk.1 c6
        refine lv_bipush (v := -2) hx hb d_Main_visits_73 (by decide) ?_
        exact r_iret C hr hlocks hP hS hk d_Main_visits_75
      · have hk := hk.2 c6
        refine lv_iload hx hb d_Main_visits_68 (lv_at hl 0 rfl) ?_
        refine lv_if_ne (tgt := 76) hx hb d_Main_visits_70 (by decide) (fun c7 => ?_) (fun c7 => ?_)
        · have hk := hk.1 c7
          refine lv_aload hx hb d_Main_visits_76 (lv_at hl 6 rfl) ?_
          refine lv_iload_n hx hb d_Main_visits_78 rfl (lv_at hl 2 rfl) ?_
          refine lv_iload_n hx hb d_Main_visits_79 rfl (lv_at hl 3 rfl) ?_
          refine lv_iconst (v := 2) hx hb d_Main_visits_80 (by decide) ?_
          refine lv_iload hx hb d_Main_visits_81 (lv_at hl 4 rfl) ?_
          refine lv_imul hx hb d_Main_visits_83 ?_
          refine r_runI (k_V (As := [.int x2, .int x3, .int ((2 : Int32) * x4)]) (rest := []) C hW hP (c_Sheet_faultOfTaking hu6 hI x2 x3 ((2 : Int32) * x4) M4 _ hk) cb_Sheet_faultOfTaking ml_Main_79 (io_sh u6 hu6 M4) ⟨by decide, by decide⟩ rfl hl.1 rfl (Nat.le_of_ble_eq_true rfl) d_Main_visits_84 ⟨by decide, by decide⟩) hS (fun r9 M8 H locs hk hP hS => ?_)
          refine lv_istore (lv' := [(8, .int r9), (7, .int s0), (0, .ref (g.2.2.2 0)), (2, .int x2), (3, .int x3), (4, .int x4), (5, .int x5), (6, .ref (g.2.2.2 (2 + u6)))]) hx hb d_Main_visits_87 hl (by decide) rfl (fun ls hl => ?_)
          refine lv_iload hx hb d_Main_visits_89 (lv_at hl 0 rfl) ?_
          refine lv_if_eq (tgt := 101) hx hb d_Main_visits_91 (by decide) (fun c10 => ?_) (fun c10 => ?_)
          · have hk := hk.1 c10
            refine lv_aload_n hx hb d_Main_visits_101 rfl (lv_at hl 2 rfl) ?_
            refine gf_0_2 C hW hP fl_Main_28 d_Main_visits_102 ?_
            refine r_runZ (k_V (As := []) (rest := []) C hW hP (c_Way_isTold hI M8 _ hk) cb_Way_isTold ml_Main_131 (io_12 g M8) ⟨by decide, by decide⟩ rfl hl.1 rfl (Nat.le_of_ble_eq_true rfl) d_Main_visits_105 ⟨by decide, by decide⟩) hS (fun r12 M11 H locs zr12 hk hP hS => ?_)
            refine lv_if_ne (tgt := 114) hx hb d_Main_visits_108 (by decide) (fun c13 => ?_) (fun c13 => ?_)
            · have hk := hk.1 c13
              refine lv_aload_n hx hb d_Main_visits_114 rfl (lv_at hl 2 rfl) ?_
              refine lv_aload hx hb d_Main_visits_115 (lv_at hl 7 rfl) ?_
              refine lv_iload_n hx hb d_Main_visits_117 rfl (lv_at hl 4 rfl) ?_
              refine lv_iload hx hb d_Main_visits_118 (lv_at hl 5 rfl) ?_
              refine r_runI (k_V (As := [.ref (g.2.2.2 (2 + u6)), .int x3, .int x4]) (rest := []) C hW hP (c_Main_refusalOfPairs hu6 hI x3 x4 M11 _ hk) cb_Main_refusalOfPairs ml_Main_135 (io_0 g M11) ⟨by decide, by decide⟩ rfl hl.1 rfl (Nat.le_of_ble_eq_true rfl) d_Main_visits_120 ⟨by decide, by decide⟩) hS (fun r15 M14 H locs hk hP hS => ?_)
              refine lv_istore (lv' := [(9, .int r15), (8, .int r9), (7, .int s0), (0, .ref (g.2.2.2 0)), (2, .int x2), (3, .int x3), (4, .int x4), (5, .int x5), (6, .ref (g.2.2.2 (2 + u6)))]) hx hb d_Main_visits_123 hl (by decide) rfl (fun ls hl => ?_)
              refine lv_iload hx hb d_Main_visits_125 (lv_at hl 0 rfl) ?_
              refine lv_if_eq (tgt := 133) hx hb d_Main_visits_127 (by decide) (fun c16 => ?_) (fun c16 => ?_)
              · have hk := hk.1 c16
                refine lv_aload_n hx hb d_Main_visits_133 rfl (lv_at hl 3 rfl) ?_
                refine gf_0_3 C hW hP fl_Main_37 d_Main_visits_134 ?_
                refine r_runV (k_V (As := []) (rest := []) C hW hP (c_Walk_begin hI M14 _ hk) cb_Walk_begin ml_Main_139 (io_18 g M14) ⟨by decide, by decide⟩ rfl hl.1 rfl (Nat.le_of_ble_eq_true rfl) d_Main_visits_137 ⟨by decide, by decide⟩) hS (fun M17 H locs hk hP hS => ?_)
                refine lv_iconst (v := 0) hx hb d_Main_visits_140 (by decide) ?_
                refine lv_istore (lv' := [(10, .int (0 : Int32)), (9, .int r15), (8, .int r9), (7, .int s0), (0, .ref (g.2.2.2 0)), (2, .int x2), (3, .int x3), (4, .int x4), (5, .int x5), (6, .ref (g.2.2.2 (2 + u6)))]) hx hb d_Main_visits_141 hl (by decide) rfl (fun ls hl => ?_)
                exact (eX143 x3 x4 x5 u6 (0 : Int32) M17).mp hk _ _ _ hP hS (lv_sub hl [4, 6, 7, 8, 9, 0] rfl)
              · have hk := hk.2 c16
                refine lv_iload hx hb d_Main_visits_130 (lv_at hl 0 rfl) ?_
                exact r_iret C hr hlocks hP hS hk d_Main_visits_132
            · have hk := hk.2 c13
              refine lv_bipush (v := -3) hx hb d_Main_visits_111 (by decide) ?_
              exact r_iret C hr hlocks hP hS hk d_Main_visits_113
          · have hk := hk.2 c10
            refine lv_aload_n hx hb d_Main_visits_94 rfl (lv_at hl 2 rfl) ?_
            refine lv_iload hx hb d_Main_visits_95 (lv_at hl 0 rfl) ?_
            refine r_runI (k_V (As := [.int r9]) (rest := []) C hW hP (c_Main_failed hI r9 M8 _ hk) cb_Main_failed ml_Main_83 (io_0 g M8) ⟨by decide, by decide⟩ rfl hl.1 rfl (Nat.le_of_ble_eq_true rfl) d_Main_visits_97 ⟨by decide, by decide⟩) hS (fun r19 M18 H locs hk hP hS => ?_)
            exact r_iret C hr hlocks hP hS hk d_Main_visits_100
        · have hk := hk.2 c7
          refine lv_bipush (v := -2) hx hb d_Main_visits_73 (by decide) ?_
          exact r_iret C hr hlocks hP hS hk d_Main_visits_75
  have J43 : ∀ (x2 : Int32) (x3 : Int32) (x4 : Int32) (x5 : Int32) (u6 : Nat) (M : Mem), wp_Main_visits_43 X143 R x2 x3 x4 x5 u6 M → ∀ (H : Heap) (locs : List Loc) (ls : Array Slot), WP g M H → va_S (AW g) s.heap H locs → lv_has ls 11 [(0, .ref (g.2.2.2 0)), (2, .int x2), (3, .int x3), (4, .int x4), (5, .int x5), (6, .ref (g.2.2.2 (2 + u6)))] → W p l e (RM 3 74) s m ([.ref (g.2.2.2 0), .int a1, .int a2, .int a3, .int a4, .int a5] : List Value).toArray below meth c H locs 0 0 (MQ below (PQ g (RI R)) ([.ref (g.2.2.2 0), .int a1, .int a2, .int a3, .int a4, .int a5] : List Value).toArray s 0 0 (AW g)) (F0 m 43 ls []) := by
    intro x2 x3 x4 x5 u6 M hk H locs ls hP hS hl
    unfold wp_Main_visits_43 at hk
    obtain ⟨hu6, hk⟩ := hk
    refine lv_iconst (v := 1) hx hb d_Main_visits_43 (by decide) ?_
    refine lv_goto (tgt := 48) hx hb d_Main_visits_44 (by decide) ?_
    exact J48 x2 x3 x4 x5 u6 (1 : Int32) M hk _ _ _ hP hS (lv_sub hl [0, 1, 2, 3, 4, 5] rfl)
  suffices hcl : (∀ (x3 : Int32) (x4 : Int32) (x5 : Int32) (u6 : Nat) (x10 : Int32) (M : Mem), wp_Main_visits_143 X143 R x3 x4 x5 u6 x10 M → X143 x3 x4 x5 u6 x10 M) by
    have hk := h X143 hcl
    refine lv_aload_n hx hb d_Main_visits_0 rfl (lv_at hl 0 rfl) ?_
    refine lv_iconst (v := 0) hx hb d_Main_visits_1 (by decide) ?_
    refine pf_0_8 hI C hW hP hS fl_Main_68 d_Main_visits_2 (fun M27 eM27 H locs hP hS => ?_)
    have hk := hk M27 eM27
    refine lv_aload_n hx hb d_Main_visits_5 rfl (lv_at hl 0 rfl) ?_
    refine lv_iload_n hx hb d_Main_visits_6 rfl (lv_at hl 1 rfl) ?_
    refine r_runO (k_V (As := [.int a1]) (rest := []) C hW hP (c_Main_sheetOf hI a1 M27 _ hk) cb_Main_sheetOf ml_Main_71 (io_0 g M27) ⟨by decide, by decide⟩ rfl hl.1 rfl (Nat.le_of_ble_eq_true rfl) d_Main_visits_7 ⟨by decide, by decide⟩) hS (fun M28 H locs hk hP hS => ?_) (fun q29 M28 H locs hq29 hk hP hS => ?_)
    · have hk := hk.1 rfl
      refine lv_astoreN (lv' := [(6, .null), (0, .ref (g.2.2.2 0)), (1, .int a1), (2, .int a2), (3, .int a3), (4, .int a4), (5, .int a5)]) hx hb d_Main_visits_10 hl (by decide) rfl (fun ls hl => ?_)
      refine lv_aloadN hx hb d_Main_visits_12 (lv_at hl 0 rfl) ?_
      refine lv_ifnonnullN hx hb d_Main_visits_14 ?_
      refine lv_iconst (v := -1) hx hb d_Main_visits_17 (by decide) ?_
      exact r_iret C hr hlocks hP hS hk d_Main_visits_18
    · have hk := hk.2 q29 rfl hq29
      refine lv_astore (lv' := [(6, .ref (g.2.2.2 (2 + q29))), (0, .ref (g.2.2.2 0)), (1, .int a1), (2, .int a2), (3, .int a3), (4, .int a4), (5, .int a5)]) hx hb d_Main_visits_10 hl (by decide) rfl (fun ls hl => ?_)
      refine lv_aload hx hb d_Main_visits_12 (lv_at hl 0 rfl) ?_
      refine lv_ifnonnull (tgt := 19) hx hb d_Main_visits_14 (by decide) ?_
      refine lv_iload hx hb d_Main_visits_19 (lv_at hl 6 rfl) ?_
      refine lv_if_eq (tgt := 43) hx hb d_Main_visits_21 (by decide) (fun c31 => ?_) (fun c31 => ?_)
      · have hk := hk.1 c31
        exact J43 a2 a3 a4 a5 q29 M28 hk _ _ _ hP hS (lv_sub hl [1, 3, 4, 5, 6, 0] rfl)
      · have hk := hk.2 c31
        refine lv_iload hx hb d_Main_visits_24 (lv_at hl 6 rfl) ?_
        refine lv_iconst (v := 1) hx hb d_Main_visits_26 (by decide) ?_
        refine lv_icmp_eq (tgt := 43) hx hb d_Main_visits_27 (by decide) (fun c32 => ?_) (fun c32 => ?_)
        · have hk := hk.1 c32
          exact J43 a2 a3 a4 a5 q29 M28 hk _ _ _ hP hS (lv_sub hl [1, 3, 4, 5, 6, 0] rfl)
        · have hk := hk.2 c32
          refine lv_iload hx hb d_Main_visits_30 (lv_at hl 6 rfl) ?_
          refine lv_bipush (v := 10) hx hb d_Main_visits_32 (by decide) ?_
          refine lv_isub hx hb d_Main_visits_34 ?_
          refine lv_bipush (v := 6) hx hb d_Main_visits_35 (by decide) ?_
          refine r_runZ (k_S (As := [.int (a5 - (10 : Int32)), .int (6 : Int32)]) (rest := []) C hW hP (c_Main_isBelow hI (a5 - (10 : Int32)) (6 : Int32) M28 _ hk) cb_Main_isBelow ml_Main_75 ⟨by decide, by decide⟩ rfl hl.1 rfl (Nat.le_of_ble_eq_true rfl) d_Main_visits_37 ⟨by decide, by decide⟩) hS (fun r34 M33 H locs zr34 hk hP hS => ?_)
          refine lv_if_eq (tgt := 47) hx hb d_Main_visits_40 (by decide) (fun c35 => ?_) (fun c35 => ?_)
          · have hk := hk.1 c35
            refine lv_iconst (v := 0) hx hb d_Main_visits_47 (by decide) ?_
            exact J48 a2 a3 a4 a5 q29 (0 : Int32) M33 hk _ _ _ hP hS (lv_sub hl [1, 3, 4, 5, 6, 0] rfl)
          · have hk := hk.2 c35
            exact J43 a2 a3 a4 a5 q29 M33 hk _ _ _ hP hS (lv_sub hl [1, 3, 4, 5, 6, 0] rfl)
  · intro x3 x4 x5 u6 x10 M hk
    refine (eX143 x3 x4 x5 u6 x10 M).mpr ?_
    intro H locs ls hP hS hl
    unfold wp_Main_visits_143 at hk
    obtain ⟨hu6, hk⟩ := hk
    refine lv_iload hx hb d_Main_visits_143 (lv_at hl 5 rfl) ?_
    refine lv_iload hx hb d_Main_visits_145 (lv_at hl 2 rfl) ?_
    refine lv_icmp_ge (tgt := 191) hx hb d_Main_visits_147 (by decide) (fun c20 => ?_) (fun c20 => ?_)
    · have hk := hk.1 c20
      refine lv_aload_n hx hb d_Main_visits_191 rfl (lv_at hl 0 rfl) ?_
      refine lv_iload hx hb d_Main_visits_192 (lv_at hl 3 rfl) ?_
      refine r_runI (k_V (As := [.int x5]) (rest := []) C hW hP (c_Main_ofVisits hI x5 M _ hk) cb_Main_ofVisits ml_Main_149 (io_0 g M) ⟨by decide, by decide⟩ rfl hl.1 rfl (Nat.le_of_ble_eq_true rfl) d_Main_visits_194 ⟨by decide, by decide⟩) hS (fun r22 M21 H locs hk hP hS => ?_)
      exact r_iret C hr hlocks hP hS hk d_Main_visits_197
    · have hk := hk.2 c20
      refine lv_aload_n hx hb d_Main_visits_150 rfl (lv_at hl 0 rfl) ?_
      refine gf_0_3 C hW hP fl_Main_37 d_Main_visits_151 ?_
      refine lv_iload hx hb d_Main_visits_154 (lv_at hl 5 rfl) ?_
      refine lv_aload hx hb d_Main_visits_156 (lv_at hl 4 rfl) ?_
      refine gf_sh_0 hu6 C hW hP fl_Main_142 d_Main_visits_158 ?_
      refine lv_iload_n hx hb d_Main_visits_161 rfl (lv_at hl 1 rfl) ?_
      refine lv_iconst (v := 2) hx hb d_Main_visits_162 (by decide) ?_
      refine lv_iload hx hb d_Main_visits_163 (lv_at hl 5 rfl) ?_
      refine lv_imul hx hb d_Main_visits_165 ?_
      refine lv_iadd hx hb d_Main_visits_166 ?_
      obtain ⟨h23, hk⟩ := hk
      refine al_sh hu6 C hW hP h23 d_Main_visits_167 ?_
      refine lv_aload hx hb d_Main_visits_168 (lv_at hl 4 rfl) ?_
      refine gf_sh_0 hu6 C hW hP fl_Main_142 d_Main_visits_170 ?_
      refine lv_iload_n hx hb d_Main_visits_173 rfl (lv_at hl 1 rfl) ?_
      refine lv_iconst (v := 2) hx hb d_Main_visits_174 (by decide) ?_
      refine lv_iload hx hb d_Main_visits_175 (lv_at hl 5 rfl) ?_
      refine lv_imul hx hb d_Main_visits_177 ?_
      refine lv_iadd hx hb d_Main_visits_178 ?_
      refine lv_iconst (v := 1) hx hb d_Main_visits_179 (by decide) ?_
      refine lv_iadd hx hb d_Main_visits_180 ?_
      obtain ⟨h24, hk⟩ := hk
      refine al_sh hu6 C hW hP h24 d_Main_visits_181 ?_
      refine r_runV (k_V (As := [.int x10, .int (M (6 + u6) (x3 + ((2 : Int32) * x10)).toNatClampNeg), .int (M (6 + u6) ((x3 + ((2 : Int32) * x10)) + (1 : Int32)).toNatClampNeg)]) (rest := []) C hW hP (c_Walk_visit hI x10 (M (6 + u6) (x3 + ((2 : Int32) * x10)).toNatClampNeg) (M (6 + u6) ((x3 + ((2 : Int32) * x10)) + (1 : Int32)).toNatClampNeg) M _ hk) cb_Walk_visit ml_Main_145 (io_18 g M) ⟨by decide, by decide⟩ rfl hl.1 rfl (Nat.le_of_ble_eq_true rfl) d_Main_visits_182 ⟨by decide, by decide⟩) hS (fun M25 H locs hk hP hS => ?_)
      obtain ⟨x10_26, ex10_26⟩ : ∃ y : Int32, y = x10 + (1 : Int32) := ⟨_, rfl⟩
      have hk := hk x10_26 ex10_26
      refine lv_iinc (v := x10_26) (lv' := [(10, .int x10_26), (0, .ref (g.2.2.2 0)), (3, .int x3), (4, .int x4), (5, .int x5), (6, .ref (g.2.2.2 (2 + u6)))]) hx hb d_Main_visits_185 hl (k := 5) rfl (by rw [ex10_26]; rfl) (by decide) rfl (fun ls hl => ?_)
      refine lv_goto (tgt := 143) hx hb d_Main_visits_188 (by decide) ?_
      exact (eX143 x3 x4 x5 u6 x10_26 M25).mp hk _ _ _ hP hS (lv_sub hl [1, 2, 3, 4, 5, 0] rfl)
theorem d_Main_isOrder_0 : decode b_Main_isOrder 0 = .ok (.iconst 0, 1) := by decide +kernel
theorem d_Main_isOrder_1 : decode b_Main_isOrder 1 = .ok (.istore 4, 2) := by decide +kernel
theorem d_Main_isOrder_3 : decode b_Main_isOrder 3 = .ok (.iconst 0, 1) := by decide +kernel
theorem d_Main_isOrder_4 : decode b_Main_isOrder 4 = .ok (.istore 5, 2) := by decide +kernel
theorem d_Main_isOrder_6 : decode b_Main_isOrder 6 = .ok (.iload 5, 2) := by decide +kernel
theorem d_Main_isOrder_8 : decode b_Main_isOrder 8 = .ok (.iload_n 3, 1) := by decide +kernel
theorem d_Main_isOrder_9 : decode b_Main_isOrder 9 = .ok (.if_icmp .ge 53, 3) := by decide +kernel
theorem d_Main_isOrder_12 : decode b_Main_isOrder 12 = .ok (.aload_n 1, 1) := by decide +kernel
theorem d_Main_isOrder_13 : decode b_Main_isOrder 13 = .ok (.getfield 142, 3) := by decide +kernel
theorem d_Main_isOrder_16 : decode b_Main_isOrder 16 = .ok (.iload_n 2, 1) := by decide +kernel
theorem d_Main_isOrder_17 : decode b_Main_isOrder 17 = .ok (.iload 5, 2) := by decide +kernel
theorem d_Main_isOrder_19 : decode b_Main_isOrder 19 = .ok (.iadd, 1) := by decide +kernel
theorem d_Main_isOrder_20 : decode b_Main_isOrder 20 = .ok (.iaload, 1) := by decide +kernel
theorem d_Main_isOrder_21 : decode b_Main_isOrder 21 = .ok (.istore 6, 2) := by decide +kernel
theorem d_Main_isOrder_23 : decode b_Main_isOrder 23 = .ok (.aload_n 0, 1) := by decide +kernel
theorem d_Main_isOrder_24 : decode b_Main_isOrder 24 = .ok (.getfield 28, 3) := by decide +kernel
theorem d_Main_isOrder_27 : decode b_Main_isOrder 27 = .ok (.iload 6, 2) := by decide +kernel
theorem d_Main_isOrder_29 : decode b_Main_isOrder 29 = .ok (.invokevirtual 122, 3) := by decide +kernel
theorem d_Main_isOrder_32 : decode b_Main_isOrder 32 = .ok (.ifCond .eq 13, 3) := by decide +kernel
theorem d_Main_isOrder_35 : decode b_Main_isOrder 35 = .ok (.iload 4, 2) := by decide +kernel
theorem d_Main_isOrder_37 : decode b_Main_isOrder 37 = .ok (.iconst 1, 1) := by decide +kernel
theorem d_Main_isOrder_38 : decode b_Main_isOrder 38 = .ok (.iload 6, 2) := by decide +kernel
theorem d_Main_isOrder_40 : decode b_Main_isOrder 40 = .ok (.ishl, 1) := by decide +kernel
theorem d_Main_isOrder_41 : decode b_Main_isOrder 41 = .ok (.iand, 1) := by decide +kernel
theorem d_Main_isOrder_42 : decode b_Main_isOrder 42 = .ok (.ifCond .eq 5, 3) := by decide +kernel
theorem d_Main_isOrder_45 : decode b_Main_isOrder 45 = .ok (.iconst 0, 1) := by decide +kernel
theorem d_Main_isOrder_46 : decode b_Main_isOrder 46 = .ok (.ireturn, 1) := by decide +kernel
theorem d_Main_isOrder_47 : decode b_Main_isOrder 47 = .ok (.iload 4, 2) := by decide +kernel
theorem d_Main_isOrder_49 : decode b_Main_isOrder 49 = .ok (.iconst 1, 1) := by decide +kernel
theorem d_Main_isOrder_50 : decode b_Main_isOrder 50 = .ok (.iload 6, 2) := by decide +kernel
theorem d_Main_isOrder_52 : decode b_Main_isOrder 52 = .ok (.ishl, 1) := by decide +kernel
theorem d_Main_isOrder_53 : decode b_Main_isOrder 53 = .ok (.ior, 1) := by decide +kernel
theorem d_Main_isOrder_54 : decode b_Main_isOrder 54 = .ok (.istore 4, 2) := by decide +kernel
theorem d_Main_isOrder_56 : decode b_Main_isOrder 56 = .ok (.iinc 5 1, 3) := by decide +kernel
theorem d_Main_isOrder_59 : decode b_Main_isOrder 59 = .ok (.goto (-53), 3) := by decide +kernel
theorem d_Main_isOrder_62 : decode b_Main_isOrder 62 = .ok (.iconst 1, 1) := by decide +kernel
theorem d_Main_isOrder_63 : decode b_Main_isOrder 63 = .ok (.ireturn, 1) := by decide +kernel
set_option maxRecDepth 20000 in
theorem c_Main_isOrder {l : Launch} {g : GG} {q1 : Nat} (hq1 : q1 < 4) (hI : WI g) (a2 : Int32) (a3 : Int32) (M : Mem) (R : Int32 → Mem → Prop) (h : wp_Main_isOrder q1 a2 a3 M R) : Met l y_Main_isOrder (wm y_Main_isOrder b_Main_isOrder 7 (some .boolean)) (RM 2 42) (PP g M [.ref (g.2.2.2 0), .ref (g.2.2.2 (2 + q1)), .int a2, .int a3]) (PQ g (RZ R)) 0 0 (AW g) := by
  refine m_of (own := N_Main) (by decide) rfl (Nat.le_of_ble_eq_true rfl) ?_
  intro p e s m below meth c ls C hr hlocks hW hP hS hl
  obtain ⟨hx, hb, hml, hown, hts⟩ := id C
  have hl : lv_has ls 7 [(0, .ref (g.2.2.2 0)), (1, .ref (g.2.2.2 (2 + q1))), (2, .int a2), (3, .int a3)] := hl
  unfold wp_Main_isOrder at h
  obtain ⟨X6, eX6⟩ : ∃ X : Nat → Int32 → Int32 → Int32 → Int32 → Mem → Prop, ∀ (u1 : Nat) (x2 : Int32) (x3 : Int32) (x4 : Int32) (x5 : Int32) (M : Mem), X u1 x2 x3 x4 x5 M ↔ (∀ (H : Heap) (locs : List Loc) (ls : Array Slot), WP g M H → va_S (AW g) s.heap H locs → lv_has ls 7 [(0, .ref (g.2.2.2 0)), (1, .ref (g.2.2.2 (2 + u1))), (2, .int x2), (3, .int x3), (4, .int x4), (5, .int x5)] → W p l e (RM 2 42) s m ([.ref (g.2.2.2 0), .ref (g.2.2.2 (2 + q1)), .int a2, .int a3] : List Value).toArray below meth c H locs 0 0 (MQ below (PQ g (RZ R)) ([.ref (g.2.2.2 0), .ref (g.2.2.2 (2 + q1)), .int a2, .int a3] : List Value).toArray s 0 0 (AW g)) (F0 m 6 ls [])) := ⟨fun u1 x2 x3 x4 x5 M => _, fun _ _ _ _ _ _ => Iff.rfl⟩
  suffices hcl : (∀ (u1 : Nat) (x2 : Int32) (x3 : Int32) (x4 : Int32) (x5 : Int32) (M : Mem), wp_Main_isOrder_6 X6 R u1 x2 x3 x4 x5 M → X6 u1 x2 x3 x4 x5 M) by
    have hk := h X6 hcl
    refine lv_iconst (v := 0) hx hb d_Main_isOrder_0 (by decide) ?_
    refine lv_istore (lv' := [(4, .int (0 : Int32)), (0, .ref (g.2.2.2 0)), (1, .ref (g.2.2.2 (2 + q1))), (2, .int a2), (3, .int a3)]) hx hb d_Main_isOrder_1 hl (by decide) rfl (fun ls hl => ?_)
    refine lv_iconst (v := 0) hx hb d_Main_isOrder_3 (by decide) ?_
    refine lv_istore (lv' := [(5, .int (0 : Int32)), (4, .int (0 : Int32)), (0, .ref (g.2.2.2 0)), (1, .ref (g.2.2.2 (2 + q1))), (2, .int a2), (3, .int a3)]) hx hb d_Main_isOrder_4 hl (by decide) rfl (fun ls hl => ?_)
    exact (eX6 q1 a2 a3 (0 : Int32) (0 : Int32) M).mp hk _ _ _ hP hS (lv_sub hl [2, 3, 4, 5, 1, 0] rfl)
  · intro u1 x2 x3 x4 x5 M hk
    refine (eX6 u1 x2 x3 x4 x5 M).mpr ?_
    intro H locs ls hP hS hl
    unfold wp_Main_isOrder_6 at hk
    obtain ⟨hu1, hk⟩ := hk
    refine lv_iload hx hb d_Main_isOrder_6 (lv_at hl 5 rfl) ?_
    refine lv_iload_n hx hb d_Main_isOrder_8 rfl (lv_at hl 3 rfl) ?_
    refine lv_icmp_ge (tgt := 62) hx hb d_Main_isOrder_9 (by decide) (fun c1 => ?_) (fun c1 => ?_)
    · have hk := hk.1 c1
      refine lv_iconst (v := 1) hx hb d_Main_isOrder_62 (by decide) ?_
      exact r_zret rfl C hr hlocks hP hS hk d_Main_isOrder_63
    · have hk := hk.2 c1
      refine lv_aload_n hx hb d_Main_isOrder_12 rfl (lv_at hl 1 rfl) ?_
      refine gf_sh_0 hu1 C hW hP fl_Main_142 d_Main_isOrder_13 ?_
      refine lv_iload_n hx hb d_Main_isOrder_16 rfl (lv_at hl 2 rfl) ?_
      refine lv_iload hx hb d_Main_isOrder_17 (lv_at hl 5 rfl) ?_
      refine lv_iadd hx hb d_Main_isOrder_19 ?_
      obtain ⟨h2, hk⟩ := hk
      refine al_sh hu1 C hW hP h2 d_Main_isOrder_20 ?_
      refine lv_topi (fun x6_3 ex6_3 => ?_)
      have hk := hk x6_3 ex6_3
      refine lv_istore (lv' := [(6, .int x6_3), (0, .ref (g.2.2.2 0)), (1, .ref (g.2.2.2 (2 + u1))), (2, .int x2), (3, .int x3), (4, .int x4), (5, .int x5)]) hx hb d_Main_isOrder_21 hl (by decide) rfl (fun ls hl => ?_)
      refine lv_aload_n hx hb d_Main_isOrder_23 rfl (lv_at hl 1 rfl) ?_
      refine gf_0_2 C hW hP fl_Main_28 d_Main_isOrder_24 ?_
      refine lv_iload hx hb d_Main_isOrder_27 (lv_at hl 0 rfl) ?_
      refine r_runZ (k_V (As := [.int x6_3]) (rest := []) C hW hP (c_Way_hasGuest hI x6_3 M _ hk) cb_Way_hasGuest ml_Main_122 (io_12 g M) ⟨by decide, by decide⟩ rfl hl.1 rfl (Nat.le_of_ble_eq_true rfl) d_Main_isOrder_29 ⟨by decide, by decide⟩) hS (fun r5 M4 H locs zr5 hk hP hS => ?_)
      refine lv_if_eq (tgt := 45) hx hb d_Main_isOrder_32 (by decide) (fun c6 => ?_) (fun c6 => ?_)
      · have hk := hk.1 c6
        refine lv_iconst (v := 0) hx hb d_Main_isOrder_45 (by decide) ?_
        exact r_zret rfl C hr hlocks hP hS hk d_Main_isOrder_46
      · have hk := hk.2 c6
        refine lv_iload hx hb d_Main_isOrder_35 (lv_at hl 5 rfl) ?_
        refine lv_iconst (v := 1) hx hb d_Main_isOrder_37 (by decide) ?_
        refine lv_iload hx hb d_Main_isOrder_38 (lv_at hl 0 rfl) ?_
        refine lv_ishl hx hb d_Main_isOrder_40 ?_
        refine lv_iand hx hb d_Main_isOrder_41 ?_
        refine lv_if_eq (tgt := 47) hx hb d_Main_isOrder_42 (by decide) (fun c7 => ?_) (fun c7 => ?_)
        · have hk := hk.1 c7
          refine lv_iload hx hb d_Main_isOrder_47 (lv_at hl 5 rfl) ?_
          refine lv_iconst (v := 1) hx hb d_Main_isOrder_49 (by decide) ?_
          refine lv_iload hx hb d_Main_isOrder_50 (lv_at hl 0 rfl) ?_
          refine lv_ishl hx hb d_Main_isOrder_52 ?_
          refine lv_ior hx hb d_Main_isOrder_53 ?_
          refine lv_topi (fun x4_8 ex4_8 => ?_)
          have hk := hk x4_8 ex4_8
          refine lv_istore (lv' := [(4, .int x4_8), (6, .int x6_3), (0, .ref (g.2.2.2 0)), (1, .ref (g.2.2.2 (2 + u1))), (2, .int x2), (3, .int x3), (5, .int x5)]) hx hb d_Main_isOrder_54 hl (by decide) rfl (fun ls hl => ?_)
          obtain ⟨x5_9, ex5_9⟩ : ∃ y : Int32, y = x5 + (1 : Int32) := ⟨_, rfl⟩
          have hk := hk x5_9 ex5_9
          refine lv_iinc (v := x5_9) (lv' := [(5, .int x5_9), (4, .int x4_8), (6, .int x6_3), (0, .ref (g.2.2.2 0)), (1, .ref (g.2.2.2 (2 + u1))), (2, .int x2), (3, .int x3)]) hx hb d_Main_isOrder_56 hl (k := 6) rfl (by rw [ex5_9]; rfl) (by decide) rfl (fun ls hl => ?_)
          refine lv_goto (tgt := 6) hx hb d_Main_isOrder_59 (by decide) ?_
          exact (eX6 u1 x2 x3 x4_8 x5_9 M4).mp hk _ _ _ hP hS (lv_sub hl [3, 4, 5, 6, 1, 0] rfl)
        · have hk := hk.2 c7
          refine lv_iconst (v := 0) hx hb d_Main_isOrder_45 (by decide) ?_
          exact r_zret rfl C hr hlocks hP hS hk d_Main_isOrder_46
