theorem d_Walk_send_0 : decode b_Walk_send 0 = .ok (.aload_n 0, 1) := by decide +kernel
theorem d_Walk_send_1 : decode b_Walk_send 1 = .ok (.getfield 9, 3) := by decide +kernel
theorem d_Walk_send_4 : decode b_Walk_send 4 = .ok (.iload_n 1, 1) := by decide +kernel
theorem d_Walk_send_5 : decode b_Walk_send 5 = .ok (.invokevirtual 38, 3) := by decide +kernel
theorem d_Walk_send_8 : decode b_Walk_send 8 = .ok (.istore_n 2, 1) := by decide +kernel
theorem d_Walk_send_9 : decode b_Walk_send 9 = .ok (.iconst 0, 1) := by decide +kernel
theorem d_Walk_send_10 : decode b_Walk_send 10 = .ok (.istore_n 3, 1) := by decide +kernel
theorem d_Walk_send_11 : decode b_Walk_send 11 = .ok (.iload_n 3, 1) := by decide +kernel
theorem d_Walk_send_12 : decode b_Walk_send 12 = .ok (.aload_n 0, 1) := by decide +kernel
theorem d_Walk_send_13 : decode b_Walk_send 13 = .ok (.getfield 9, 3) := by decide +kernel
theorem d_Walk_send_16 : decode b_Walk_send 16 = .ok (.getfield 48, 3) := by decide +kernel
theorem d_Walk_send_19 : decode b_Walk_send 19 = .ok (.if_icmp .ge 20, 3) := by decide +kernel
theorem d_Walk_send_22 : decode b_Walk_send 22 = .ok (.aload_n 0, 1) := by decide +kernel
theorem d_Walk_send_23 : decode b_Walk_send 23 = .ok (.iload_n 3, 1) := by decide +kernel
theorem d_Walk_send_24 : decode b_Walk_send 24 = .ok (.iload_n 2, 1) := by decide +kernel
theorem d_Walk_send_25 : decode b_Walk_send 25 = .ok (.invokevirtual 44, 3) := by decide +kernel
theorem d_Walk_send_28 : decode b_Walk_send 28 = .ok (.ifCond .ne 5, 3) := by decide +kernel
theorem d_Walk_send_31 : decode b_Walk_send 31 = .ok (.iload_n 3, 1) := by decide +kernel
theorem d_Walk_send_32 : decode b_Walk_send 32 = .ok (.ireturn, 1) := by decide +kernel
theorem d_Walk_send_33 : decode b_Walk_send 33 = .ok (.iinc 3 1, 3) := by decide +kernel
theorem d_Walk_send_36 : decode b_Walk_send 36 = .ok (.goto (-25), 3) := by decide +kernel
theorem d_Walk_send_39 : decode b_Walk_send 39 = .ok (.bipush (-9), 2) := by decide +kernel
theorem d_Walk_send_41 : decode b_Walk_send 41 = .ok (.ireturn, 1) := by decide +kernel
set_option maxRecDepth 20000 in
theorem c_Walk_send {l : Launch} {g : GG} (hI : WI g) (a1 : Int32) (M : Mem) (R : Int32 → Mem → Prop) (h : wp_Walk_send a1 M R) : Met l y_Walk_send (wm y_Walk_send b_Walk_send 4 (some .int)) (RM 2 50) (PP g M [.ref (g.2.2.2 18), .int a1]) (PQ g (RI R)) 0 0 (AW g) := by
  refine m_of (own := N_Walk) (by decide) rfl (Nat.le_of_ble_eq_true rfl) ?_
  intro p e s m below meth c ls C hr hlocks hW hP hS hl
  obtain ⟨hx, hb, hml, hown, hts⟩ := id C
  have hl : lv_has ls 4 [(0, .ref (g.2.2.2 18)), (1, .int a1)] := hl
  unfold wp_Walk_send at h
  obtain ⟨X11, eX11⟩ : ∃ X : Int32 → Int32 → Mem → Prop, ∀ (x2 : Int32) (x3 : Int32) (M : Mem), X x2 x3 M ↔ (∀ (H : Heap) (locs : List Loc) (ls : Array Slot), WP g M H → va_S (AW g) s.heap H locs → lv_has ls 4 [(0, .ref (g.2.2.2 18)), (2, .int x2), (3, .int x3)] → W p l e (RM 2 50) s m ([.ref (g.2.2.2 18), .int a1] : List Value).toArray below meth c H locs 0 0 (MQ below (PQ g (RI R)) ([.ref (g.2.2.2 18), .int a1] : List Value).toArray s 0 0 (AW g)) (F0 m 11 ls [])) := ⟨fun x2 x3 M => _, fun _ _ _ => Iff.rfl⟩
  suffices hcl : (∀ (x2 : Int32) (x3 : Int32) (M : Mem), wp_Walk_send_11 X11 R x2 x3 M → X11 x2 x3 M) by
    have hk := h X11 hcl
    refine lv_aload_n hx hb d_Walk_send_0 rfl (lv_at hl 0 rfl) ?_
    refine gf_18_0 C hW hP fl_Walk_9 d_Walk_send_1 ?_
    refine lv_iload_n hx hb d_Walk_send_4 rfl (lv_at hl 1 rfl) ?_
    refine r_runI (k_V (As := [.int a1]) (rest := []) C hW hP (c_Way_gearOf hI a1 M _ hk) cb_Way_gearOf ml_Walk_38 (io_12 g M) ⟨by decide, by decide⟩ rfl hl.1 rfl (Nat.le_of_ble_eq_true rfl) d_Walk_send_5 ⟨by decide, by decide⟩) hS (fun r7 M6 H locs hk hP hS => ?_)
    refine lv_istore_n (lv' := [(2, .int r7), (0, .ref (g.2.2.2 18)), (1, .int a1)]) hx hb d_Walk_send_8 rfl hl (by decide) rfl (fun ls hl => ?_)
    refine lv_iconst (v := 0) hx hb d_Walk_send_9 (by decide) ?_
    refine lv_istore_n (lv' := [(3, .int (0 : Int32)), (2, .int r7), (0, .ref (g.2.2.2 18)), (1, .int a1)]) hx hb d_Walk_send_10 rfl hl (by decide) rfl (fun ls hl => ?_)
    exact (eX11 r7 (0 : Int32) M6).mp hk _ _ _ hP hS (lv_sub hl [2, 1, 0] rfl)
  · intro x2 x3 M hk
    refine (eX11 x2 x3 M).mpr ?_
    intro H locs ls hP hS hl
    unfold wp_Walk_send_11 at hk
    refine lv_iload_n hx hb d_Walk_send_11 rfl (lv_at hl 2 rfl) ?_
    refine lv_aload_n hx hb d_Walk_send_12 rfl (lv_at hl 0 rfl) ?_
    refine gf_18_0 C hW hP fl_Walk_9 d_Walk_send_13 ?_
    refine gf_12_5 C hW hP fl_Walk_48 d_Walk_send_16 ?_
    refine lv_icmp_ge (tgt := 39) hx hb d_Walk_send_19 (by decide) (fun c1 => ?_) (fun c1 => ?_)
    · have hk := hk.1 c1
      refine lv_bipush (v := -9) hx hb d_Walk_send_39 (by decide) ?_
      exact r_iret C hr hlocks hP hS hk d_Walk_send_41
    · have hk := hk.2 c1
      refine lv_aload_n hx hb d_Walk_send_22 rfl (lv_at hl 0 rfl) ?_
      refine lv_iload_n hx hb d_Walk_send_23 rfl (lv_at hl 2 rfl) ?_
      refine lv_iload_n hx hb d_Walk_send_24 rfl (lv_at hl 1 rfl) ?_
      refine r_runZ (k_V (As := [.int x3, .int x2]) (rest := []) C hW hP (c_Walk_enter hI x3 x2 M _ hk) cb_Walk_enter ml_Walk_44 (io_18 g M) ⟨by decide, by decide⟩ rfl hl.1 rfl (Nat.le_of_ble_eq_true rfl) d_Walk_send_25 ⟨by decide, by decide⟩) hS (fun r3 M2 H locs zr3 hk hP hS => ?_)
      refine lv_if_ne (tgt := 33) hx hb d_Walk_send_28 (by decide) (fun c4 => ?_) (fun c4 => ?_)
      · have hk := hk.1 c4
        obtain ⟨x3_5, ex3_5⟩ : ∃ y : Int32, y = x3 + (1 : Int32) := ⟨_, rfl⟩
        have hk := hk x3_5 ex3_5
        refine lv_iinc (v := x3_5) (lv' := [(3, .int x3_5), (0, .ref (g.2.2.2 18)), (2, .int x2)]) hx hb d_Walk_send_33 hl (k := 2) rfl (by rw [ex3_5]; rfl) (by decide) rfl (fun ls hl => ?_)
        refine lv_goto (tgt := 11) hx hb d_Walk_send_36 (by decide) ?_
        exact (eX11 x2 x3_5 M2).mp hk _ _ _ hP hS (lv_sub hl [1, 2, 0] rfl)
      · have hk := hk.2 c4
        refine lv_iload_n hx hb d_Walk_send_31 rfl (lv_at hl 2 rfl) ?_
        exact r_iret C hr hlocks hP hS hk d_Walk_send_32
theorem d_Walk_goAlone_0 : decode b_Walk_goAlone 0 = .ok (.aload_n 0, 1) := by decide +kernel
theorem d_Walk_goAlone_1 : decode b_Walk_goAlone 1 = .ok (.getfield 19, 3) := by decide +kernel
theorem d_Walk_goAlone_4 : decode b_Walk_goAlone 4 = .ok (.iload_n 1, 1) := by decide +kernel
theorem d_Walk_goAlone_5 : decode b_Walk_goAlone 5 = .ok (.aload_n 0, 1) := by decide +kernel
theorem d_Walk_goAlone_6 : decode b_Walk_goAlone 6 = .ok (.iconst 1, 1) := by decide +kernel
theorem d_Walk_goAlone_7 : decode b_Walk_goAlone 7 = .ok (.iload_n 1, 1) := by decide +kernel
theorem d_Walk_goAlone_8 : decode b_Walk_goAlone 8 = .ok (.ishl, 1) := by decide +kernel
theorem d_Walk_goAlone_9 : decode b_Walk_goAlone 9 = .ok (.invokevirtual 51, 3) := by decide +kernel
theorem d_Walk_goAlone_12 : decode b_Walk_goAlone 12 = .ok (.iastore, 1) := by decide +kernel
theorem d_Walk_goAlone_13 : decode b_Walk_goAlone 13 = .ok (.aload_n 0, 1) := by decide +kernel
theorem d_Walk_goAlone_14 : decode b_Walk_goAlone 14 = .ok (.getfield 19, 3) := by decide +kernel
theorem d_Walk_goAlone_17 : decode b_Walk_goAlone 17 = .ok (.iload_n 1, 1) := by decide +kernel
theorem d_Walk_goAlone_18 : decode b_Walk_goAlone 18 = .ok (.iaload, 1) := by decide +kernel
theorem d_Walk_goAlone_19 : decode b_Walk_goAlone 19 = .ok (.bipush (-9), 2) := by decide +kernel
theorem d_Walk_goAlone_21 : decode b_Walk_goAlone 21 = .ok (.if_icmp .ne 15, 3) := by decide +kernel
theorem d_Walk_goAlone_24 : decode b_Walk_goAlone 24 = .ok (.aload_n 0, 1) := by decide +kernel
theorem d_Walk_goAlone_25 : decode b_Walk_goAlone 25 = .ok (.dup, 1) := by decide +kernel
theorem d_Walk_goAlone_26 : decode b_Walk_goAlone 26 = .ok (.getfield 22, 3) := by decide +kernel
theorem d_Walk_goAlone_29 : decode b_Walk_goAlone 29 = .ok (.iconst 1, 1) := by decide +kernel
theorem d_Walk_goAlone_30 : decode b_Walk_goAlone 30 = .ok (.iload_n 1, 1) := by decide +kernel
theorem d_Walk_goAlone_31 : decode b_Walk_goAlone 31 = .ok (.ishl, 1) := by decide +kernel
theorem d_Walk_goAlone_32 : decode b_Walk_goAlone 32 = .ok (.ior, 1) := by decide +kernel
theorem d_Walk_goAlone_33 : decode b_Walk_goAlone 33 = .ok (.putfield 22, 3) := by decide +kernel
theorem d_Walk_goAlone_36 : decode b_Walk_goAlone 36 = .ok (.return_, 1) := by decide +kernel
set_option maxRecDepth 20000 in
theorem c_Walk_goAlone {l : Launch} {g : GG} (hI : WI g) (a1 : Int32) (M : Mem) (R : Mem → Prop) (h : wp_Walk_goAlone a1 M R) : Met l y_Walk_goAlone (wm y_Walk_goAlone b_Walk_goAlone 2 none) (RM 3 73) (PP g M [.ref (g.2.2.2 18), .int a1]) (PQ g (RV R)) 0 0 (AW g) := by
  refine m_of (own := N_Walk) (by decide) rfl (Nat.le_of_ble_eq_true rfl) ?_
  intro p e s m below meth c ls C hr hlocks hW hP hS hl
  obtain ⟨hx, hb, hml, hown, hts⟩ := id C
  have hl : lv_has ls 2 [(0, .ref (g.2.2.2 18)), (1, .int a1)] := hl
  unfold wp_Walk_goAlone at h
  have hk := h
  refine lv_aload_n hx hb d_Walk_goAlone_0 rfl (lv_at hl 0 rfl) ?_
  refine gf_18_2 C hW hP fl_Walk_19 d_Walk_goAlone_1 ?_
  refine lv_iload_n hx hb d_Walk_goAlone_4 rfl (lv_at hl 1 rfl) ?_
  refine lv_aload_n hx hb d_Walk_goAlone_5 rfl (lv_at hl 0 rfl) ?_
  refine lv_iconst (v := 1) hx hb d_Walk_goAlone_6 (by decide) ?_
  refine lv_iload_n hx hb d_Walk_goAlone_7 rfl (lv_at hl 1 rfl) ?_
  refine lv_ishl hx hb d_Walk_goAlone_8 ?_
  refine r_runI (k_V (As := [.int ((1 : Int32) <<< (a1 &&& (31 : Int32)))]) (rest := [.int a1, .ref (g.2.2.2 20)]) C hW hP (c_Walk_send hI ((1 : Int32) <<< (a1 &&& (31 : Int32))) M _ hk) cb_Walk_send ml_Walk_51 (io_18 g M) ⟨by decide, by decide⟩ rfl hl.1 rfl (Nat.le_of_ble_eq_true rfl) d_Walk_goAlone_9 ⟨by decide, by decide⟩) hS (fun r2 M1 H locs hk hP hS => ?_)
  obtain ⟨h3, hk⟩ := hk
  refine as_20 hI C hW hP hS h3 d_Walk_goAlone_12 (fun M4 eM4 H locs hP hS => ?_)
  have hk := hk M4 eM4
  refine lv_aload_n hx hb d_Walk_goAlone_13 rfl (lv_at hl 0 rfl) ?_
  refine gf_18_2 C hW hP fl_Walk_19 d_Walk_goAlone_14 ?_
  refine lv_iload_n hx hb d_Walk_goAlone_17 rfl (lv_at hl 1 rfl) ?_
  obtain ⟨h5, hk⟩ := hk
  refine al_20 C hW hP h5 d_Walk_goAlone_18 ?_
  refine lv_bipush (v := -9) hx hb d_Walk_goAlone_19 (by decide) ?_
  refine lv_icmp_ne (tgt := 36) hx hb d_Walk_goAlone_21 (by decide) (fun c6 => ?_) (fun c6 => ?_)
  · have hk := hk.1 c6
    exact r_vret C hr hlocks hP hS hk d_Walk_goAlone_36
  · have hk := hk.2 c6
    refine lv_aload_n hx hb d_Walk_goAlone_24 rfl (lv_at hl 0 rfl) ?_
    refine lv_dup hx hb d_Walk_goAlone_25 rfl ?_
    refine gf_18_3 C hW hP fl_Walk_22 d_Walk_goAlone_26 ?_
    refine lv_iconst (v := 1) hx hb d_Walk_goAlone_29 (by decide) ?_
    refine lv_iload_n hx hb d_Walk_goAlone_30 rfl (lv_at hl 1 rfl) ?_
    refine lv_ishl hx hb d_Walk_goAlone_31 ?_
    refine lv_ior hx hb d_Walk_goAlone_32 ?_
    refine pf_18_3 hI C hW hP hS fl_Walk_22 d_Walk_goAlone_33 (fun M7 eM7 H locs hP hS => ?_)
    have hk := hk M7 eM7
    exact r_vret C hr hlocks hP hS hk d_Walk_goAlone_36
theorem d_Main_going_0 : decode b_Main_going 0 = .ok (.aload_n 0, 1) := by decide +kernel
theorem d_Main_going_1 : decode b_Main_going 1 = .ok (.iconst 0, 1) := by decide +kernel
theorem d_Main_going_2 : decode b_Main_going 2 = .ok (.putfield 68, 3) := by decide +kernel
theorem d_Main_going_5 : decode b_Main_going 5 = .ok (.aload_n 0, 1) := by decide +kernel
theorem d_Main_going_6 : decode b_Main_going 6 = .ok (.iload_n 1, 1) := by decide +kernel
theorem d_Main_going_7 : decode b_Main_going 7 = .ok (.invokevirtual 71, 3) := by decide +kernel
theorem d_Main_going_10 : decode b_Main_going 10 = .ok (.astore 6, 2) := by decide +kernel
theorem d_Main_going_12 : decode b_Main_going 12 = .ok (.aload 6, 2) := by decide +kernel
theorem d_Main_going_14 : decode b_Main_going 14 = .ok (.ifnonnull 5, 3) := by decide +kernel
theorem d_Main_going_17 : decode b_Main_going 17 = .ok (.iconst (-1), 1) := by decide +kernel
theorem d_Main_going_18 : decode b_Main_going 18 = .ok (.ireturn, 1) := by decide +kernel
theorem d_Main_going_19 : decode b_Main_going 19 = .ok (.iload 5, 2) := by decide +kernel
theorem d_Main_going_21 : decode b_Main_going 21 = .ok (.ifCond .eq 15, 3) := by decide +kernel
theorem d_Main_going_24 : decode b_Main_going 24 = .ok (.iload 5, 2) := by decide +kernel
theorem d_Main_going_26 : decode b_Main_going 26 = .ok (.bipush 10, 2) := by decide +kernel
theorem d_Main_going_28 : decode b_Main_going 28 = .ok (.isub, 1) := by decide +kernel
theorem d_Main_going_29 : decode b_Main_going 29 = .ok (.iconst 5, 1) := by decide +kernel
theorem d_Main_going_30 : decode b_Main_going 30 = .ok (.invokestatic 75, 3) := by decide +kernel
theorem d_Main_going_33 : decode b_Main_going 33 = .ok (.ifCond .eq 7, 3) := by decide +kernel
theorem d_Main_going_36 : decode b_Main_going 36 = .ok (.iconst 1, 1) := by decide +kernel
theorem d_Main_going_37 : decode b_Main_going 37 = .ok (.goto 4, 3) := by decide +kernel
theorem d_Main_going_40 : decode b_Main_going 40 = .ok (.iconst 0, 1) := by decide +kernel
theorem d_Main_going_41 : decode b_Main_going 41 = .ok (.istore 7, 2) := by decide +kernel
theorem d_Main_going_43 : decode b_Main_going 43 = .ok (.iload_n 2, 1) := by decide +kernel
theorem d_Main_going_44 : decode b_Main_going 44 = .ok (.iconst 3, 1) := by decide +kernel
theorem d_Main_going_45 : decode b_Main_going 45 = .ok (.invokestatic 75, 3) := by decide +kernel
theorem d_Main_going_48 : decode b_Main_going 48 = .ok (.ifCond .eq 8, 3) := by decide +kernel
theorem d_Main_going_51 : decode b_Main_going 51 = .ok (.iload 7, 2) := by decide +kernel
theorem d_Main_going_53 : decode b_Main_going 53 = .ok (.ifCond .ne 6, 3) := by decide +kernel
theorem d_Main_going_56 : decode b_Main_going 56 = .ok (.bipush (-2), 2) := by decide +kernel
theorem d_Main_going_58 : decode b_Main_going 58 = .ok (.ireturn, 1) := by decide +kernel
theorem d_Main_going_59 : decode b_Main_going 59 = .ok (.aload 6, 2) := by decide +kernel
theorem d_Main_going_61 : decode b_Main_going 61 = .ok (.iload_n 2, 1) := by decide +kernel
theorem d_Main_going_62 : decode b_Main_going 62 = .ok (.iload_n 3, 1) := by decide +kernel
theorem d_Main_going_63 : decode b_Main_going 63 = .ok (.iload 4, 2) := by decide +kernel
theorem d_Main_going_65 : decode b_Main_going 65 = .ok (.invokevirtual 79, 3) := by decide +kernel
theorem d_Main_going_68 : decode b_Main_going 68 = .ok (.istore 8, 2) := by decide +kernel
theorem d_Main_going_70 : decode b_Main_going 70 = .ok (.iload 8, 2) := by decide +kernel
theorem d_Main_going_72 : decode b_Main_going 72 = .ok (.ifCond .eq 10, 3) := by decide +kernel
theorem d_Main_going_75 : decode b_Main_going 75 = .ok (.aload_n 0, 1) := by decide +kernel
theorem d_Main_going_76 : decode b_Main_going 76 = .ok (.iload 8, 2) := by decide +kernel
theorem d_Main_going_78 : decode b_Main_going 78 = .ok (.invokevirtual 83, 3) := by decide +kernel
theorem d_Main_going_81 : decode b_Main_going 81 = .ok (.ireturn, 1) := by decide +kernel
theorem d_Main_going_82 : decode b_Main_going 82 = .ok (.aload_n 0, 1) := by decide +kernel
theorem d_Main_going_83 : decode b_Main_going 83 = .ok (.getfield 28, 3) := by decide +kernel
theorem d_Main_going_86 : decode b_Main_going 86 = .ok (.invokevirtual 131, 3) := by decide +kernel
theorem d_Main_going_89 : decode b_Main_going 89 = .ok (.ifCond .ne 6, 3) := by decide +kernel
theorem d_Main_going_92 : decode b_Main_going 92 = .ok (.bipush (-3), 2) := by decide +kernel
theorem d_Main_going_94 : decode b_Main_going 94 = .ok (.ireturn, 1) := by decide +kernel
theorem d_Main_going_95 : decode b_Main_going 95 = .ok (.aload_n 0, 1) := by decide +kernel
theorem d_Main_going_96 : decode b_Main_going 96 = .ok (.aload 6, 2) := by decide +kernel
theorem d_Main_going_98 : decode b_Main_going 98 = .ok (.iload_n 3, 1) := by decide +kernel
theorem d_Main_going_99 : decode b_Main_going 99 = .ok (.iload 4, 2) := by decide +kernel
theorem d_Main_going_101 : decode b_Main_going 101 = .ok (.invokevirtual 152, 3) := by decide +kernel
theorem d_Main_going_104 : decode b_Main_going 104 = .ok (.ifCond .ne 5, 3) := by decide +kernel
theorem d_Main_going_107 : decode b_Main_going 107 = .ok (.iconst (-1), 1) := by decide +kernel
theorem d_Main_going_108 : decode b_Main_going 108 = .ok (.ireturn, 1) := by decide +kernel
theorem d_Main_going_109 : decode b_Main_going 109 = .ok (.aload_n 0, 1) := by decide +kernel
theorem d_Main_going_110 : decode b_Main_going 110 = .ok (.getfield 37, 3) := by decide +kernel
theorem d_Main_going_113 : decode b_Main_going 113 = .ok (.invokevirtual 139, 3) := by decide +kernel
theorem d_Main_going_116 : decode b_Main_going 116 = .ok (.iconst 0, 1) := by decide +kernel
theorem d_Main_going_117 : decode b_Main_going 117 = .ok (.istore 9, 2) := by decide +kernel
theorem d_Main_going_119 : decode b_Main_going 119 = .ok (.iload 9, 2) := by decide +kernel
theorem d_Main_going_121 : decode b_Main_going 121 = .ok (.iload 4, 2) := by decide +kernel
theorem d_Main_going_123 : decode b_Main_going 123 = .ok (.if_icmp .ge 26, 3) := by decide +kernel
theorem d_Main_going_126 : decode b_Main_going 126 = .ok (.aload_n 0, 1) := by decide +kernel
theorem d_Main_going_127 : decode b_Main_going 127 = .ok (.getfield 37, 3) := by decide +kernel
theorem d_Main_going_130 : decode b_Main_going 130 = .ok (.aload 6, 2) := by decide +kernel
theorem d_Main_going_132 : decode b_Main_going 132 = .ok (.getfield 142, 3) := by decide +kernel
theorem d_Main_going_135 : decode b_Main_going 135 = .ok (.iload_n 3, 1) := by decide +kernel
theorem d_Main_going_136 : decode b_Main_going 136 = .ok (.iload 9, 2) := by decide +kernel
theorem d_Main_going_138 : decode b_Main_going 138 = .ok (.iadd, 1) := by decide +kernel
theorem d_Main_going_139 : decode b_Main_going 139 = .ok (.iaload, 1) := by decide +kernel
theorem d_Main_going_140 : decode b_Main_going 140 = .ok (.invokevirtual 156, 3) := by decide +kernel
theorem d_Main_going_143 : decode b_Main_going 143 = .ok (.iinc 9 1, 3) := by decide +kernel
theorem d_Main_going_146 : decode b_Main_going 146 = .ok (.goto (-27), 3) := by decide +kernel
theorem d_Main_going_149 : decode b_Main_going 149 = .ok (.iload 5, 2) := by decide +kernel
theorem d_Main_going_151 : decode b_Main_going 151 = .ok (.ifCond .ne 13, 3) := by decide +kernel
theorem d_Main_going_154 : decode b_Main_going 154 = .ok (.aload_n 0, 1) := by decide +kernel
theorem d_Main_going_155 : decode b_Main_going 155 = .ok (.getfield 37, 3) := by decide +kernel
theorem d_Main_going_158 : decode b_Main_going 158 = .ok (.getfield 160, 3) := by decide +kernel
theorem d_Main_going_161 : decode b_Main_going 161 = .ok (.goto 16, 3) := by decide +kernel
theorem d_Main_going_164 : decode b_Main_going 164 = .ok (.aload_n 0, 1) := by decide +kernel
theorem d_Main_going_165 : decode b_Main_going 165 = .ok (.getfield 37, 3) := by decide +kernel
theorem d_Main_going_168 : decode b_Main_going 168 = .ok (.getfield 163, 3) := by decide +kernel
theorem d_Main_going_171 : decode b_Main_going 171 = .ok (.iload 5, 2) := by decide +kernel
theorem d_Main_going_173 : decode b_Main_going 173 = .ok (.bipush 10, 2) := by decide +kernel
theorem d_Main_going_175 : decode b_Main_going 175 = .ok (.isub, 1) := by decide +kernel
theorem d_Main_going_176 : decode b_Main_going 176 = .ok (.iaload, 1) := by decide +kernel
theorem d_Main_going_177 : decode b_Main_going 177 = .ok (.ireturn, 1) := by decide +kernel
set_option maxRecDepth 20000 in
theorem c_Main_going {l : Launch} {g : GG} (hI : WI g) (a1 : Int32) (a2 : Int32) (a3 : Int32) (a4 : Int32) (a5 : Int32) (M : Mem) (R : Int32 → Mem → Prop) (h : wp_Main_going a1 a2 a3 a4 a5 M R) : Met l y_Main_going (wm y_Main_going b_Main_going 10 (some .int)) (RM 4 94) (PP g M [.ref (g.2.2.2 0), .int a1, .int a2, .int a3, .int a4, .int a5]) (PQ g (RI R)) 0 0 (AW g) := by
  refine m_of (own := N_Main) (by decide) rfl (Nat.le_of_ble_eq_true rfl) ?_
  intro p e s m below meth c ls C hr hlocks hW hP hS hl
  obtain ⟨hx, hb, hml, hown, hts⟩ := id C
  have hl : lv_has ls 10 [(0, .ref (g.2.2.2 0)), (1, .int a1), (2, .int a2), (3, .int a3), (4, .int a4), (5, .int a5)] := hl
  unfold wp_Main_going at h
  obtain ⟨X119, eX119⟩ : ∃ X : Int32 → Int32 → Int32 → Nat → Int32 → Mem → Prop, ∀ (x3 : Int32) (x4 : Int32) (x5 : Int32) (u6 : Nat) (x9 : Int32) (M : Mem), X x3 x4 x5 u6 x9 M ↔ (∀ (H : Heap) (locs : List Loc) (ls : Array Slot), WP g M H → va_S (AW g) s.heap H locs → lv_has ls 10 [(0, .ref (g.2.2.2 0)), (3, .int x3), (4, .int x4), (5, .int x5), (6, .ref (g.2.2.2 (2 + u6))), (9, .int x9)] → W p l e (RM 4 94) s m ([.ref (g.2.2.2 0), .int a1, .int a2, .int a3, .int a4, .int a5] : List Value).toArray below meth c H locs 0 0 (MQ below (PQ g (RI R)) ([.ref (g.2.2.2 0), .int a1, .int a2, .int a3, .int a4, .int a5] : List Value).toArray s 0 0 (AW g)) (F0 m 119 ls [])) := ⟨fun x3 x4 x5 u6 x9 M => _, fun _ _ _ _ _ _ => Iff.rfl⟩
  have J41 : ∀ (x2 : Int32) (x3 : Int32) (x4 : Int32) (x5 : Int32) (u6 : Nat) (s0 : Int32) (M : Mem), wp_Main_going_41 X119 R x2 x3 x4 x5 u6 s0 M → ∀ (H : Heap) (locs : List Loc) (ls : Array Slot), WP g M H → va_S (AW g) s.heap H locs → lv_has ls 10 [(0, .ref (g.2.2.2 0)), (2, .int x2), (3, .int x3), (4, .int x4), (5, .int x5), (6, .ref (g.2.2.2 (2 + u6)))] → W p l e (RM 4 94) s m ([.ref (g.2.2.2 0), .int a1, .int a2, .int a3, .int a4, .int a5] : List Value).toArray below meth c H locs 0 0 (MQ below (PQ g (RI R)) ([.ref (g.2.2.2 0), .int a1, .int a2, .int a3, .int a4, .int a5] : List Value).toArray s 0 0 (AW g)) (F0 m 41 ls [.int s0]) := by
    intro x2 x3 x4 x5 u6 s0 M hk H locs ls hP hS hl
    unfold wp_Main_going_41 at hk
    obtain ⟨hu6, hk⟩ := hk
    refine lv_istore (lv' := [(7, .int s0), (0, .ref (g.2.2.2 0)), (2, .int x2), (3, .int x3), (4, .int x4), (5, .int x5), (6, .ref (g.2.2.2 (2 + u6)))]) hx hb d_Main_going_41 hl (by decide) rfl (fun ls hl => ?_)
    refine lv_iload_n hx hb d_Main_going_43 rfl (lv_at hl 2 rfl) ?_
    refine lv_iconst (v := 3) hx hb d_Main_going_44 (by decide) ?_
    refine r_runZ (k_S (As := [.int x2, .int (3 : Int32)]) (rest := []) C hW hP (c_Main_isBelow hI x2 (3 : Int32) M _ hk) cb_Main_isBelow ml_Main_75 ⟨by decide, by decide⟩ rfl hl.1 rfl (Nat.le_of_ble_eq_true rfl) d_Main_going_45 ⟨by decide, by decide⟩) hS (fun r2 M1 H locs zr2 hk hP hS => ?_)
    refine lv_if_eq (tgt := 56) hx hb d_Main_going_48 (by decide) (fun c3 => ?_) (fun c3 => ?_)
    · have hk := hk.1 c3
      refine lv_bipush (v := -2) hx hb d_Main_going_56 (by decide) ?_
      exact r_iret C hr hlocks hP hS hk d_Main_going_58
    · have hk := hk.2 c3
      refine lv_iload hx hb d_Main_going_51 (lv_at hl 0 rfl) ?_
      refine lv_if_ne (tgt := 59) hx hb d_Main_going_53 (by decide) (fun c4 => ?_) (fun c4 => ?_)
      · have hk := hk.1 c4
        refine lv_aload hx hb d_Main_going_59 (lv_at hl 6 rfl) ?_
        refine lv_iload_n hx hb d_Main_going_61 rfl (lv_at hl 2 rfl) ?_
        refine lv_iload_n hx hb d_Main_going_62 rfl (lv_at hl 3 rfl) ?_
        refine lv_iload hx hb d_Main_going_63 (lv_at hl 4 rfl) ?_
        refine r_runI (k_V (As := [.int x2, .int x3, .int x4]) (rest := []) C hW hP (c_Sheet_faultOfTaking hu6 hI x2 x3 x4 M1 _ hk) cb_Sheet_faultOfTaking ml_Main_79 (io_sh u6 hu6 M1) ⟨by decide, by decide⟩ rfl hl.1 rfl (Nat.le_of_ble_eq_true rfl) d_Main_going_65 ⟨by decide, by decide⟩) hS (fun r6 M5 H locs hk hP hS => ?_)
        refine lv_istore (lv' := [(8, .int r6), (7, .int s0), (0, .ref (g.2.2.2 0)), (2, .int x2), (3, .int x3), (4, .int x4), (5, .int x5), (6, .ref (g.2.2.2 (2 + u6)))]) hx hb d_Main_going_68 hl (by decide) rfl (fun ls hl => ?_)
        refine lv_iload hx hb d_Main_going_70 (lv_at hl 0 rfl) ?_
        refine lv_if_eq (tgt := 82) hx hb d_Main_going_72 (by decide) (fun c7 => ?_) (fun c7 => ?_)
        · have hk := hk.1 c7
          refine lv_aload_n hx hb d_Main_going_82 rfl (lv_at hl 2 rfl) ?_
          refine gf_0_2 C hW hP fl_Main_28 d_Main_going_83 ?_
          refine r_runZ (k_V (As := []) (rest := []) C hW hP (c_Way_isTold hI M5 _ hk) cb_Way_isTold ml_Main_131 (io_12 g M5) ⟨by decide, by decide⟩ rfl hl.1 rfl (Nat.le_of_ble_eq_true rfl) d_Main_going_86 ⟨by decide, by decide⟩) hS (fun r9 M8 H locs zr9 hk hP hS => ?_)
          refine lv_if_ne (tgt := 95) hx hb d_Main_going_89 (by decide) (fun c10 => ?_) (fun c10 => ?_)
          · have hk := hk.1 c10
            refine lv_aload_n hx hb d_Main_going_95 rfl (lv_at hl 2 rfl) ?_
            refine lv_aload hx hb d_Main_going_96 (lv_at hl 7 rfl) ?_
            refine lv_iload_n hx hb d_Main_going_98 rfl (lv_at hl 4 rfl) ?_
            refine lv_iload hx hb d_Main_going_99 (lv_at hl 5 rfl) ?_
            refine r_runZ (k_V (As := [.ref (g.2.2.2 (2 + u6)), .int x3, .int x4]) (rest := []) C hW hP (c_Main_isOrder hu6 hI x3 x4 M8 _ hk) cb_Main_isOrder ml_Main_152 (io_0 g M8) ⟨by decide, by decide⟩ rfl hl.1 rfl (Nat.le_of_ble_eq_true rfl) d_Main_going_101 ⟨by decide, by decide⟩) hS (fun r12 M11 H locs zr12 hk hP hS => ?_)
            refine lv_if_ne (tgt := 109) hx hb d_Main_going_104 (by decide) (fun c13 => ?_) (fun c13 => ?_)
            · have hk := hk.1 c13
              refine lv_aload_n hx hb d_Main_going_109 rfl (lv_at hl 2 rfl) ?_
              refine gf_0_3 C hW hP fl_Main_37 d_Main_going_110 ?_
              refine r_runV (k_V (As := []) (rest := []) C hW hP (c_Walk_begin hI M11 _ hk) cb_Walk_begin ml_Main_139 (io_18 g M11) ⟨by decide, by decide⟩ rfl hl.1 rfl (Nat.le_of_ble_eq_true rfl) d_Main_going_113 ⟨by decide, by decide⟩) hS (fun M14 H locs hk hP hS => ?_)
              refine lv_iconst (v := 0) hx hb d_Main_going_116 (by decide) ?_
              refine lv_istore (lv' := [(9, .int (0 : Int32)), (8, .int r6), (7, .int s0), (0, .ref (g.2.2.2 0)), (2, .int x2), (3, .int x3), (4, .int x4), (5, .int x5), (6, .ref (g.2.2.2 (2 + u6)))]) hx hb d_Main_going_117 hl (by decide) rfl (fun ls hl => ?_)
              exact (eX119 x3 x4 x5 u6 (0 : Int32) M14).mp hk _ _ _ hP hS (lv_sub hl [3, 5, 6, 7, 8, 0] rfl)
            · have hk := hk.2 c13
              refine lv_iconst (v := -1) hx hb d_Main_going_107 (by decide) ?_
              exact r_iret C hr hlocks hP hS hk d_Main_going_108
          · have hk := hk.2 c10
            refine lv_bipush (v := -3) hx hb d_Main_going_92 (by decide) ?_
            exact r_iret C hr hlocks hP hS hk d_Main_going_94
        · have hk := hk.2 c7
          refine lv_aload_n hx hb d_Main_going_75 rfl (lv_at hl 2 rfl) ?_
          refine lv_iload hx hb d_Main_going_76 (lv_at hl 0 rfl) ?_
          refine r_runI (k_V (As := [.int r6]) (rest := []) C hW hP (c_Main_failed hI r6 M5 _ hk) cb_Main_failed ml_Main_83 (io_0 g M5) ⟨by decide, by decide⟩ rfl hl.1 rfl (Nat.le_of_ble_eq_true rfl) d_Main_going_78 ⟨by decide, by decide⟩) hS (fun r16 M15 H locs hk hP hS => ?_)
          exact r_iret C hr hlocks hP hS hk d_Main_going_81
      · have hk := hk.2 c4
        refine lv_bipush (v := -2) hx hb d_Main_going_56 (by decide) ?_
        exact r_iret C hr hlocks hP hS hk d_Main_going_58
  have J36 : ∀ (x2 : Int32) (x3 : Int32) (x4 : Int32) (x5 : Int32) (u6 : Nat) (M : Mem), wp_Main_going_36 X119 R x2 x3 x4 x5 u6 M → ∀ (H : Heap) (locs : List Loc) (ls : Array Slot), WP g M H → va_S (AW g) s.heap H locs → lv_has ls 10 [(0, .ref (g.2.2.2 0)), (2, .int x2), (3, .int x3), (4, .int x4), (5, .int x5), (6, .ref (g.2.2.2 (2 + u6)))] → W p l e (RM 4 94) s m ([.ref (g.2.2.2 0), .int a1, .int a2, .int a3, .int a4, .int a5] : List Value).toArray below meth c H locs 0 0 (MQ below (PQ g (RI R)) ([.ref (g.2.2.2 0), .int a1, .int a2, .int a3, .int a4, .int a5] : List Value).toArray s 0 0 (AW g)) (F0 m 36 ls []) := by
    intro x2 x3 x4 x5 u6 M hk H locs ls hP hS hl
    unfold wp_Main_going_36 at hk
    obtain ⟨hu6, hk⟩ := hk
    refine lv_iconst (v := 1) hx hb d_Main_going_36 (by decide) ?_
    refine lv_goto (tgt := 41) hx hb d_Main_going_37 (by decide) ?_
    exact J41 x2 x3 x4 x5 u6 (1 : Int32) M hk _ _ _ hP hS (lv_sub hl [0, 1, 2, 3, 4, 5] rfl)
  suffices hcl : (∀ (x3 : Int32) (x4 : Int32) (x5 : Int32) (u6 : Nat) (x9 : Int32) (M : Mem), wp_Main_going_119 X119 R x3 x4 x5 u6 x9 M → X119 x3 x4 x5 u6 x9 M) by
    have hk := h X119 hcl
    refine lv_aload_n hx hb d_Main_going_0 rfl (lv_at hl 0 rfl) ?_
    refine lv_iconst (v := 0) hx hb d_Main_going_1 (by decide) ?_
    refine pf_0_8 hI C hW hP hS fl_Main_68 d_Main_going_2 (fun M23 eM23 H locs hP hS => ?_)
    have hk := hk M23 eM23
    refine lv_aload_n hx hb d_Main_going_5 rfl (lv_at hl 0 rfl) ?_
    refine lv_iload_n hx hb d_Main_going_6 rfl (lv_at hl 1 rfl) ?_
    refine r_runO (k_V (As := [.int a1]) (rest := []) C hW hP (c_Main_sheetOf hI a1 M23 _ hk) cb_Main_sheetOf ml_Main_71 (io_0 g M23) ⟨by decide, by decide⟩ rfl hl.1 rfl (Nat.le_of_ble_eq_true rfl) d_Main_going_7 ⟨by decide, by decide⟩) hS (fun M24 H locs hk hP hS => ?_) (fun q25 M24 H locs hq25 hk hP hS => ?_)
    · have hk := hk.1 rfl
      refine lv_astoreN (lv' := [(6, .null), (0, .ref (g.2.2.2 0)), (1, .int a1), (2, .int a2), (3, .int a3), (4, .int a4), (5, .int a5)]) hx hb d_Main_going_10 hl (by decide) rfl (fun ls hl => ?_)
      refine lv_aloadN hx hb d_Main_going_12 (lv_at hl 0 rfl) ?_
      refine lv_ifnonnullN hx hb d_Main_going_14 ?_
      refine lv_iconst (v := -1) hx hb d_Main_going_17 (by decide) ?_
      exact r_iret C hr hlocks hP hS hk d_Main_going_18
    · have hk := hk.2 q25 rfl hq25
      refine lv_astore (lv' := [(6, .ref (g.2.2.2 (2 + q25))), (0, .ref (g.2.2.2 0)), (1, .int a1), (2, .int a2), (3, .int a3), (4, .int a4), (5, .int a5)]) hx hb d_Main_going_10 hl (by decide) rfl (fun ls hl => ?_)
      refine lv_aload hx hb d_Main_going_12 (lv_at hl 0 rfl) ?_
      refine lv_ifnonnull (tgt := 19) hx hb d_Main_going_14 (by decide) ?_
      refine lv_iload hx hb d_Main_going_19 (lv_at hl 6 rfl) ?_
      refine lv_if_eq (tgt := 36) hx hb d_Main_going_21 (by decide) (fun c27 => ?_) (fun c27 => ?_)
      · have hk := hk.1 c27
        exact J36 a2 a3 a4 a5 q25 M24 hk _ _ _ hP hS (lv_sub hl [1, 3, 4, 5, 6, 0] rfl)
      · have hk := hk.2 c27
        refine lv_iload hx hb d_Main_going_24 (lv_at hl 6 rfl) ?_
        refine lv_bipush (v := 10) hx hb d_Main_going_26 (by decide) ?_
        refine lv_isub hx hb d_Main_going_28 ?_
        refine lv_iconst (v := 5) hx hb d_Main_going_29 (by decide) ?_
        refine r_runZ (k_S (As := [.int (a5 - (10 : Int32)), .int (5 : Int32)]) (rest := []) C hW hP (c_Main_isBelow hI (a5 - (10 : Int32)) (5 : Int32) M24 _ hk) cb_Main_isBelow ml_Main_75 ⟨by decide, by decide⟩ rfl hl.1 rfl (Nat.le_of_ble_eq_true rfl) d_Main_going_30 ⟨by decide, by decide⟩) hS (fun r29 M28 H locs zr29 hk hP hS => ?_)
        refine lv_if_eq (tgt := 40) hx hb d_Main_going_33 (by decide) (fun c30 => ?_) (fun c30 => ?_)
        · have hk := hk.1 c30
          refine lv_iconst (v := 0) hx hb d_Main_going_40 (by decide) ?_
          exact J41 a2 a3 a4 a5 q25 (0 : Int32) M28 hk _ _ _ hP hS (lv_sub hl [1, 3, 4, 5, 6, 0] rfl)
        · have hk := hk.2 c30
          exact J36 a2 a3 a4 a5 q25 M28 hk _ _ _ hP hS (lv_sub hl [1, 3, 4, 5, 6, 0] rfl)
  · intro x3 x4 x5 u6 x9 M hk
    refine (eX119 x3 x4 x5 u6 x9 M).mpr ?_
    intro H locs ls hP hS hl
    unfold wp_Main_going_119 at hk
    obtain ⟨hu6, hk⟩ := hk
    refine lv_iload hx hb d_Main_going_119 (lv_at hl 5 rfl) ?_
    refine lv_iload hx hb d_Main_going_121 (lv_at hl 2 rfl) ?_
    refine lv_icmp_ge (tgt := 149) hx hb d_Main_going_123 (by decide) (fun c17 => ?_) (fun c17 => ?_)
    · have hk := hk.1 c17
      refine lv_iload hx hb d_Main_going_149 (lv_at hl 3 rfl) ?_
      refine lv_if_ne (tgt := 164) hx hb d_Main_going_151 (by decide) (fun c18 => ?_) (fun c18 => ?_)
      · have hk := hk.1 c18
        refine lv_aload_n hx hb d_Main_going_164 rfl (lv_at hl 0 rfl) ?_
        refine gf_0_3 C hW hP fl_Main_37 d_Main_going_165 ?_
        refine gf_18_2 C hW hP fl_Main_163 d_Main_going_168 ?_
        refine lv_iload hx hb d_Main_going_171 (lv_at hl 3 rfl) ?_
        refine lv_bipush (v := 10) hx hb d_Main_going_173 (by decide) ?_
        refine lv_isub hx hb d_Main_going_175 ?_
        obtain ⟨h19, hk⟩ := hk
        refine al_20 C hW hP h19 d_Main_going_176 ?_
        exact r_iret C hr hlocks hP hS hk d_Main_going_177
      · have hk := hk.2 c18
        refine lv_aload_n hx hb d_Main_going_154 rfl (lv_at hl 0 rfl) ?_
        refine gf_0_3 C hW hP fl_Main_37 d_Main_going_155 ?_
        refine gf_18_3 C hW hP fl_Main_160 d_Main_going_158 ?_
        refine lv_goto (tgt := 177) hx hb d_Main_going_161 (by decide) ?_
        exact r_iret C hr hlocks hP hS hk d_Main_going_177
    · have hk := hk.2 c17
      refine lv_aload_n hx hb d_Main_going_126 rfl (lv_at hl 0 rfl) ?_
      refine gf_0_3 C hW hP fl_Main_37 d_Main_going_127 ?_
      refine lv_aload hx hb d_Main_going_130 (lv_at hl 4 rfl) ?_
      refine gf_sh_0 hu6 C hW hP fl_Main_142 d_Main_going_132 ?_
      refine lv_iload_n hx hb d_Main_going_135 rfl (lv_at hl 1 rfl) ?_
      refine lv_iload hx hb d_Main_going_136 (lv_at hl 5 rfl) ?_
      refine lv_iadd hx hb d_Main_going_138 ?_
      obtain ⟨h20, hk⟩ := hk
      refine al_sh hu6 C hW hP h20 d_Main_going_139 ?_
      refine r_runV (k_V (As := [.int (M (6 + u6) (x3 + x9).toNatClampNeg)]) (rest := []) C hW hP (c_Walk_goAlone hI (M (6 + u6) (x3 + x9).toNatClampNeg) M _ hk) cb_Walk_goAlone ml_Main_156 (io_18 g M) ⟨by decide, by decide⟩ rfl hl.1 rfl (Nat.le_of_ble_eq_true rfl) d_Main_going_140 ⟨by decide, by decide⟩) hS (fun M21 H locs hk hP hS => ?_)
      obtain ⟨x9_22, ex9_22⟩ : ∃ y : Int32, y = x9 + (1 : Int32) := ⟨_, rfl⟩
      have hk := hk x9_22 ex9_22
      refine lv_iinc (v := x9_22) (lv' := [(9, .int x9_22), (0, .ref (g.2.2.2 0)), (3, .int x3), (4, .int x4), (5, .int x5), (6, .ref (g.2.2.2 (2 + u6)))]) hx hb d_Main_going_143 hl (k := 5) rfl (by rw [ex9_22]; rfl) (by decide) rfl (fun ls hl => ?_)
      refine lv_goto (tgt := 119) hx hb d_Main_going_146 (by decide) ?_
      exact (eX119 x3 x4 x5 u6 x9_22 M21).mp hk _ _ _ hP hS (lv_sub hl [1, 2, 3, 4, 5, 0] rfl)
theorem d_Int_bitCount_0 : decode b_Int_bitCount 0 = .ok (.iload_n 0, 1) := by decide +kernel
theorem d_Int_bitCount_1 : decode b_Int_bitCount 1 = .ok (.iload_n 0, 1) := by decide +kernel
theorem d_Int_bitCount_2 : decode b_Int_bitCount 2 = .ok (.iconst 1, 1) := by decide +kernel
theorem d_Int_bitCount_3 : decode b_Int_bitCount 3 = .ok (.iushr, 1) := by decide +kernel
theorem d_Int_bitCount_4 : decode b_Int_bitCount 4 = .ok (.ldc_w 265, 3) := by decide +kernel
theorem d_Int_bitCount_7 : decode b_Int_bitCount 7 = .ok (.iand, 1) := by decide +kernel
theorem d_Int_bitCount_8 : decode b_Int_bitCount 8 = .ok (.isub, 1) := by decide +kernel
theorem d_Int_bitCount_9 : decode b_Int_bitCount 9 = .ok (.istore_n 0, 1) := by decide +kernel
theorem d_Int_bitCount_10 : decode b_Int_bitCount 10 = .ok (.iload_n 0, 1) := by decide +kernel
theorem d_Int_bitCount_11 : decode b_Int_bitCount 11 = .ok (.ldc_w 266, 3) := by decide +kernel
theorem d_Int_bitCount_14 : decode b_Int_bitCount 14 = .ok (.iand, 1) := by decide +kernel
theorem d_Int_bitCount_15 : decode b_Int_bitCount 15 = .ok (.iload_n 0, 1) := by decide +kernel
theorem d_Int_bitCount_16 : decode b_Int_bitCount 16 = .ok (.iconst 2, 1) := by decide +kernel
theorem d_Int_bitCount_17 : decode b_Int_bitCount 17 = .ok (.iushr, 1) := by decide +kernel
theorem d_Int_bitCount_18 : decode b_Int_bitCount 18 = .ok (.ldc_w 266, 3) := by decide +kernel
theorem d_Int_bitCount_21 : decode b_Int_bitCount 21 = .ok (.iand, 1) := by decide +kernel
theorem d_Int_bitCount_22 : decode b_Int_bitCount 22 = .ok (.iadd, 1) := by decide +kernel
theorem d_Int_bitCount_23 : decode b_Int_bitCount 23 = .ok (.istore_n 0, 1) := by decide +kernel
theorem d_Int_bitCount_24 : decode b_Int_bitCount 24 = .ok (.iload_n 0, 1) := by decide +kernel
theorem d_Int_bitCount_25 : decode b_Int_bitCount 25 = .ok (.iload_n 0, 1) := by decide +kernel
theorem d_Int_bitCount_26 : decode b_Int_bitCount 26 = .ok (.iconst 4, 1) := by decide +kernel
theorem d_Int_bitCount_27 : decode b_Int_bitCount 27 = .ok (.iushr, 1) := by decide +kernel
theorem d_Int_bitCount_28 : decode b_Int_bitCount 28 = .ok (.iadd, 1) := by decide +kernel
theorem d_Int_bitCount_29 : decode b_Int_bitCount 29 = .ok (.ldc_w 267, 3) := by decide +kernel
theorem d_Int_bitCount_32 : decode b_Int_bitCount 32 = .ok (.iand, 1) := by decide +kernel
theorem d_Int_bitCount_33 : decode b_Int_bitCount 33 = .ok (.istore_n 0, 1) := by decide +kernel
theorem d_Int_bitCount_34 : decode b_Int_bitCount 34 = .ok (.iload_n 0, 1) := by decide +kernel
theorem d_Int_bitCount_35 : decode b_Int_bitCount 35 = .ok (.iload_n 0, 1) := by decide +kernel
theorem d_Int_bitCount_36 : decode b_Int_bitCount 36 = .ok (.bipush 8, 2) := by decide +kernel
theorem d_Int_bitCount_38 : decode b_Int_bitCount 38 = .ok (.iushr, 1) := by decide +kernel
theorem d_Int_bitCount_39 : decode b_Int_bitCount 39 = .ok (.iadd, 1) := by decide +kernel
theorem d_Int_bitCount_40 : decode b_Int_bitCount 40 = .ok (.istore_n 0, 1) := by decide +kernel
theorem d_Int_bitCount_41 : decode b_Int_bitCount 41 = .ok (.iload_n 0, 1) := by decide +kernel
theorem d_Int_bitCount_42 : decode b_Int_bitCount 42 = .ok (.iload_n 0, 1) := by decide +kernel
theorem d_Int_bitCount_43 : decode b_Int_bitCount 43 = .ok (.bipush 16, 2) := by decide +kernel
theorem d_Int_bitCount_45 : decode b_Int_bitCount 45 = .ok (.iushr, 1) := by decide +kernel
theorem d_Int_bitCount_46 : decode b_Int_bitCount 46 = .ok (.iadd, 1) := by decide +kernel
theorem d_Int_bitCount_47 : decode b_Int_bitCount 47 = .ok (.istore_n 0, 1) := by decide +kernel
theorem d_Int_bitCount_48 : decode b_Int_bitCount 48 = .ok (.iload_n 0, 1) := by decide +kernel
theorem d_Int_bitCount_49 : decode b_Int_bitCount 49 = .ok (.bipush 63, 2) := by decide +kernel
theorem d_Int_bitCount_51 : decode b_Int_bitCount 51 = .ok (.iand, 1) := by decide +kernel
theorem d_Int_bitCount_52 : decode b_Int_bitCount 52 = .ok (.ireturn, 1) := by decide +kernel
set_option maxRecDepth 20000 in
theorem c_Int_bitCount {l : Launch} {g : GG} (hI : WI g) (a0 : Int32) (M : Mem) (R : Int32 → Mem → Prop) (h : wp_Int_bitCount a0 M R) : Met l y_Int_bitCount (wm y_Int_bitCount b_Int_bitCount 1 (some .int)) (RM 0 0) (PP g M [.int a0]) (PQ g (RI R)) 0 0 (AW g) := by
  refine m_of (own := N_Int) (by decide) rfl (Nat.le_of_ble_eq_true rfl) ?_
  intro p e s m below meth c ls C hr hlocks hW hP hS hl
  obtain ⟨hx, hb, hml, hown, hts⟩ := id C
  have hl : lv_has ls 1 [(0, .int a0)] := hl
  unfold wp_Int_bitCount at h
  have hk := h
  refine lv_iload_n hx hb d_Int_bitCount_0 rfl (lv_at hl 0 rfl) ?_
  refine lv_iload_n hx hb d_Int_bitCount_1 rfl (lv_at hl 0 rfl) ?_
  refine lv_iconst (v := 1) hx hb d_Int_bitCount_2 (by decide) ?_
  refine lv_iushr hx hb d_Int_bitCount_3 rfl ?_
  refine lv_ldcw (v := 1431655765) hx hb hown (C.2.2.2.2 _ kc_Int_265) d_Int_bitCount_4 ?_
  refine lv_iand hx hb d_Int_bitCount_7 ?_
  refine lv_isub hx hb d_Int_bitCount_8 ?_
  refine lv_topi (fun x0_1 ex0_1 => ?_)
  have hk := hk x0_1 ex0_1
  refine lv_istore_n (lv' := [(0, .int x0_1)]) hx hb d_Int_bitCount_9 rfl hl (by decide) rfl (fun ls hl => ?_)
  refine lv_iload_n hx hb d_Int_bitCount_10 rfl (lv_at hl 0 rfl) ?_
  refine lv_ldcw (v := 858993459) hx hb hown (C.2.2.2.2 _ kc_Int_266) d_Int_bitCount_11 ?_
  refine lv_iand hx hb d_Int_bitCount_14 ?_
  refine lv_iload_n hx hb d_Int_bitCount_15 rfl (lv_at hl 0 rfl) ?_
  refine lv_iconst (v := 2) hx hb d_Int_bitCount_16 (by decide) ?_
  refine lv_iushr hx hb d_Int_bitCount_17 rfl ?_
  refine lv_ldcw (v := 858993459) hx hb hown (C.2.2.2.2 _ kc_Int_266) d_Int_bitCount_18 ?_
  refine lv_iand hx hb d_Int_bitCount_21 ?_
  refine lv_iadd hx hb d_Int_bitCount_22 ?_
  refine lv_topi (fun x0_2 ex0_2 => ?_)
  have hk := hk x0_2 ex0_2
  refine lv_istore_n (lv' := [(0, .int x0_2)]) hx hb d_Int_bitCount_23 rfl hl (by decide) rfl (fun ls hl => ?_)
  refine lv_iload_n hx hb d_Int_bitCount_24 rfl (lv_at hl 0 rfl) ?_
  refine lv_iload_n hx hb d_Int_bitCount_25 rfl (lv_at hl 0 rfl) ?_
  refine lv_iconst (v := 4) hx hb d_Int_bitCount_26 (by decide) ?_
  refine lv_iushr hx hb d_Int_bitCount_27 rfl ?_
  refine lv_iadd hx hb d_Int_bitCount_28 ?_
  refine lv_ldcw (v := 252645135) hx hb hown (C.2.2.2.2 _ kc_Int_267) d_Int_bitCount_29 ?_
  refine lv_iand hx hb d_Int_bitCount_32 ?_
  refine lv_topi (fun x0_3 ex0_3 => ?_)
  have hk := hk x0_3 ex0_3
  refine lv_istore_n (lv' := [(0, .int x0_3)]) hx hb d_Int_bitCount_33 rfl hl (by decide) rfl (fun ls hl => ?_)
  refine lv_iload_n hx hb d_Int_bitCount_34 rfl (lv_at hl 0 rfl) ?_
  refine lv_iload_n hx hb d_Int_bitCount_35 rfl (lv_at hl 0 rfl) ?_
  refine lv_bipush (v := 8) hx hb d_Int_bitCount_36 (by decide) ?_
  refine lv_iushr hx hb d_Int_bitCount_38 rfl ?_
  refine lv_iadd hx hb d_Int_bitCount_39 ?_
  refine lv_topi (fun x0_4 ex0_4 => ?_)
  have hk := hk x0_4 ex0_4
  refine lv_istore_n (lv' := [(0, .int x0_4)]) hx hb d_Int_bitCount_40 rfl hl (by decide) rfl (fun ls hl => ?_)
  refine lv_iload_n hx hb d_Int_bitCount_41 rfl (lv_at hl 0 rfl) ?_
  refine lv_iload_n hx hb d_Int_bitCount_42 rfl (lv_at hl 0 rfl) ?_
  refine lv_bipush (v := 16) hx hb d_Int_bitCount_43 (by decide) ?_
  refine lv_iushr hx hb d_Int_bitCount_45 rfl ?_
  refine lv_iadd hx hb d_Int_bitCount_46 ?_
  refine lv_topi (fun x0_5 ex0_5 => ?_)
  have hk := hk x0_5 ex0_5
  refine lv_istore_n (lv' := [(0, .int x0_5)]) hx hb d_Int_bitCount_47 rfl hl (by decide) rfl (fun ls hl => ?_)
  refine lv_iload_n hx hb d_Int_bitCount_48 rfl (lv_at hl 0 rfl) ?_
  refine lv_bipush (v := 63) hx hb d_Int_bitCount_49 (by decide) ?_
  refine lv_iand hx hb d_Int_bitCount_51 ?_
  exact r_iret C hr hlocks hP hS hk d_Int_bitCount_52
theorem d_Way_firstNotPassedBy_0 : decode b_Way_firstNotPassedBy 0 = .ok (.iconst 0, 1) := by decide +kernel
theorem d_Way_firstNotPassedBy_1 : decode b_Way_firstNotPassedBy 1 = .ok (.istore_n 2, 1) := by decide +kernel
theorem d_Way_firstNotPassedBy_2 : decode b_Way_firstNotPassedBy 2 = .ok (.iload_n 2, 1) := by decide +kernel
theorem d_Way_firstNotPassedBy_3 : decode b_Way_firstNotPassedBy 3 = .ok (.aload_n 0, 1) := by decide +kernel
theorem d_Way_firstNotPassedBy_4 : decode b_Way_firstNotPassedBy 4 = .ok (.getfield 27, 3) := by decide +kernel
theorem d_Way_firstNotPassedBy_7 : decode b_Way_firstNotPassedBy 7 = .ok (.if_icmp .ge 23, 3) := by decide +kernel
theorem d_Way_firstNotPassedBy_10 : decode b_Way_firstNotPassedBy 10 = .ok (.aload_n 0, 1) := by decide +kernel
theorem d_Way_firstNotPassedBy_11 : decode b_Way_firstNotPassedBy 11 = .ok (.iload_n 2, 1) := by decide +kernel
theorem d_Way_firstNotPassedBy_12 : decode b_Way_firstNotPassedBy 12 = .ok (.iload_n 1, 1) := by decide +kernel
theorem d_Way_firstNotPassedBy_13 : decode b_Way_firstNotPassedBy 13 = .ok (.iconst 0, 1) := by decide +kernel
theorem d_Way_firstNotPassedBy_14 : decode b_Way_firstNotPassedBy 14 = .ok (.invokevirtual 56, 3) := by decide +kernel
theorem d_Way_firstNotPassedBy_17 : decode b_Way_firstNotPassedBy 17 = .ok (.bipush (-9), 2) := by decide +kernel
theorem d_Way_firstNotPassedBy_19 : decode b_Way_firstNotPassedBy 19 = .ok (.if_icmp .ne 5, 3) := by decide +kernel
theorem d_Way_firstNotPassedBy_22 : decode b_Way_firstNotPassedBy 22 = .ok (.iload_n 2, 1) := by decide +kernel
theorem d_Way_firstNotPassedBy_23 : decode b_Way_firstNotPassedBy 23 = .ok (.ireturn, 1) := by decide +kernel
theorem d_Way_firstNotPassedBy_24 : decode b_Way_firstNotPassedBy 24 = .ok (.iinc 2 1, 3) := by decide +kernel
theorem d_Way_firstNotPassedBy_27 : decode b_Way_firstNotPassedBy 27 = .ok (.goto (-25), 3) := by decide +kernel
theorem d_Way_firstNotPassedBy_30 : decode b_Way_firstNotPassedBy 30 = .ok (.bipush (-9), 2) := by decide +kernel
theorem d_Way_firstNotPassedBy_32 : decode b_Way_firstNotPassedBy 32 = .ok (.ireturn, 1) := by decide +kernel
set_option maxRecDepth 20000 in
theorem c_Way_firstNotPassedBy {l : Launch} {g : GG} (hI : WI g) (a1 : Int32) (M : Mem) (R : Int32 → Mem → Prop) (h : wp_Way_firstNotPassedBy a1 M R) : Met l y_Way_firstNotPassedBy (wm y_Way_firstNotPassedBy b_Way_firstNotPassedBy 3 (some .int)) (RM 1 27) (PP g M [.ref (g.2.2.2 12), .int a1]) (PQ g (RI R)) 0 0 (AW g) := by
  refine m_of (own := N_Way) (by decide) rfl (Nat.le_of_ble_eq_true rfl) ?_
  intro p e s m below meth c ls C hr hlocks hW hP hS hl
  obtain ⟨hx, hb, hml, hown, hts⟩ := id C
  have hl : lv_has ls 3 [(0, .ref (g.2.2.2 12)), (1, .int a1)] := hl
  unfold wp_Way_firstNotPassedBy at h
  obtain ⟨X2, eX2⟩ : ∃ X : Int32 → Int32 → Mem → Prop, ∀ (x1 : Int32) (x2 : Int32) (M : Mem), X x1 x2 M ↔ (∀ (H : Heap) (locs : List Loc) (ls : Array Slot), WP g M H → va_S (AW g) s.heap H locs → lv_has ls 3 [(0, .ref (g.2.2.2 12)), (1, .int x1), (2, .int x2)] → W p l e (RM 1 27) s m ([.ref (g.2.2.2 12), .int a1] : List Value).toArray below meth c H locs 0 0 (MQ below (PQ g (RI R)) ([.ref (g.2.2.2 12), .int a1] : List Value).toArray s 0 0 (AW g)) (F0 m 2 ls [])) := ⟨fun x1 x2 M => _, fun _ _ _ => Iff.rfl⟩
  suffices hcl : (∀ (x1 : Int32) (x2 : Int32) (M : Mem), wp_Way_firstNotPassedBy_2 X2 R x1 x2 M → X2 x1 x2 M) by
    have hk := h X2 hcl
    refine lv_iconst (v := 0) hx hb d_Way_firstNotPassedBy_0 (by decide) ?_
    refine lv_istore_n (lv' := [(2, .int (0 : Int32)), (0, .ref (g.2.2.2 12)), (1, .int a1)]) hx hb d_Way_firstNotPassedBy_1 rfl hl (by decide) rfl (fun ls hl => ?_)
    exact (eX2 a1 (0 : Int32) M).mp hk _ _ _ hP hS (lv_sub hl [1, 2, 0] rfl)
  · intro x1 x2 M hk
    refine (eX2 x1 x2 M).mpr ?_
    intro H locs ls hP hS hl
    unfold wp_Way_firstNotPassedBy_2 at hk
    refine lv_iload_n hx hb d_Way_firstNotPassedBy_2 rfl (lv_at hl 2 rfl) ?_
    refine lv_aload_n hx hb d_Way_firstNotPassedBy_3 rfl (lv_at hl 0 rfl) ?_
    refine gf_12_5 C hW hP fl_Way_27 d_Way_firstNotPassedBy_4 ?_
    refine lv_icmp_ge (tgt := 30) hx hb d_Way_firstNotPassedBy_7 (by decide) (fun c1 => ?_) (fun c1 => ?_)
    · have hk := hk.1 c1
      refine lv_bipush (v := -9) hx hb d_Way_firstNotPassedBy_30 (by decide) ?_
      exact r_iret C hr hlocks hP hS hk d_Way_firstNotPassedBy_32
    · have hk := hk.2 c1
      refine lv_aload_n hx hb d_Way_firstNotPassedBy_10 rfl (lv_at hl 0 rfl) ?_
      refine lv_iload_n hx hb d_Way_firstNotPassedBy_11 rfl (lv_at hl 2 rfl) ?_
      refine lv_iload_n hx hb d_Way_firstNotPassedBy_12 rfl (lv_at hl 1 rfl) ?_
      refine lv_iconst (v := 0) hx hb d_Way_firstNotPassedBy_13 (by decide) ?_
      refine r_runI (k_V (As := [.int x2, .int x1, .int (0 : Int32)]) (rest := []) C hW hP (c_Way_usedIn hI x2 x1 (0 : Int32) M _ hk) cb_Way_usedIn ml_Way_56 (io_12 g M) ⟨by decide, by decide⟩ rfl hl.1 rfl (Nat.le_of_ble_eq_true rfl) d_Way_firstNotPassedBy_14 ⟨by decide, by decide⟩) hS (fun r3 M2 H locs hk hP hS => ?_)
      refine lv_bipush (v := -9) hx hb d_Way_firstNotPassedBy_17 (by decide) ?_
      refine lv_icmp_ne (tgt := 24) hx hb d_Way_firstNotPassedBy_19 (by decide) (fun c4 => ?_) (fun c4 => ?_)
      · have hk := hk.1 c4
        obtain ⟨x2_5, ex2_5⟩ : ∃ y : Int32, y = x2 + (1 : Int32) := ⟨_, rfl⟩
        have hk := hk x2_5 ex2_5
        refine lv_iinc (v := x2_5) (lv' := [(2, .int x2_5), (0, .ref (g.2.2.2 12)), (1, .int x1)]) hx hb d_Way_firstNotPassedBy_24 hl (k := 2) rfl (by rw [ex2_5]; rfl) (by decide) rfl (fun ls hl => ?_)
        refine lv_goto (tgt := 2) hx hb d_Way_firstNotPassedBy_27 (by decide) ?_
        exact (eX2 x1 x2_5 M2).mp hk _ _ _ hP hS (lv_sub hl [1, 2, 0] rfl)
      · have hk := hk.2 c4
        refine lv_iload_n hx hb d_Way_firstNotPassedBy_22 rfl (lv_at hl 2 rfl) ?_
        exact r_iret C hr hlocks hP hS hk d_Way_firstNotPassedBy_23
theorem d_Way_leastGear_0 : decode b_Way_leastGear 0 = .ok (.bipush (-9), 2) := by decide +kernel
theorem d_Way_leastGear_2 : decode b_Way_leastGear 2 = .ok (.istore_n 1, 1) := by decide +kernel
theorem d_Way_leastGear_3 : decode b_Way_leastGear 3 = .ok (.bipush 7, 2) := by decide +kernel
theorem d_Way_leastGear_5 : decode b_Way_leastGear 5 = .ok (.istore_n 2, 1) := by decide +kernel
theorem d_Way_leastGear_6 : decode b_Way_leastGear 6 = .ok (.iconst 0, 1) := by decide +kernel
theorem d_Way_leastGear_7 : decode b_Way_leastGear 7 = .ok (.istore_n 3, 1) := by decide +kernel
theorem d_Way_leastGear_8 : decode b_Way_leastGear 8 = .ok (.iload_n 3, 1) := by decide +kernel
theorem d_Way_leastGear_9 : decode b_Way_leastGear 9 = .ok (.bipush 64, 2) := by decide +kernel
theorem d_Way_leastGear_11 : decode b_Way_leastGear 11 = .ok (.if_icmp .ge 36, 3) := by decide +kernel
theorem d_Way_leastGear_14 : decode b_Way_leastGear 14 = .ok (.iload_n 3, 1) := by decide +kernel
theorem d_Way_leastGear_15 : decode b_Way_leastGear 15 = .ok (.invokestatic 60, 3) := by decide +kernel
theorem d_Way_leastGear_18 : decode b_Way_leastGear 18 = .ok (.istore 4, 2) := by decide +kernel
theorem d_Way_leastGear_20 : decode b_Way_leastGear 20 = .ok (.iload 4, 2) := by decide +kernel
theorem d_Way_leastGear_22 : decode b_Way_leastGear 22 = .ok (.iload_n 2, 1) := by decide +kernel
theorem d_Way_leastGear_23 : decode b_Way_leastGear 23 = .ok (.if_icmp .ge 18, 3) := by decide +kernel
theorem d_Way_leastGear_26 : decode b_Way_leastGear 26 = .ok (.aload_n 0, 1) := by decide +kernel
theorem d_Way_leastGear_27 : decode b_Way_leastGear 27 = .ok (.iload_n 3, 1) := by decide +kernel
theorem d_Way_leastGear_28 : decode b_Way_leastGear 28 = .ok (.invokevirtual 65, 3) := by decide +kernel
theorem d_Way_leastGear_31 : decode b_Way_leastGear 31 = .ok (.bipush (-9), 2) := by decide +kernel
theorem d_Way_leastGear_33 : decode b_Way_leastGear 33 = .ok (.if_icmp .ne 8, 3) := by decide +kernel
theorem d_Way_leastGear_36 : decode b_Way_leastGear 36 = .ok (.iload_n 3, 1) := by decide +kernel
theorem d_Way_leastGear_37 : decode b_Way_leastGear 37 = .ok (.istore_n 1, 1) := by decide +kernel
theorem d_Way_leastGear_38 : decode b_Way_leastGear 38 = .ok (.iload 4, 2) := by decide +kernel
theorem d_Way_leastGear_40 : decode b_Way_leastGear 40 = .ok (.istore_n 2, 1) := by decide +kernel
theorem d_Way_leastGear_41 : decode b_Way_leastGear 41 = .ok (.iinc 3 1, 3) := by decide +kernel
theorem d_Way_leastGear_44 : decode b_Way_leastGear 44 = .ok (.goto (-36), 3) := by decide +kernel
theorem d_Way_leastGear_47 : decode b_Way_leastGear 47 = .ok (.iload_n 1, 1) := by decide +kernel
theorem d_Way_leastGear_48 : decode b_Way_leastGear 48 = .ok (.ireturn, 1) := by decide +kernel
set_option maxRecDepth 20000 in
theorem c_Way_leastGear {l : Launch} {g : GG} (hI : WI g) (M : Mem) (R : Int32 → Mem → Prop) (h : wp_Way_leastGear  M R) : Met l y_Way_leastGear (wm y_Way_leastGear b_Way_leastGear 5 (some .int)) (RM 2 49) (PP g M [.ref (g.2.2.2 12)]) (PQ g (RI R)) 0 0 (AW g) := by
  refine m_of (own := N_Way) (by decide) rfl (Nat.le_of_ble_eq_true rfl) ?_
  intro p e s m below meth c ls C hr hlocks hW hP hS hl
  obtain ⟨hx, hb, hml, hown, hts⟩ := id C
  have hl : lv_has ls 5 [(0, .ref (g.2.2.2 12))] := hl
  unfold wp_Way_leastGear at h
  obtain ⟨X8, eX8⟩ : ∃ X : Int32 → Int32 → Int32 → Mem → Prop, ∀ (x1 : Int32) (x2 : Int32) (x3 : Int32) (M : Mem), X x1 x2 x3 M ↔ (∀ (H : Heap) (locs : List Loc) (ls : Array Slot), WP g M H → va_S (AW g) s.heap H locs → lv_has ls 5 [(0, .ref (g.2.2.2 12)), (1, .int x1), (2, .int x2), (3, .int x3)] → W p l e (RM 2 49) s m ([.ref (g.2.2.2 12)] : List Value).toArray below meth c H locs 0 0 (MQ below (PQ g (RI R)) ([.ref (g.2.2.2 12)] : List Value).toArray s 0 0 (AW g)) (F0 m 8 ls [])) := ⟨fun x1 x2 x3 M => _, fun _ _ _ _ => Iff.rfl⟩
  have J41 : ∀ (x1 : Int32) (x2 : Int32) (x3 : Int32) (M : Mem), wp_Way_leastGear_41 X8 R x1 x2 x3 M → ∀ (H : Heap) (locs : List Loc) (ls : Array Slot), WP g M H → va_S (AW g) s.heap H locs → lv_has ls 5 [(0, .ref (g.2.2.2 12)), (1, .int x1), (2, .int x2), (3, .int x3)] → W p l e (RM 2 49) s m ([.ref (g.2.2.2 12)] : List Value).toArray below meth c H locs 0 0 (MQ below (PQ g (RI R)) ([.ref (g.2.2.2 12)] : List Value).toArray s 0 0 (AW g)) (F0 m 41 ls []) := by
    intro x1 x2 x3 M hk H locs ls hP hS hl
    unfold wp_Way_leastGear_41 at hk
    obtain ⟨x3_8, ex3_8⟩ : ∃ y : Int32, y = x3 + (1 : Int32) := ⟨_, rfl⟩
    have hk := hk x3_8 ex3_8
    refine lv_iinc (v := x3_8) (lv' := [(3, .int x3_8), (0, .ref (g.2.2.2 12)), (1, .int x1), (2, .int x2)]) hx hb d_Way_leastGear_41 hl (k := 3) rfl (by rw [ex3_8]; rfl) (by decide) rfl (fun ls hl => ?_)
    refine lv_goto (tgt := 8) hx hb d_Way_leastGear_44 (by decide) ?_
    exact (eX8 x1 x2 x3_8 M).mp hk _ _ _ hP hS (lv_sub hl [1, 2, 3, 0] rfl)
  suffices hcl : (∀ (x1 : Int32) (x2 : Int32) (x3 : Int32) (M : Mem), wp_Way_leastGear_8 X8 R x1 x2 x3 M → X8 x1 x2 x3 M) by
    have hk := h X8 hcl
    refine lv_bipush (v := -9) hx hb d_Way_leastGear_0 (by decide) ?_
    refine lv_istore_n (lv' := [(1, .int (-9 : Int32)), (0, .ref (g.2.2.2 12))]) hx hb d_Way_leastGear_2 rfl hl (by decide) rfl (fun ls hl => ?_)
    refine lv_bipush (v := 7) hx hb d_Way_leastGear_3 (by decide) ?_
    refine lv_istore_n (lv' := [(2, .int (7 : Int32)), (1, .int (-9 : Int32)), (0, .ref (g.2.2.2 12))]) hx hb d_Way_leastGear_5 rfl hl (by decide) rfl (fun ls hl => ?_)
    refine lv_iconst (v := 0) hx hb d_Way_leastGear_6 (by decide) ?_
    refine lv_istore_n (lv' := [(3, .int (0 : Int32)), (2, .int (7 : Int32)), (1, .int (-9 : Int32)), (0, .ref (g.2.2.2 12))]) hx hb d_Way_leastGear_7 rfl hl (by decide) rfl (fun ls hl => ?_)
    exact (eX8 (-9 : Int32) (7 : Int32) (0 : Int32) M).mp hk _ _ _ hP hS (lv_sub hl [3, 2, 1, 0] rfl)
  · intro x1 x2 x3 M hk
    refine (eX8 x1 x2 x3 M).mpr ?_
    intro H locs ls hP hS hl
    unfold wp_Way_leastGear_8 at hk
    refine lv_iload_n hx hb d_Way_leastGear_8 rfl (lv_at hl 3 rfl) ?_
    refine lv_bipush (v := 64) hx hb d_Way_leastGear_9 (by decide) ?_
    refine lv_icmp_ge (tgt := 47) hx hb d_Way_leastGear_11 (by decide) (fun c1 => ?_) (fun c1 => ?_)
    · have hk := hk.1 c1
      refine lv_iload_n hx hb d_Way_leastGear_47 rfl (lv_at hl 1 rfl) ?_
      exact r_iret C hr hlocks hP hS hk d_Way_leastGear_48
    · have hk := hk.2 c1
      refine lv_iload_n hx hb d_Way_leastGear_14 rfl (lv_at hl 3 rfl) ?_
      refine r_runI (k_S (As := [.int x3]) (rest := []) C hW hP (c_Int_bitCount hI x3 M _ hk) cb_Int_bitCount ml_Way_60 ⟨by decide, by decide⟩ rfl hl.1 rfl (Nat.le_of_ble_eq_true rfl) d_Way_leastGear_15 ⟨by decide, by decide⟩) hS (fun r3 M2 H locs hk hP hS => ?_)
      refine lv_istore (lv' := [(4, .int r3), (0, .ref (g.2.2.2 12)), (1, .int x1), (2, .int x2), (3, .int x3)]) hx hb d_Way_leastGear_18 hl (by decide) rfl (fun ls hl => ?_)
      refine lv_iload hx hb d_Way_leastGear_20 (lv_at hl 0 rfl) ?_
      refine lv_iload_n hx hb d_Way_leastGear_22 rfl (lv_at hl 3 rfl) ?_
      refine lv_icmp_ge (tgt := 41) hx hb d_Way_leastGear_23 (by decide) (fun c4 => ?_) (fun c4 => ?_)
      · have hk := hk.1 c4
        exact J41 x1 x2 x3 M2 hk _ _ _ hP hS (lv_sub hl [1, 2, 3, 4] rfl)
      · have hk := hk.2 c4
        refine lv_aload_n hx hb d_Way_leastGear_26 rfl (lv_at hl 1 rfl) ?_
        refine lv_iload_n hx hb d_Way_leastGear_27 rfl (lv_at hl 4 rfl) ?_
        refine r_runI (k_V (As := [.int x3]) (rest := []) C hW hP (c_Way_firstNotPassedBy hI x3 M2 _ hk) cb_Way_firstNotPassedBy ml_Way_65 (io_12 g M2) ⟨by decide, by decide⟩ rfl hl.1 rfl (Nat.le_of_ble_eq_true rfl) d_Way_leastGear_28 ⟨by decide, by decide⟩) hS (fun r6 M5 H locs hk hP hS => ?_)
        refine lv_bipush (v := -9) hx hb d_Way_leastGear_31 (by decide) ?_
        refine lv_icmp_ne (tgt := 41) hx hb d_Way_leastGear_33 (by decide) (fun c7 => ?_) (fun c7 => ?_)
        · have hk := hk.1 c7
          exact J41 x1 x2 x3 M5 hk _ _ _ hP hS (lv_sub hl [1, 2, 3, 4] rfl)
        · have hk := hk.2 c7
          refine lv_iload_n hx hb d_Way_leastGear_36 rfl (lv_at hl 4 rfl) ?_
          refine lv_istore_n (lv' := [(1, .int x3), (4, .int r3), (0, .ref (g.2.2.2 12)), (2, .int x2), (3, .int x3)]) hx hb d_Way_leastGear_37 rfl hl (by decide) rfl (fun ls hl => ?_)
          refine lv_iload hx hb d_Way_leastGear_38 (lv_at hl 1 rfl) ?_
          refine lv_istore_n (lv' := [(2, .int r3), (1, .int x3), (4, .int r3), (0, .ref (g.2.2.2 12)), (3, .int x3)]) hx hb d_Way_leastGear_40 rfl hl (by decide) rfl (fun ls hl => ?_)
          exact J41 x3 r3 x3 M5 hk _ _ _ hP hS (lv_sub hl [3, 1, 0, 4] rfl)
theorem d_Main_least_0 : decode b_Main_least 0 = .ok (.aload_n 0, 1) := by decide +kernel
theorem d_Main_least_1 : decode b_Main_least 1 = .ok (.getfield 28, 3) := by decide +kernel
theorem d_Main_least_4 : decode b_Main_least 4 = .ok (.invokevirtual 131, 3) := by decide +kernel
theorem d_Main_least_7 : decode b_Main_least 7 = .ok (.ifCond .eq 13, 3) := by decide +kernel
theorem d_Main_least_10 : decode b_Main_least 10 = .ok (.aload_n 0, 1) := by decide +kernel
theorem d_Main_least_11 : decode b_Main_least 11 = .ok (.getfield 28, 3) := by decide +kernel
theorem d_Main_least_14 : decode b_Main_least 14 = .ok (.invokevirtual 166, 3) := by decide +kernel
theorem d_Main_least_17 : decode b_Main_least 17 = .ok (.goto 5, 3) := by decide +kernel
theorem d_Main_least_20 : decode b_Main_least 20 = .ok (.bipush (-3), 2) := by decide +kernel
theorem d_Main_least_22 : decode b_Main_least 22 = .ok (.ireturn, 1) := by decide +kernel
set_option maxRecDepth 20000 in
theorem c_Main_least {l : Launch} {g : GG} (hI : WI g) (M : Mem) (R : Int32 → Mem → Prop) (h : wp_Main_least  M R) : Met l y_Main_least (wm y_Main_least b_Main_least 1 (some .int)) (RM 3 73) (PP g M [.ref (g.2.2.2 0)]) (PQ g (RI R)) 0 0 (AW g) := by
  refine m_of (own := N_Main) (by decide) rfl (Nat.le_of_ble_eq_true rfl) ?_
  intro p e s m below meth c ls C hr hlocks hW hP hS hl
  obtain ⟨hx, hb, hml, hown, hts⟩ := id C
  have hl : lv_has ls 1 [(0, .ref (g.2.2.2 0))] := hl
  unfold wp_Main_least at h
  have hk := h
  refine lv_aload_n hx hb d_Main_least_0 rfl (lv_at hl 0 rfl) ?_
  refine gf_0_2 C hW hP fl_Main_28 d_Main_least_1 ?_
  refine r_runZ (k_V (As := []) (rest := []) C hW hP (c_Way_isTold hI M _ hk) cb_Way_isTold ml_Main_131 (io_12 g M) ⟨by decide, by decide⟩ rfl hl.1 rfl (Nat.le_of_ble_eq_true rfl) d_Main_least_4 ⟨by decide, by decide⟩) hS (fun r2 M1 H locs zr2 hk hP hS => ?_)
  refine lv_if_eq (tgt := 20) hx hb d_Main_least_7 (by decide) (fun c3 => ?_) (fun c3 => ?_)
  · have hk := hk.1 c3
    refine lv_bipush (v := -3) hx hb d_Main_least_20 (by decide) ?_
    exact r_iret C hr hlocks hP hS hk d_Main_least_22
  · have hk := hk.2 c3
    refine lv_aload_n hx hb d_Main_least_10 rfl (lv_at hl 0 rfl) ?_
    refine gf_0_2 C hW hP fl_Main_28 d_Main_least_11 ?_
    refine r_runI (k_V (As := []) (rest := []) C hW hP (c_Way_leastGear hI M1 _ hk) cb_Way_leastGear ml_Main_166 (io_12 g M1) ⟨by decide, by decide⟩ rfl hl.1 rfl (Nat.le_of_ble_eq_true rfl) d_Main_least_14 ⟨by decide, by decide⟩) hS (fun r5 M4 H locs hk hP hS => ?_)
    refine lv_goto (tgt := 22) hx hb d_Main_least_17 (by decide) ?_
    exact r_iret C hr hlocks hP hS hk d_Main_least_22
theorem d_Main_hard_0 : decode b_Main_hard 0 = .ok (.aload_n 0, 1) := by decide +kernel
theorem d_Main_hard_1 : decode b_Main_hard 1 = .ok (.getfield 28, 3) := by decide +kernel
theorem d_Main_hard_4 : decode b_Main_hard 4 = .ok (.invokevirtual 131, 3) := by decide +kernel
theorem d_Main_hard_7 : decode b_Main_hard 7 = .ok (.ifCond .eq 15, 3) := by decide +kernel
theorem d_Main_hard_10 : decode b_Main_hard 10 = .ok (.aload_n 0, 1) := by decide +kernel
theorem d_Main_hard_11 : decode b_Main_hard 11 = .ok (.getfield 28, 3) := by decide +kernel
theorem d_Main_hard_14 : decode b_Main_hard 14 = .ok (.bipush 63, 2) := by decide +kernel
theorem d_Main_hard_16 : decode b_Main_hard 16 = .ok (.invokevirtual 169, 3) := by decide +kernel
theorem d_Main_hard_19 : decode b_Main_hard 19 = .ok (.goto 5, 3) := by decide +kernel
theorem d_Main_hard_22 : decode b_Main_hard 22 = .ok (.bipush (-3), 2) := by decide +kernel
theorem d_Main_hard_24 : decode b_Main_hard 24 = .ok (.ireturn, 1) := by decide +kernel
set_option maxRecDepth 20000 in
theorem c_Main_hard {l : Launch} {g : GG} (hI : WI g) (M : Mem) (R : Int32 → Mem → Prop) (h : wp_Main_hard  M R) : Met l y_Main_hard (wm y_Main_hard b_Main_hard 1 (some .int)) (RM 2 49) (PP g M [.ref (g.2.2.2 0)]) (PQ g (RI R)) 0 0 (AW g) := by
  refine m_of (own := N_Main) (by decide) rfl (Nat.le_of_ble_eq_true rfl) ?_
  intro p e s m below meth c ls C hr hlocks hW hP hS hl
  obtain ⟨hx, hb, hml, hown, hts⟩ := id C
  have hl : lv_has ls 1 [(0, .ref (g.2.2.2 0))] := hl
  unfold wp_Main_hard at h
  have hk := h
  refine lv_aload_n hx hb d_Main_hard_0 rfl (lv_at hl 0 rfl) ?_
  refine gf_0_2 C hW hP fl_Main_28 d_Main_hard_1 ?_
  refine r_runZ (k_V (As := []) (rest := []) C hW hP (c_Way_isTold hI M _ hk) cb_Way_isTold ml_Main_131 (io_12 g M) ⟨by decide, by decide⟩ rfl hl.1 rfl (Nat.le_of_ble_eq_true rfl) d_Main_hard_4 ⟨by decide, by decide⟩) hS (fun r2 M1 H locs zr2 hk hP hS => ?_)
  refine lv_if_eq (tgt := 22) hx hb d_Main_hard_7 (by decide) (fun c3 => ?_) (fun c3 => ?_)
  · have hk := hk.1 c3
    refine lv_bipush (v := -3) hx hb d_Main_hard_22 (by decide) ?_
    exact r_iret C hr hlocks hP hS hk d_Main_hard_24
  · have hk := hk.2 c3
    refine lv_aload_n hx hb d_Main_hard_10 rfl (lv_at hl 0 rfl) ?_
    refine gf_0_2 C hW hP fl_Main_28 d_Main_hard_11 ?_
    refine lv_bipush (v := 63) hx hb d_Main_hard_14 (by decide) ?_
    refine r_runI (k_V (As := [.int (63 : Int32)]) (rest := []) C hW hP (c_Way_firstNotPassedBy hI (63 : Int32) M1 _ hk) cb_Way_firstNotPassedBy ml_Main_169 (io_12 g M1) ⟨by decide, by decide⟩ rfl hl.1 rfl (Nat.le_of_ble_eq_true rfl) d_Main_hard_16 ⟨by decide, by decide⟩) hS (fun r5 M4 H locs hk hP hS => ?_)
    refine lv_goto (tgt := 24) hx hb d_Main_hard_19 (by decide) ?_
    exact r_iret C hr hlocks hP hS hk d_Main_hard_24
theorem d_Orders_begin_0 : decode b_Orders_begin 0 = .ok (.aload_n 0, 1) := by decide +kernel
theorem d_Orders_begin_1 : decode b_Orders_begin 1 = .ok (.iload_n 1, 1) := by decide +kernel
theorem d_Orders_begin_2 : decode b_Orders_begin 2 = .ok (.putfield 15, 3) := by decide +kernel
theorem d_Orders_begin_5 : decode b_Orders_begin 5 = .ok (.iconst 1, 1) := by decide +kernel
theorem d_Orders_begin_6 : decode b_Orders_begin 6 = .ok (.istore_n 2, 1) := by decide +kernel
theorem d_Orders_begin_7 : decode b_Orders_begin 7 = .ok (.iconst 0, 1) := by decide +kernel
theorem d_Orders_begin_8 : decode b_Orders_begin 8 = .ok (.istore_n 3, 1) := by decide +kernel
theorem d_Orders_begin_9 : decode b_Orders_begin 9 = .ok (.iload_n 3, 1) := by decide +kernel
theorem d_Orders_begin_10 : decode b_Orders_begin 10 = .ok (.aload_n 0, 1) := by decide +kernel
theorem d_Orders_begin_11 : decode b_Orders_begin 11 = .ok (.getfield 15, 3) := by decide +kernel
theorem d_Orders_begin_14 : decode b_Orders_begin 14 = .ok (.if_icmp .ge 22, 3) := by decide +kernel
theorem d_Orders_begin_17 : decode b_Orders_begin 17 = .ok (.aload_n 0, 1) := by decide +kernel
theorem d_Orders_begin_18 : decode b_Orders_begin 18 = .ok (.getfield 9, 3) := by decide +kernel
theorem d_Orders_begin_21 : decode b_Orders_begin 21 = .ok (.iload_n 3, 1) := by decide +kernel
theorem d_Orders_begin_22 : decode b_Orders_begin 22 = .ok (.iload_n 3, 1) := by decide +kernel
theorem d_Orders_begin_23 : decode b_Orders_begin 23 = .ok (.iastore, 1) := by decide +kernel
theorem d_Orders_begin_24 : decode b_Orders_begin 24 = .ok (.iload_n 2, 1) := by decide +kernel
theorem d_Orders_begin_25 : decode b_Orders_begin 25 = .ok (.iload_n 3, 1) := by decide +kernel
theorem d_Orders_begin_26 : decode b_Orders_begin 26 = .ok (.iconst 1, 1) := by decide +kernel
theorem d_Orders_begin_27 : decode b_Orders_begin 27 = .ok (.iadd, 1) := by decide +kernel
theorem d_Orders_begin_28 : decode b_Orders_begin 28 = .ok (.imul, 1) := by decide +kernel
theorem d_Orders_begin_29 : decode b_Orders_begin 29 = .ok (.istore_n 2, 1) := by decide +kernel
theorem d_Orders_begin_30 : decode b_Orders_begin 30 = .ok (.iinc 3 1, 3) := by decide +kernel
theorem d_Orders_begin_33 : decode b_Orders_begin 33 = .ok (.goto (-24), 3) := by decide +kernel
theorem d_Orders_begin_36 : decode b_Orders_begin 36 = .ok (.iload_n 2, 1) := by decide +kernel
theorem d_Orders_begin_37 : decode b_Orders_begin 37 = .ok (.ireturn, 1) := by decide +kernel
set_option maxRecDepth 20000 in
theorem c_Orders_begin {l : Launch} {g : GG} (hI : WI g) (a1 : Int32) (M : Mem) (R : Int32 → Mem → Prop) (h : wp_Orders_begin a1 M R) : Met l y_Orders_begin (wm y_Orders_begin b_Orders_begin 4 (some .int)) (RM 0 0) (PP g M [.ref (g.2.2.2 22), .int a1]) (PQ g (RI R)) 0 0 (AW g) := by
  refine m_of (own := N_Orders) (by decide) rfl (Nat.le_of_ble_eq_true rfl) ?_
  intro p e s m below meth c ls C hr hlocks hW hP hS hl
  obtain ⟨hx, hb, hml, hown, hts⟩ := id C
  have hl : lv_has ls 4 [(0, .ref (g.2.2.2 22)), (1, .int a1)] := hl
  unfold wp_Orders_begin at h
  obtain ⟨X9, eX9⟩ : ∃ X : Int32 → Int32 → Mem → Prop, ∀ (x2 : Int32) (x3 : Int32) (M : Mem), X x2 x3 M ↔ (∀ (H : Heap) (locs : List Loc) (ls : Array Slot), WP g M H → va_S (AW g) s.heap H locs → lv_has ls 4 [(0, .ref (g.2.2.2 22)), (2, .int x2), (3, .int x3)] → W p l e (RM 0 0) s m ([.ref (g.2.2.2 22), .int a1] : List Value).toArray below meth c H locs 0 0 (MQ below (PQ g (RI R)) ([.ref (g.2.2.2 22), .int a1] : List Value).toArray s 0 0 (AW g)) (F0 m 9 ls [])) := ⟨fun x2 x3 M => _, fun _ _ _ => Iff.rfl⟩
  suffices hcl : (∀ (x2 : Int32) (x3 : Int32) (M : Mem), wp_Orders_begin_9 X9 R x2 x3 M → X9 x2 x3 M) by
    have hk := h X9 hcl
    refine lv_aload_n hx hb d_Orders_begin_0 rfl (lv_at hl 0 rfl) ?_
    refine lv_iload_n hx hb d_Orders_begin_1 rfl (lv_at hl 1 rfl) ?_
    refine pf_22_1 hI C hW hP hS fl_Orders_15 d_Orders_begin_2 (fun M6 eM6 H locs hP hS => ?_)
    have hk := hk M6 eM6
    refine lv_iconst (v := 1) hx hb d_Orders_begin_5 (by decide) ?_
    refine lv_istore_n (lv' := [(2, .int (1 : Int32)), (0, .ref (g.2.2.2 22)), (1, .int a1)]) hx hb d_Orders_begin_6 rfl hl (by decide) rfl (fun ls hl => ?_)
    refine lv_iconst (v := 0) hx hb d_Orders_begin_7 (by decide) ?_
    refine lv_istore_n (lv' := [(3, .int (0 : Int32)), (2, .int (1 : Int32)), (0, .ref (g.2.2.2 22)), (1, .int a1)]) hx hb d_Orders_begin_8 rfl hl (by decide) rfl (fun ls hl => ?_)
    exact (eX9 (1 : Int32) (0 : Int32) M6).mp hk _ _ _ hP hS (lv_sub hl [2, 1, 0] rfl)
  · intro x2 x3 M hk
    refine (eX9 x2 x3 M).mpr ?_
    intro H locs ls hP hS hl
    unfold wp_Orders_begin_9 at hk
    refine lv_iload_n hx hb d_Orders_begin_9 rfl (lv_at hl 2 rfl) ?_
    refine lv_aload_n hx hb d_Orders_begin_10 rfl (lv_at hl 0 rfl) ?_
    refine gf_22_1 C hW hP fl_Orders_15 d_Orders_begin_11 ?_
    refine lv_icmp_ge (tgt := 36) hx hb d_Orders_begin_14 (by decide) (fun c1 => ?_) (fun c1 => ?_)
    · have hk := hk.1 c1
      refine lv_iload_n hx hb d_Orders_begin_36 rfl (lv_at hl 1 rfl) ?_
      exact r_iret C hr hlocks hP hS hk d_Orders_begin_37
    · have hk := hk.2 c1
      refine lv_aload_n hx hb d_Orders_begin_17 rfl (lv_at hl 0 rfl) ?_
      refine gf_22_0 C hW hP fl_Orders_9 d_Orders_begin_18 ?_
      refine lv_iload_n hx hb d_Orders_begin_21 rfl (lv_at hl 2 rfl) ?_
      refine lv_iload_n hx hb d_Orders_begin_22 rfl (lv_at hl 2 rfl) ?_
      obtain ⟨h2, hk⟩ := hk
      refine as_23 hI C hW hP hS h2 d_Orders_begin_23 (fun M3 eM3 H locs hP hS => ?_)
      have hk := hk M3 eM3
      refine lv_iload_n hx hb d_Orders_begin_24 rfl (lv_at hl 1 rfl) ?_
      refine lv_iload_n hx hb d_Orders_begin_25 rfl (lv_at hl 2 rfl) ?_
      refine lv_iconst (v := 1) hx hb d_Orders_begin_26 (by decide) ?_
      refine lv_iadd hx hb d_Orders_begin_27 ?_
      refine lv_imul hx hb d_Orders_begin_28 ?_
      refine lv_topi (fun x2_4 ex2_4 => ?_)
      have hk := hk x2_4 ex2_4
      refine lv_istore_n (lv' := [(2, .int x2_4), (0, .ref (g.2.2.2 22)), (3, .int x3)]) hx hb d_Orders_begin_29 rfl hl (by decide) rfl (fun ls hl => ?_)
      obtain ⟨x3_5, ex3_5⟩ : ∃ y : Int32, y = x3 + (1 : Int32) := ⟨_, rfl⟩
      have hk := hk x3_5 ex3_5
      refine lv_iinc (v := x3_5) (lv' := [(3, .int x3_5), (2, .int x2_4), (0, .ref (g.2.2.2 22))]) hx hb d_Orders_begin_30 hl (k := 2) rfl (by rw [ex3_5]; rfl) (by decide) rfl (fun ls hl => ?_)
      refine lv_goto (tgt := 9) hx hb d_Orders_begin_33 (by decide) ?_
      exact (eX9 x2_4 x3_5 M3).mp hk _ _ _ hP hS (lv_sub hl [2, 1, 0] rfl)
theorem d_Search_goInOrder_0 : decode b_Search_goInOrder 0 = .ok (.aload_n 0, 1) := by decide +kernel
theorem d_Search_goInOrder_1 : decode b_Search_goInOrder 1 = .ok (.getfield 15, 3) := by decide +kernel
theorem d_Search_goInOrder_4 : decode b_Search_goInOrder 4 = .ok (.invokevirtual 75, 3) := by decide +kernel
theorem d_Search_goInOrder_7 : decode b_Search_goInOrder 7 = .ok (.iconst 0, 1) := by decide +kernel
theorem d_Search_goInOrder_8 : decode b_Search_goInOrder 8 = .ok (.istore_n 1, 1) := by decide +kernel
theorem d_Search_goInOrder_9 : decode b_Search_goInOrder 9 = .ok (.iload_n 1, 1) := by decide +kernel
theorem d_Search_goInOrder_10 : decode b_Search_goInOrder 10 = .ok (.aload_n 0, 1) := by decide +kernel
theorem d_Search_goInOrder_11 : decode b_Search_goInOrder 11 = .ok (.getfield 22, 3) := by decide +kernel
theorem d_Search_goInOrder_14 : decode b_Search_goInOrder 14 = .ok (.getfield 79, 3) := by decide +kernel
theorem d_Search_goInOrder_17 : decode b_Search_goInOrder 17 = .ok (.if_icmp .ge 25, 3) := by decide +kernel
theorem d_Search_goInOrder_20 : decode b_Search_goInOrder 20 = .ok (.aload_n 0, 1) := by decide +kernel
theorem d_Search_goInOrder_21 : decode b_Search_goInOrder 21 = .ok (.getfield 15, 3) := by decide +kernel
theorem d_Search_goInOrder_24 : decode b_Search_goInOrder 24 = .ok (.aload_n 0, 1) := by decide +kernel
theorem d_Search_goInOrder_25 : decode b_Search_goInOrder 25 = .ok (.getfield 22, 3) := by decide +kernel
theorem d_Search_goInOrder_28 : decode b_Search_goInOrder 28 = .ok (.getfield 82, 3) := by decide +kernel
theorem d_Search_goInOrder_31 : decode b_Search_goInOrder 31 = .ok (.iload_n 1, 1) := by decide +kernel
theorem d_Search_goInOrder_32 : decode b_Search_goInOrder 32 = .ok (.iaload, 1) := by decide +kernel
theorem d_Search_goInOrder_33 : decode b_Search_goInOrder 33 = .ok (.invokevirtual 85, 3) := by decide +kernel
theorem d_Search_goInOrder_36 : decode b_Search_goInOrder 36 = .ok (.iinc 1 1, 3) := by decide +kernel
theorem d_Search_goInOrder_39 : decode b_Search_goInOrder 39 = .ok (.goto (-30), 3) := by decide +kernel
theorem d_Search_goInOrder_42 : decode b_Search_goInOrder 42 = .ok (.aload_n 0, 1) := by decide +kernel
theorem d_Search_goInOrder_43 : decode b_Search_goInOrder 43 = .ok (.getfield 15, 3) := by decide +kernel
theorem d_Search_goInOrder_46 : decode b_Search_goInOrder 46 = .ok (.getfield 88, 3) := by decide +kernel
theorem d_Search_goInOrder_49 : decode b_Search_goInOrder 49 = .ok (.ireturn, 1) := by decide +kernel
set_option maxRecDepth 20000 in
theorem c_Search_goInOrder {l : Launch} {g : GG} (hI : WI g) (M : Mem) (R : Int32 → Mem → Prop) (h : wp_Search_goInOrder  M R) : Met l y_Search_goInOrder (wm y_Search_goInOrder b_Search_goInOrder 2 (some .int)) (RM 4 94) (PP g M [.ref (g.2.2.2 21)]) (PQ g (RI R)) 0 0 (AW g) := by
  refine m_of (own := N_Search) (by decide) rfl (Nat.le_of_ble_eq_true rfl) ?_
  intro p e s m below meth c ls C hr hlocks hW hP hS hl
  obtain ⟨hx, hb, hml, hown, hts⟩ := id C
  have hl : lv_has ls 2 [(0, .ref (g.2.2.2 21))] := hl
  unfold wp_Search_goInOrder at h
  obtain ⟨X9, eX9⟩ : ∃ X : Int32 → Mem → Prop, ∀ (x1 : Int32) (M : Mem), X x1 M ↔ (∀ (H : Heap) (locs : List Loc) (ls : Array Slot), WP g M H → va_S (AW g) s.heap H locs → lv_has ls 2 [(0, .ref (g.2.2.2 21)), (1, .int x1)] → W p l e (RM 4 94) s m ([.ref (g.2.2.2 21)] : List Value).toArray below meth c H locs 0 0 (MQ below (PQ g (RI R)) ([.ref (g.2.2.2 21)] : List Value).toArray s 0 0 (AW g)) (F0 m 9 ls [])) := ⟨fun x1 M => _, fun _ _ => Iff.rfl⟩
  suffices hcl : (∀ (x1 : Int32) (M : Mem), wp_Search_goInOrder_9 X9 R x1 M → X9 x1 M) by
    have hk := h X9 hcl
    refine lv_aload_n hx hb d_Search_goInOrder_0 rfl (lv_at hl 0 rfl) ?_
    refine gf_21_1 C hW hP fl_Search_15 d_Search_goInOrder_1 ?_
    refine r_runV (k_V (As := []) (rest := []) C hW hP (c_Walk_begin hI M _ hk) cb_Walk_begin ml_Search_75 (io_18 g M) ⟨by decide, by decide⟩ rfl hl.1 rfl (Nat.le_of_ble_eq_true rfl) d_Search_goInOrder_4 ⟨by decide, by decide⟩) hS (fun M5 H locs hk hP hS => ?_)
    refine lv_iconst (v := 0) hx hb d_Search_goInOrder_7 (by decide) ?_
    refine lv_istore_n (lv' := [(1, .int (0 : Int32)), (0, .ref (g.2.2.2 21))]) hx hb d_Search_goInOrder_8 rfl hl (by decide) rfl (fun ls hl => ?_)
    exact (eX9 (0 : Int32) M5).mp hk _ _ _ hP hS (lv_sub hl [1, 0] rfl)
  · intro x1 M hk
    refine (eX9 x1 M).mpr ?_
    intro H locs ls hP hS hl
    unfold wp_Search_goInOrder_9 at hk
    refine lv_iload_n hx hb d_Search_goInOrder_9 rfl (lv_at hl 1 rfl) ?_
    refine lv_aload_n hx hb d_Search_goInOrder_10 rfl (lv_at hl 0 rfl) ?_
    refine gf_21_2 C hW hP fl_Search_22 d_Search_goInOrder_11 ?_
    refine gf_22_1 C hW hP fl_Search_79 d_Search_goInOrder_14 ?_
    refine lv_icmp_ge (tgt := 42) hx hb d_Search_goInOrder_17 (by decide) (fun c1 => ?_) (fun c1 => ?_)
    · have hk := hk.1 c1
      refine lv_aload_n hx hb d_Search_goInOrder_42 rfl (lv_at hl 0 rfl) ?_
      refine gf_21_1 C hW hP fl_Search_15 d_Search_goInOrder_43 ?_
      refine gf_18_3 C hW hP fl_Search_88 d_Search_goInOrder_46 ?_
      exact r_iret C hr hlocks hP hS hk d_Search_goInOrder_49
    · have hk := hk.2 c1
      refine lv_aload_n hx hb d_Search_goInOrder_20 rfl (lv_at hl 0 rfl) ?_
      refine gf_21_1 C hW hP fl_Search_15 d_Search_goInOrder_21 ?_
      refine lv_aload_n hx hb d_Search_goInOrder_24 rfl (lv_at hl 0 rfl) ?_
      refine gf_21_2 C hW hP fl_Search_22 d_Search_goInOrder_25 ?_
      refine gf_22_0 C hW hP fl_Search_82 d_Search_goInOrder_28 ?_
      refine lv_iload_n hx hb d_Search_goInOrder_31 rfl (lv_at hl 1 rfl) ?_
      obtain ⟨h2, hk⟩ := hk
      refine al_23 C hW hP h2 d_Search_goInOrder_32 ?_
      refine r_runV (k_V (As := [.int (M 23 x1.toNatClampNeg)]) (rest := []) C hW hP (c_Walk_goAlone hI (M 23 x1.toNatClampNeg) M _ hk) cb_Walk_goAlone ml_Search_85 (io_18 g M) ⟨by decide, by decide⟩ rfl hl.1 rfl (Nat.le_of_ble_eq_true rfl) d_Search_goInOrder_33 ⟨by decide, by decide⟩) hS (fun M3 H locs hk hP hS => ?_)
      obtain ⟨x1_4, ex1_4⟩ : ∃ y : Int32, y = x1 + (1 : Int32) := ⟨_, rfl⟩
      have hk := hk x1_4 ex1_4
      refine lv_iinc (v := x1_4) (lv' := [(1, .int x1_4), (0, .ref (g.2.2.2 21))]) hx hb d_Search_goInOrder_36 hl (k := 1) rfl (by rw [ex1_4]; rfl) (by decide) rfl (fun ls hl => ?_)
      refine lv_goto (tgt := 9) hx hb d_Search_goInOrder_39 (by decide) ?_
      exact (eX9 x1_4 M3).mp hk _ _ _ hP hS (lv_sub hl [1, 0] rfl)
theorem d_Search_keep_0 : decode b_Search_keep 0 = .ok (.aload_n 0, 1) := by decide +kernel
theorem d_Search_keep_1 : decode b_Search_keep 1 = .ok (.iload_n 1, 1) := by decide +kernel
theorem d_Search_keep_2 : decode b_Search_keep 2 = .ok (.putfield 30, 3) := by decide +kernel
theorem d_Search_keep_5 : decode b_Search_keep 5 = .ok (.aload_n 0, 1) := by decide +kernel
theorem d_Search_keep_6 : decode b_Search_keep 6 = .ok (.getfield 22, 3) := by decide +kernel
theorem d_Search_keep_9 : decode b_Search_keep 9 = .ok (.getfield 82, 3) := by decide +kernel
theorem d_Search_keep_12 : decode b_Search_keep 12 = .ok (.iconst 0, 1) := by decide +kernel
theorem d_Search_keep_13 : decode b_Search_keep 13 = .ok (.aload_n 0, 1) := by decide +kernel
theorem d_Search_keep_14 : decode b_Search_keep 14 = .ok (.getfield 26, 3) := by decide +kernel
theorem d_Search_keep_17 : decode b_Search_keep 17 = .ok (.iconst 0, 1) := by decide +kernel
theorem d_Search_keep_18 : decode b_Search_keep 18 = .ok (.aload_n 0, 1) := by decide +kernel
theorem d_Search_keep_19 : decode b_Search_keep 19 = .ok (.getfield 22, 3) := by decide +kernel
theorem d_Search_keep_22 : decode b_Search_keep 22 = .ok (.getfield 79, 3) := by decide +kernel
theorem d_Search_keep_25 : decode b_Search_keep 25 = .ok (.invokestatic 94, 3) := by decide +kernel
theorem d_Search_keep_28 : decode b_Search_keep 28 = .ok (.return_, 1) := by decide +kernel
set_option maxRecDepth 20000 in
theorem c_Search_keep {l : Launch} {g : GG} (hI : WI g) (a1 : Int32) (M : Mem) (R : Mem → Prop) (h : wp_Search_keep a1 M R) : Met l y_Search_keep (wm y_Search_keep b_Search_keep 2 none) (RM 1 26) (PP g M [.ref (g.2.2.2 21), .int a1]) (PQ g (RV R)) 0 0 (AW g) := by
  refine m_of (own := N_Search) (by decide) rfl (Nat.le_of_ble_eq_true rfl) ?_
  intro p e s m below meth c ls C hr hlocks hW hP hS hl
  obtain ⟨hx, hb, hml, hown, hts⟩ := id C
  have hl : lv_has ls 2 [(0, .ref (g.2.2.2 21)), (1, .int a1)] := hl
  unfold wp_Search_keep at h
  have hk := h
  refine lv_aload_n hx hb d_Search_keep_0 rfl (lv_at hl 0 rfl) ?_
  refine lv_iload_n hx hb d_Search_keep_1 rfl (lv_at hl 1 rfl) ?_
  refine pf_21_4 hI C hW hP hS fl_Search_30 d_Search_keep_2 (fun M1 eM1 H locs hP hS => ?_)
  have hk := hk M1 eM1
  refine lv_aload_n hx hb d_Search_keep_5 rfl (lv_at hl 0 rfl) ?_
  refine gf_21_2 C hW hP fl_Search_22 d_Search_keep_6 ?_
  refine gf_22_0 C hW hP fl_Search_82 d_Search_keep_9 ?_
  refine lv_iconst (v := 0) hx hb d_Search_keep_12 (by decide) ?_
  refine lv_aload_n hx hb d_Search_keep_13 rfl (lv_at hl 0 rfl) ?_
  refine gf_21_3 C hW hP fl_Search_26 d_Search_keep_14 ?_
  refine lv_iconst (v := 0) hx hb d_Search_keep_17 (by decide) ?_
  refine lv_aload_n hx hb d_Search_keep_18 rfl (lv_at hl 0 rfl) ?_
  refine gf_21_2 C hW hP fl_Search_22 d_Search_keep_19 ?_
  refine gf_22_1 C hW hP fl_Search_79 d_Search_keep_22 ?_
  obtain ⟨h2, h3, h4, h5, h6, hk⟩ := hk
  refine r_copy 23 24 (by decide) (fun _ => rfl) (by decide) (fun _ => rfl) hI C hW hP hS (hl.1) ml_Search_94 h2 h3 h4 h5 h6 (by decide) (Nat.le_of_ble_eq_true rfl) d_Search_keep_25 (fun M7 eM7 H locs hP hS => ?_)
  have hk := hk M7 eM7
  exact r_vret C hr hlocks hP hS hk d_Search_keep_28
theorem d_Orders_lastRise_0 : decode b_Orders_lastRise 0 = .ok (.aload_n 0, 1) := by decide +kernel
theorem d_Orders_lastRise_1 : decode b_Orders_lastRise 1 = .ok (.getfield 15, 3) := by decide +kernel
theorem d_Orders_lastRise_4 : decode b_Orders_lastRise 4 = .ok (.iconst 2, 1) := by decide +kernel
theorem d_Orders_lastRise_5 : decode b_Orders_lastRise 5 = .ok (.isub, 1) := by decide +kernel
theorem d_Orders_lastRise_6 : decode b_Orders_lastRise 6 = .ok (.istore_n 1, 1) := by decide +kernel
theorem d_Orders_lastRise_7 : decode b_Orders_lastRise 7 = .ok (.iload_n 1, 1) := by decide +kernel
theorem d_Orders_lastRise_8 : decode b_Orders_lastRise 8 = .ok (.ifCond .lt 28, 3) := by decide +kernel
theorem d_Orders_lastRise_11 : decode b_Orders_lastRise 11 = .ok (.aload_n 0, 1) := by decide +kernel
theorem d_Orders_lastRise_12 : decode b_Orders_lastRise 12 = .ok (.getfield 9, 3) := by decide +kernel
theorem d_Orders_lastRise_15 : decode b_Orders_lastRise 15 = .ok (.iload_n 1, 1) := by decide +kernel
theorem d_Orders_lastRise_16 : decode b_Orders_lastRise 16 = .ok (.iaload, 1) := by decide +kernel
theorem d_Orders_lastRise_17 : decode b_Orders_lastRise 17 = .ok (.aload_n 0, 1) := by decide +kernel
theorem d_Orders_lastRise_18 : decode b_Orders_lastRise 18 = .ok (.getfield 9, 3) := by decide +kernel
theorem d_Orders_lastRise_21 : decode b_Orders_lastRise 21 = .ok (.iload_n 1, 1) := by decide +kernel
theorem d_Orders_lastRise_22 : decode b_Orders_lastRise 22 = .ok (.iconst 1, 1) := by decide +kernel
theorem d_Orders_lastRise_23 : decode b_Orders_lastRise 23 = .ok (.iadd, 1) := by decide +kernel
theorem d_Orders_lastRise_24 : decode b_Orders_lastRise 24 = .ok (.iaload, 1) := by decide +kernel
theorem d_Orders_lastRise_25 : decode b_Orders_lastRise 25 = .ok (.if_icmp .ge 5, 3) := by decide +kernel
theorem d_Orders_lastRise_28 : decode b_Orders_lastRise 28 = .ok (.iload_n 1, 1) := by decide +kernel
theorem d_Orders_lastRise_29 : decode b_Orders_lastRise 29 = .ok (.ireturn, 1) := by decide +kernel
theorem d_Orders_lastRise_30 : decode b_Orders_lastRise 30 = .ok (.iinc 1 (-1), 3) := by decide +kernel
theorem d_Orders_lastRise_33 : decode b_Orders_lastRise 33 = .ok (.goto (-26), 3) := by decide +kernel
theorem d_Orders_lastRise_36 : decode b_Orders_lastRise 36 = .ok (.iconst (-1), 1) := by decide +kernel
theorem d_Orders_lastRise_37 : decode b_Orders_lastRise 37 = .ok (.ireturn, 1) := by decide +kernel
set_option maxRecDepth 20000 in
theorem c_Orders_lastRise {l : Launch} {g : GG} (hI : WI g) (M : Mem) (R : Int32 → Mem → Prop) (h : wp_Orders_lastRise  M R) : Met l y_Orders_lastRise (wm y_Orders_lastRise b_Orders_lastRise 2 (some .int)) (RM 0 0) (PP g M [.ref (g.2.2.2 22)]) (PQ g (RI R)) 0 0 (AW g) := by
  refine m_of (own := N_Orders) (by decide) rfl (Nat.le_of_ble_eq_true rfl) ?_
  intro p e s m below meth c ls C hr hlocks hW hP hS hl
  obtain ⟨hx, hb, hml, hown, hts⟩ := id C
  have hl : lv_has ls 2 [(0, .ref (g.2.2.2 22))] := hl
  unfold wp_Orders_lastRise at h
  obtain ⟨X7, eX7⟩ : ∃ X : Int32 → Mem → Prop, ∀ (x1 : Int32) (M : Mem), X x1 M ↔ (∀ (H : Heap) (locs : List Loc) (ls : Array Slot), WP g M H → va_S (AW g) s.heap H locs → lv_has ls 2 [(0, .ref (g.2.2.2 22)), (1, .int x1)] → W p l e (RM 0 0) s m ([.ref (g.2.2.2 22)] : List Value).toArray below meth c H locs 0 0 (MQ below (PQ g (RI R)) ([.ref (g.2.2.2 22)] : List Value).toArray s 0 0 (AW g)) (F0 m 7 ls [])) := ⟨fun x1 M => _, fun _ _ => Iff.rfl⟩
  suffices hcl : (∀ (x1 : Int32) (M : Mem), wp_Orders_lastRise_7 X7 R x1 M → X7 x1 M) by
    have hk := h X7 hcl
    refine lv_aload_n hx hb d_Orders_lastRise_0 rfl (lv_at hl 0 rfl) ?_
    refine gf_22_1 C hW hP fl_Orders_15 d_Orders_lastRise_1 ?_
    refine lv_iconst (v := 2) hx hb d_Orders_lastRise_4 (by decide) ?_
    refine lv_isub hx hb d_Orders_lastRise_5 ?_
    refine lv_topi (fun x1_6 ex1_6 => ?_)
    have hk := hk x1_6 ex1_6
    refine lv_istore_n (lv' := [(1, .int x1_6), (0, .ref (g.2.2.2 22))]) hx hb d_Orders_lastRise_6 rfl hl (by decide) rfl (fun ls hl => ?_)
    exact (eX7 x1_6 M).mp hk _ _ _ hP hS (lv_sub hl [1, 0] rfl)
  · intro x1 M hk
    refine (eX7 x1 M).mpr ?_
    intro H locs ls hP hS hl
    unfold wp_Orders_lastRise_7 at hk
    refine lv_iload_n hx hb d_Orders_lastRise_7 rfl (lv_at hl 1 rfl) ?_
    refine lv_if_lt (tgt := 36) hx hb d_Orders_lastRise_8 (by decide) (fun c1 => ?_) (fun c1 => ?_)
    · have hk := hk.1 c1
      refine lv_iconst (v := -1) hx hb d_Orders_lastRise_36 (by decide) ?_
      exact r_iret C hr hlocks hP hS hk d_Orders_lastRise_37
    · have hk := hk.2 c1
      refine lv_aload_n hx hb d_Orders_lastRise_11 rfl (lv_at hl 0 rfl) ?_
      refine gf_22_0 C hW hP fl_Orders_9 d_Orders_lastRise_12 ?_
      refine lv_iload_n hx hb d_Orders_lastRise_15 rfl (lv_at hl 1 rfl) ?_
      obtain ⟨h2, hk⟩ := hk
      refine al_23 C hW hP h2 d_Orders_lastRise_16 ?_
      refine lv_aload_n hx hb d_Orders_lastRise_17 rfl (lv_at hl 0 rfl) ?_
      refine gf_22_0 C hW hP fl_Orders_9 d_Orders_lastRise_18 ?_
      refine lv_iload_n hx hb d_Orders_lastRise_21 rfl (lv_at hl 1 rfl) ?_
      refine lv_iconst (v := 1) hx hb d_Orders_lastRise_22 (by decide) ?_
      refine lv_iadd hx hb d_Orders_lastRise_23 ?_
      obtain ⟨h3, hk⟩ := hk
      refine al_23 C hW hP h3 d_Orders_lastRise_24 ?_
      refine lv_icmp_ge (tgt := 30) hx hb d_Orders_lastRise_25 (by decide) (fun c4 => ?_) (fun c4 => ?_)
      · have hk := hk.1 c4
        obtain ⟨x1_5, ex1_5⟩ : ∃ y : Int32, y = x1 + (-1 : Int32) := ⟨_, rfl⟩
        have hk := hk x1_5 ex1_5
        refine lv_iinc (v := x1_5) (lv' := [(1, .int x1_5), (0, .ref (g.2.2.2 22))]) hx hb d_Orders_lastRise_30 hl (k := 1) rfl (by rw [ex1_5]; rfl) (by decide) rfl (fun ls hl => ?_)
        refine lv_goto (tgt := 7) hx hb d_Orders_lastRise_33 (by decide) ?_
        exact (eX7 x1_5 M).mp hk _ _ _ hP hS (lv_sub hl [1, 0] rfl)
      · have hk := hk.2 c4
        refine lv_iload_n hx hb d_Orders_lastRise_28 rfl (lv_at hl 1 rfl) ?_
        exact r_iret C hr hlocks hP hS hk d_Orders_lastRise_29
theorem d_Orders_lastAbove_0 : decode b_Orders_lastAbove 0 = .ok (.aload_n 0, 1) := by decide +kernel
theorem d_Orders_lastAbove_1 : decode b_Orders_lastAbove 1 = .ok (.getfield 15, 3) := by decide +kernel
theorem d_Orders_lastAbove_4 : decode b_Orders_lastAbove 4 = .ok (.iconst 1, 1) := by decide +kernel
theorem d_Orders_lastAbove_5 : decode b_Orders_lastAbove 5 = .ok (.isub, 1) := by decide +kernel
theorem d_Orders_lastAbove_6 : decode b_Orders_lastAbove 6 = .ok (.istore_n 2, 1) := by decide +kernel
theorem d_Orders_lastAbove_7 : decode b_Orders_lastAbove 7 = .ok (.iload_n 2, 1) := by decide +kernel
theorem d_Orders_lastAbove_8 : decode b_Orders_lastAbove 8 = .ok (.iload_n 1, 1) := by decide +kernel
theorem d_Orders_lastAbove_9 : decode b_Orders_lastAbove 9 = .ok (.if_icmp .le 26, 3) := by decide +kernel
theorem d_Orders_lastAbove_12 : decode b_Orders_lastAbove 12 = .ok (.aload_n 0, 1) := by decide +kernel
theorem d_Orders_lastAbove_13 : decode b_Orders_lastAbove 13 = .ok (.getfield 9, 3) := by decide +kernel
theorem d_Orders_lastAbove_16 : decode b_Orders_lastAbove 16 = .ok (.iload_n 2, 1) := by decide +kernel
theorem d_Orders_lastAbove_17 : decode b_Orders_lastAbove 17 = .ok (.iaload, 1) := by decide +kernel
theorem d_Orders_lastAbove_18 : decode b_Orders_lastAbove 18 = .ok (.aload_n 0, 1) := by decide +kernel
theorem d_Orders_lastAbove_19 : decode b_Orders_lastAbove 19 = .ok (.getfield 9, 3) := by decide +kernel
theorem d_Orders_lastAbove_22 : decode b_Orders_lastAbove 22 = .ok (.iload_n 1, 1) := by decide +kernel
theorem d_Orders_lastAbove_23 : decode b_Orders_lastAbove 23 = .ok (.iaload, 1) := by decide +kernel
theorem d_Orders_lastAbove_24 : decode b_Orders_lastAbove 24 = .ok (.if_icmp .le 5, 3) := by decide +kernel
theorem d_Orders_lastAbove_27 : decode b_Orders_lastAbove 27 = .ok (.iload_n 2, 1) := by decide +kernel
theorem d_Orders_lastAbove_28 : decode b_Orders_lastAbove 28 = .ok (.ireturn, 1) := by decide +kernel
theorem d_Orders_lastAbove_29 : decode b_Orders_lastAbove 29 = .ok (.iinc 2 (-1), 3) := by decide +kernel
theorem d_Orders_lastAbove_32 : decode b_Orders_lastAbove 32 = .ok (.goto (-25), 3) := by decide +kernel
theorem d_Orders_lastAbove_35 : decode b_Orders_lastAbove 35 = .ok (.iload_n 1, 1) := by decide +kernel
theorem d_Orders_lastAbove_36 : decode b_Orders_lastAbove 36 = .ok (.ireturn, 1) := by decide +kernel
set_option maxRecDepth 20000 in
theorem c_Orders_lastAbove {l : Launch} {g : GG} (hI : WI g) (a1 : Int32) (M : Mem) (R : Int32 → Mem → Prop) (h : wp_Orders_lastAbove a1 M R) : Met l y_Orders_lastAbove (wm y_Orders_lastAbove b_Orders_lastAbove 3 (some .int)) (RM 0 0) (PP g M [.ref (g.2.2.2 22), .int a1]) (PQ g (RI R)) 0 0 (AW g) := by
  refine m_of (own := N_Orders) (by decide) rfl (Nat.le_of_ble_eq_true rfl) ?_
  intro p e s m below meth c ls C hr hlocks hW hP hS hl
  obtain ⟨hx, hb, hml, hown, hts⟩ := id C
  have hl : lv_has ls 3 [(0, .ref (g.2.2.2 22)), (1, .int a1)] := hl
  unfold wp_Orders_lastAbove at h
  obtain ⟨X7, eX7⟩ : ∃ X : Int32 → Int32 → Mem → Prop, ∀ (x1 : Int32) (x2 : Int32) (M : Mem), X x1 x2 M ↔ (∀ (H : Heap) (locs : List Loc) (ls : Array Slot), WP g M H → va_S (AW g) s.heap H locs → lv_has ls 3 [(0, .ref (g.2.2.2 22)), (1, .int x1), (2, .int x2)] → W p l e (RM 0 0) s m ([.ref (g.2.2.2 22), .int a1] : List Value).toArray below meth c H locs 0 0 (MQ below (PQ g (RI R)) ([.ref (g.2.2.2 22), .int a1] : List Value).toArray s 0 0 (AW g)) (F0 m 7 ls [])) := ⟨fun x1 x2 M => _, fun _ _ _ => Iff.rfl⟩
  suffices hcl : (∀ (x1 : Int32) (x2 : Int32) (M : Mem), wp_Orders_lastAbove_7 X7 R x1 x2 M → X7 x1 x2 M) by
    have hk := h X7 hcl
    refine lv_aload_n hx hb d_Orders_lastAbove_0 rfl (lv_at hl 0 rfl) ?_
    refine gf_22_1 C hW hP fl_Orders_15 d_Orders_lastAbove_1 ?_
    refine lv_iconst (v := 1) hx hb d_Orders_lastAbove_4 (by decide) ?_
    refine lv_isub hx hb d_Orders_lastAbove_5 ?_
    refine lv_topi (fun x2_6 ex2_6 => ?_)
    have hk := hk x2_6 ex2_6
    refine lv_istore_n (lv' := [(2, .int x2_6), (0, .ref (g.2.2.2 22)), (1, .int a1)]) hx hb d_Orders_lastAbove_6 rfl hl (by decide) rfl (fun ls hl => ?_)
    exact (eX7 a1 x2_6 M).mp hk _ _ _ hP hS (lv_sub hl [1, 2, 0] rfl)
  · intro x1 x2 M hk
    refine (eX7 x1 x2 M).mpr ?_
    intro H locs ls hP hS hl
    unfold wp_Orders_lastAbove_7 at hk
    refine lv_iload_n hx hb d_Orders_lastAbove_7 rfl (lv_at hl 2 rfl) ?_
    refine lv_iload_n hx hb d_Orders_lastAbove_8 rfl (lv_at hl 1 rfl) ?_
    refine lv_icmp_le (tgt := 35) hx hb d_Orders_lastAbove_9 (by decide) (fun c1 => ?_) (fun c1 => ?_)
    · have hk := hk.1 c1
      refine lv_iload_n hx hb d_Orders_lastAbove_35 rfl (lv_at hl 1 rfl) ?_
      exact r_iret C hr hlocks hP hS hk d_Orders_lastAbove_36
    · have hk := hk.2 c1
      refine lv_aload_n hx hb d_Orders_lastAbove_12 rfl (lv_at hl 0 rfl) ?_
      refine gf_22_0 C hW hP fl_Orders_9 d_Orders_lastAbove_13 ?_
      refine lv_iload_n hx hb d_Orders_lastAbove_16 rfl (lv_at hl 2 rfl) ?_
      obtain ⟨h2, hk⟩ := hk
      refine al_23 C hW hP h2 d_Orders_lastAbove_17 ?_
      refine lv_aload_n hx hb d_Orders_lastAbove_18 rfl (lv_at hl 0 rfl) ?_
      refine gf_22_0 C hW hP fl_Orders_9 d_Orders_lastAbove_19 ?_
      refine lv_iload_n hx hb d_Orders_lastAbove_22 rfl (lv_at hl 1 rfl) ?_
      obtain ⟨h3, hk⟩ := hk
      refine al_23 C hW hP h3 d_Orders_lastAbove_23 ?_
      refine lv_icmp_le (tgt := 29) hx hb d_Orders_lastAbove_24 (by decide) (fun c4 => ?_) (fun c4 => ?_)
      · have hk := hk.1 c4
        obtain ⟨x2_5, ex2_5⟩ : ∃ y : Int32, y = x2 + (-1 : Int32) := ⟨_, rfl⟩
        have hk := hk x2_5 ex2_5
        refine lv_iinc (v := x2_5) (lv' := [(2, .int x2_5), (0, .ref (g.2.2.2 22)), (1, .int x1)]) hx hb d_Orders_lastAbove_29 hl (k := 2) rfl (by rw [ex2_5]; rfl) (by decide) rfl (fun ls hl => ?_)
        refine lv_goto (tgt := 7) hx hb d_Orders_lastAbove_32 (by decide) ?_
        exact (eX7 x1 x2_5 M).mp hk _ _ _ hP hS (lv_sub hl [1, 2, 0] rfl)
      · have hk := hk.2 c4
        refine lv_iload_n hx hb d_Orders_lastAbove_27 rfl (lv_at hl 2 rfl) ?_
        exact r_iret C hr hlocks hP hS hk d_Orders_lastAbove_28
theorem d_Orders_swap_0 : decode b_Orders_swap 0 = .ok (.aload_n 0, 1) := by decide +kernel
theorem d_Orders_swap_1 : decode b_Orders_swap 1 = .ok (.getfield 9, 3) := by decide +kernel
theorem d_Orders_swap_4 : decode b_Orders_swap 4 = .ok (.iload_n 1, 1) := by decide +kernel
theorem d_Orders_swap_5 : decode b_Orders_swap 5 = .ok (.iaload, 1) := by decide +kernel
theorem d_Orders_swap_6 : decode b_Orders_swap 6 = .ok (.istore_n 3, 1) := by decide +kernel
theorem d_Orders_swap_7 : decode b_Orders_swap 7 = .ok (.aload_n 0, 1) := by decide +kernel
theorem d_Orders_swap_8 : decode b_Orders_swap 8 = .ok (.getfield 9, 3) := by decide +kernel
theorem d_Orders_swap_11 : decode b_Orders_swap 11 = .ok (.iload_n 1, 1) := by decide +kernel
theorem d_Orders_swap_12 : decode b_Orders_swap 12 = .ok (.aload_n 0, 1) := by decide +kernel
theorem d_Orders_swap_13 : decode b_Orders_swap 13 = .ok (.getfield 9, 3) := by decide +kernel
theorem d_Orders_swap_16 : decode b_Orders_swap 16 = .ok (.iload_n 2, 1) := by decide +kernel
theorem d_Orders_swap_17 : decode b_Orders_swap 17 = .ok (.iaload, 1) := by decide +kernel
theorem d_Orders_swap_18 : decode b_Orders_swap 18 = .ok (.iastore, 1) := by decide +kernel
theorem d_Orders_swap_19 : decode b_Orders_swap 19 = .ok (.aload_n 0, 1) := by decide +kernel
theorem d_Orders_swap_20 : decode b_Orders_swap 20 = .ok (.getfield 9, 3) := by decide +kernel
theorem d_Orders_swap_23 : decode b_Orders_swap 23 = .ok (.iload_n 2, 1) := by decide +kernel
theorem d_Orders_swap_24 : decode b_Orders_swap 24 = .ok (.iload_n 3, 1) := by decide +kernel
theorem d_Orders_swap_25 : decode b_Orders_swap 25 = .ok (.iastore, 1) := by decide +kernel
theorem d_Orders_swap_26 : decode b_Orders_swap 26 = .ok (.return_, 1) := by decide +kernel
set_option maxRecDepth 20000 in
theorem c_Orders_swap {l : Launch} {g : GG} (hI : WI g) (a1 : Int32) (a2 : Int32) (M : Mem) (R : Mem → Prop) (h : wp_Orders_swap a1 a2 M R) : Met l y_Orders_swap (wm y_Orders_swap b_Orders_swap 4 none) (RM 0 0) (PP g M [.ref (g.2.2.2 22), .int a1, .int a2]) (PQ g (RV R)) 0 0 (AW g) := by
  refine m_of (own := N_Orders) (by decide) rfl (Nat.le_of_ble_eq_true rfl) ?_
  intro p e s m below meth c ls C hr hlocks hW hP hS hl
  obtain ⟨hx, hb, hml, hown, hts⟩ := id C
  have hl : lv_has ls 4 [(0, .ref (g.2.2.2 22)), (1, .int a1), (2, .int a2)] := hl
  unfold wp_Orders_swap at h
  have hk := h
  refine lv_aload_n hx hb d_Orders_swap_0 rfl (lv_at hl 0 rfl) ?_
  refine gf_22_0 C hW hP fl_Orders_9 d_Orders_swap_1 ?_
  refine lv_iload_n hx hb d_Orders_swap_4 rfl (lv_at hl 1 rfl) ?_
  obtain ⟨h1, hk⟩ := hk
  refine al_23 C hW hP h1 d_Orders_swap_5 ?_
  refine lv_topi (fun x3_2 ex3_2 => ?_)
  have hk := hk x3_2 ex3_2
  refine lv_istore_n (lv' := [(3, .int x3_2), (0, .ref (g.2.2.2 22)), (1, .int a1), (2, .int a2)]) hx hb d_Orders_swap_6 rfl hl (by decide) rfl (fun ls hl => ?_)
  refine lv_aload_n hx hb d_Orders_swap_7 rfl (lv_at hl 1 rfl) ?_
  refine gf_22_0 C hW hP fl_Orders_9 d_Orders_swap_8 ?_
  refine lv_iload_n hx hb d_Orders_swap_11 rfl (lv_at hl 2 rfl) ?_
  refine lv_aload_n hx hb d_Orders_swap_12 rfl (lv_at hl 1 rfl) ?_
  refine gf_22_0 C hW hP fl_Orders_9 d_Orders_swap_13 ?_
  refine lv_iload_n hx hb d_Orders_swap_16 rfl (lv_at hl 3 rfl) ?_
  obtain ⟨h3, hk⟩ := hk
  refine al_23 C hW hP h3 d_Orders_swap_17 ?_
  obtain ⟨h4, hk⟩ := hk
  refine as_23 hI C hW hP hS h4 d_Orders_swap_18 (fun M5 eM5 H locs hP hS => ?_)
  have hk := hk M5 eM5
  refine lv_aload_n hx hb d_Orders_swap_19 rfl (lv_at hl 1 rfl) ?_
  refine gf_22_0 C hW hP fl_Orders_9 d_Orders_swap_20 ?_
  refine lv_iload_n hx hb d_Orders_swap_23 rfl (lv_at hl 3 rfl) ?_
  refine lv_iload_n hx hb d_Orders_swap_24 rfl (lv_at hl 0 rfl) ?_
  obtain ⟨h6, hk⟩ := hk
  refine as_23 hI C hW hP hS h6 d_Orders_swap_25 (fun M7 eM7 H locs hP hS => ?_)
  have hk := hk M7 eM7
  exact r_vret C hr hlocks hP hS hk d_Orders_swap_26
theorem d_Orders_next_0 : decode b_Orders_next 0 = .ok (.aload_n 0, 1) := by decide +kernel
theorem d_Orders_next_1 : decode b_Orders_next 1 = .ok (.invokevirtual 19, 3) := by decide +kernel
theorem d_Orders_next_4 : decode b_Orders_next 4 = .ok (.istore_n 1, 1) := by decide +kernel
theorem d_Orders_next_5 : decode b_Orders_next 5 = .ok (.iload_n 1, 1) := by decide +kernel
theorem d_Orders_next_6 : decode b_Orders_next 6 = .ok (.ifCond .ge 4, 3) := by decide +kernel
theorem d_Orders_next_9 : decode b_Orders_next 9 = .ok (.return_, 1) := by decide +kernel
theorem d_Orders_next_10 : decode b_Orders_next 10 = .ok (.aload_n 0, 1) := by decide +kernel
theorem d_Orders_next_11 : decode b_Orders_next 11 = .ok (.iload_n 1, 1) := by decide +kernel
theorem d_Orders_next_12 : decode b_Orders_next 12 = .ok (.aload_n 0, 1) := by decide +kernel
theorem d_Orders_next_13 : decode b_Orders_next 13 = .ok (.iload_n 1, 1) := by decide +kernel
theorem d_Orders_next_14 : decode b_Orders_next 14 = .ok (.invokevirtual 23, 3) := by decide +kernel
theorem d_Orders_next_17 : decode b_Orders_next 17 = .ok (.invokevirtual 27, 3) := by decide +kernel
theorem d_Orders_next_20 : decode b_Orders_next 20 = .ok (.aload_n 0, 1) := by decide +kernel
theorem d_Orders_next_21 : decode b_Orders_next 21 = .ok (.getfield 15, 3) := by decide +kernel
theorem d_Orders_next_24 : decode b_Orders_next 24 = .ok (.iconst 1, 1) := by decide +kernel
theorem d_Orders_next_25 : decode b_Orders_next 25 = .ok (.isub, 1) := by decide +kernel
theorem d_Orders_next_26 : decode b_Orders_next 26 = .ok (.istore_n 2, 1) := by decide +kernel
theorem d_Orders_next_27 : decode b_Orders_next 27 = .ok (.iload_n 1, 1) := by decide +kernel
theorem d_Orders_next_28 : decode b_Orders_next 28 = .ok (.iconst 1, 1) := by decide +kernel
theorem d_Orders_next_29 : decode b_Orders_next 29 = .ok (.iadd, 1) := by decide +kernel
theorem d_Orders_next_30 : decode b_Orders_next 30 = .ok (.istore_n 3, 1) := by decide +kernel
theorem d_Orders_next_31 : decode b_Orders_next 31 = .ok (.iload_n 3, 1) := by decide +kernel
theorem d_Orders_next_32 : decode b_Orders_next 32 = .ok (.iload_n 2, 1) := by decide +kernel
theorem d_Orders_next_33 : decode b_Orders_next 33 = .ok (.if_icmp .ge 18, 3) := by decide +kernel
theorem d_Orders_next_36 : decode b_Orders_next 36 = .ok (.aload_n 0, 1) := by decide +kernel
theorem d_Orders_next_37 : decode b_Orders_next 37 = .ok (.iload_n 3, 1) := by decide +kernel
theorem d_Orders_next_38 : decode b_Orders_next 38 = .ok (.iload_n 2, 1) := by decide +kernel
theorem d_Orders_next_39 : decode b_Orders_next 39 = .ok (.invokevirtual 27, 3) := by decide +kernel
theorem d_Orders_next_42 : decode b_Orders_next 42 = .ok (.iinc 2 (-1), 3) := by decide +kernel
theorem d_Orders_next_45 : decode b_Orders_next 45 = .ok (.iinc 3 1, 3) := by decide +kernel
theorem d_Orders_next_48 : decode b_Orders_next 48 = .ok (.goto (-17), 3) := by decide +kernel
theorem d_Orders_next_51 : decode b_Orders_next 51 = .ok (.return_, 1) := by decide +kernel
set_option maxRecDepth 20000 in
theorem c_Orders_next {l : Launch} {g : GG} (hI : WI g) (M : Mem) (R : Mem → Prop) (h : wp_Orders_next  M R) : Met l y_Orders_next (wm y_Orders_next b_Orders_next 4 none) (RM 1 23) (PP g M [.ref (g.2.2.2 22)]) (PQ g (RV R)) 0 0 (AW g) := by
  refine m_of (own := N_Orders) (by decide) rfl (Nat.le_of_ble_eq_true rfl) ?_
  intro p e s m below meth c ls C hr hlocks hW hP hS hl
  obtain ⟨hx, hb, hml, hown, hts⟩ := id C
  have hl : lv_has ls 4 [(0, .ref (g.2.2.2 22))] := hl
  unfold wp_Orders_next at h
  obtain ⟨X31, eX31⟩ : ∃ X : Int32 → Int32 → Mem → Prop, ∀ (x2 : Int32) (x3 : Int32) (M : Mem), X x2 x3 M ↔ (∀ (H : Heap) (locs : List Loc) (ls : Array Slot), WP g M H → va_S (AW g) s.heap H locs → lv_has ls 4 [(0, .ref (g.2.2.2 22)), (2, .int x2), (3, .int x3)] → W p l e (RM 1 23) s m ([.ref (g.2.2.2 22)] : List Value).toArray below meth c H locs 0 0 (MQ below (PQ g (RV R)) ([.ref (g.2.2.2 22)] : List Value).toArray s 0 0 (AW g)) (F0 m 31 ls [])) := ⟨fun x2 x3 M => _, fun _ _ _ => Iff.rfl⟩
  suffices hcl : (∀ (x2 : Int32) (x3 : Int32) (M : Mem), wp_Orders_next_31 X31 R x2 x3 M → X31 x2 x3 M) by
    have hk := h X31 hcl
    refine lv_aload_n hx hb d_Orders_next_0 rfl (lv_at hl 0 rfl) ?_
    refine r_runI (k_V (As := []) (rest := []) C hW hP (c_Orders_lastRise hI M _ hk) cb_Orders_lastRise ml_Orders_19 (io_22 g M) ⟨by decide, by decide⟩ rfl hl.1 rfl (Nat.le_of_ble_eq_true rfl) d_Orders_next_1 ⟨by decide, by decide⟩) hS (fun r6 M5 H locs hk hP hS => ?_)
    refine lv_istore_n (lv' := [(1, .int r6), (0, .ref (g.2.2.2 22))]) hx hb d_Orders_next_4 rfl hl (by decide) rfl (fun ls hl => ?_)
    refine lv_iload_n hx hb d_Orders_next_5 rfl (lv_at hl 0 rfl) ?_
    refine lv_if_ge (tgt := 10) hx hb d_Orders_next_6 (by decide) (fun c7 => ?_) (fun c7 => ?_)
    · have hk := hk.1 c7
      refine lv_aload_n hx hb d_Orders_next_10 rfl (lv_at hl 1 rfl) ?_
      refine lv_iload_n hx hb d_Orders_next_11 rfl (lv_at hl 0 rfl) ?_
      refine lv_aload_n hx hb d_Orders_next_12 rfl (lv_at hl 1 rfl) ?_
      refine lv_iload_n hx hb d_Orders_next_13 rfl (lv_at hl 0 rfl) ?_
      refine r_runI (k_V (As := [.int r6]) (rest := [.int r6, .ref (g.2.2.2 22)]) C hW hP (c_Orders_lastAbove hI r6 M5 _ hk) cb_Orders_lastAbove ml_Orders_23 (io_22 g M5) ⟨by decide, by decide⟩ rfl hl.1 rfl (Nat.le_of_ble_eq_true rfl) d_Orders_next_14 ⟨by decide, by decide⟩) hS (fun r9 M8 H locs hk hP hS => ?_)
      refine r_runV (k_V (As := [.int r6, .int r9]) (rest := []) C hW hP (c_Orders_swap hI r6 r9 M8 _ hk) cb_Orders_swap ml_Orders_27 (io_22 g M8) ⟨by decide, by decide⟩ rfl hl.1 rfl (Nat.le_of_ble_eq_true rfl) d_Orders_next_17 ⟨by decide, by decide⟩) hS (fun M10 H locs hk hP hS => ?_)
      refine lv_aload_n hx hb d_Orders_next_20 rfl (lv_at hl 1 rfl) ?_
      refine gf_22_1 C hW hP fl_Orders_15 d_Orders_next_21 ?_
      refine lv_iconst (v := 1) hx hb d_Orders_next_24 (by decide) ?_
      refine lv_isub hx hb d_Orders_next_25 ?_
      refine lv_topi (fun x2_11 ex2_11 => ?_)
      have hk := hk x2_11 ex2_11
      refine lv_istore_n (lv' := [(2, .int x2_11), (1, .int r6), (0, .ref (g.2.2.2 22))]) hx hb d_Orders_next_26 rfl hl (by decide) rfl (fun ls hl => ?_)
      refine lv_iload_n hx hb d_Orders_next_27 rfl (lv_at hl 1 rfl) ?_
      refine lv_iconst (v := 1) hx hb d_Orders_next_28 (by decide) ?_
      refine lv_iadd hx hb d_Orders_next_29 ?_
      refine lv_topi (fun x3_12 ex3_12 => ?_)
      have hk := hk x3_12 ex3_12
      refine lv_istore_n (lv' := [(3, .int x3_12), (2, .int x2_11), (1, .int r6), (0, .ref (g.2.2.2 22))]) hx hb d_Orders_next_30 rfl hl (by decide) rfl (fun ls hl => ?_)
      exact (eX31 x2_11 x3_12 M10).mp hk _ _ _ hP hS (lv_sub hl [3, 1, 0] rfl)
    · have hk := hk.2 c7
      exact r_vret C hr hlocks hP hS hk d_Orders_next_9
  · intro x2 x3 M hk
    refine (eX31 x2 x3 M).mpr ?_
    intro H locs ls hP hS hl
    unfold wp_Orders_next_31 at hk
    refine lv_iload_n hx hb d_Orders_next_31 rfl (lv_at hl 2 rfl) ?_
    refine lv_iload_n hx hb d_Orders_next_32 rfl (lv_at hl 1 rfl) ?_
    refine lv_icmp_ge (tgt := 51) hx hb d_Orders_next_33 (by decide) (fun c1 => ?_) (fun c1 => ?_)
    · have hk := hk.1 c1
      exact r_vret C hr hlocks hP hS hk d_Orders_next_51
    · have hk := hk.2 c1
      refine lv_aload_n hx hb d_Orders_next_36 rfl (lv_at hl 0 rfl) ?_
      refine lv_iload_n hx hb d_Orders_next_37 rfl (lv_at hl 2 rfl) ?_
      refine lv_iload_n hx hb d_Orders_next_38 rfl (lv_at hl 1 rfl) ?_
      refine r_runV (k_V (As := [.int x3, .int x2]) (rest := []) C hW hP (c_Orders_swap hI x3 x2 M _ hk) cb_Orders_swap ml_Orders_27 (io_22 g M) ⟨by decide, by decide⟩ rfl hl.1 rfl (Nat.le_of_ble_eq_true rfl) d_Orders_next_39 ⟨by decide, by decide⟩) hS (fun M2 H locs hk hP hS => ?_)
      obtain ⟨x2_3, ex2_3⟩ : ∃ y : Int32, y = x2 + (-1 : Int32) := ⟨_, rfl⟩
      have hk := hk x2_3 ex2_3
      refine lv_iinc (v := x2_3) (lv' := [(2, .int x2_3), (0, .ref (g.2.2.2 22)), (3, .int x3)]) hx hb d_Orders_next_42 hl (k := 1) rfl (by rw [ex2_3]; rfl) (by decide) rfl (fun ls hl => ?_)
      obtain ⟨x3_4, ex3_4⟩ : ∃ y : Int32, y = x3 + (1 : Int32) := ⟨_, rfl⟩
      have hk := hk x3_4 ex3_4
      refine lv_iinc (v := x3_4) (lv' := [(3, .int x3_4), (2, .int x2_3), (0, .ref (g.2.2.2 22))]) hx hb d_Orders_next_45 hl (k := 2) rfl (by rw [ex3_4]; rfl) (by decide) rfl (fun ls hl => ?_)
      refine lv_goto (tgt := 31) hx hb d_Orders_next_48 (by decide) ?_
      exact (eX31 x2_3 x3_4 M2).mp hk _ _ _ hP hS (lv_sub hl [2, 1, 0] rfl)
theorem d_Search_findBest_0 : decode b_Search_findBest 0 = .ok (.aload_n 0, 1) := by decide +kernel
theorem d_Search_findBest_1 : decode b_Search_findBest 1 = .ok (.iconst (-1), 1) := by decide +kernel
theorem d_Search_findBest_2 : decode b_Search_findBest 2 = .ok (.putfield 30, 3) := by decide +kernel
theorem d_Search_findBest_5 : decode b_Search_findBest 5 = .ok (.aload_n 0, 1) := by decide +kernel
theorem d_Search_findBest_6 : decode b_Search_findBest 6 = .ok (.getfield 22, 3) := by decide +kernel
theorem d_Search_findBest_9 : decode b_Search_findBest 9 = .ok (.aload_n 0, 1) := by decide +kernel
theorem d_Search_findBest_10 : decode b_Search_findBest 10 = .ok (.getfield 9, 3) := by decide +kernel
theorem d_Search_findBest_13 : decode b_Search_findBest 13 = .ok (.getfield 43, 3) := by decide +kernel
theorem d_Search_findBest_16 : decode b_Search_findBest 16 = .ok (.invokevirtual 48, 3) := by decide +kernel
theorem d_Search_findBest_19 : decode b_Search_findBest 19 = .ok (.istore_n 1, 1) := by decide +kernel
theorem d_Search_findBest_20 : decode b_Search_findBest 20 = .ok (.iconst 0, 1) := by decide +kernel
theorem d_Search_findBest_21 : decode b_Search_findBest 21 = .ok (.istore_n 2, 1) := by decide +kernel
theorem d_Search_findBest_22 : decode b_Search_findBest 22 = .ok (.iload_n 2, 1) := by decide +kernel
theorem d_Search_findBest_23 : decode b_Search_findBest 23 = .ok (.iload_n 1, 1) := by decide +kernel
theorem d_Search_findBest_24 : decode b_Search_findBest 24 = .ok (.if_icmp .ge 37, 3) := by decide +kernel
theorem d_Search_findBest_27 : decode b_Search_findBest 27 = .ok (.aload_n 0, 1) := by decide +kernel
theorem d_Search_findBest_28 : decode b_Search_findBest 28 = .ok (.invokevirtual 52, 3) := by decide +kernel
theorem d_Search_findBest_31 : decode b_Search_findBest 31 = .ok (.invokestatic 56, 3) := by decide +kernel
theorem d_Search_findBest_34 : decode b_Search_findBest 34 = .ok (.istore_n 3, 1) := by decide +kernel
theorem d_Search_findBest_35 : decode b_Search_findBest 35 = .ok (.iload_n 3, 1) := by decide +kernel
theorem d_Search_findBest_36 : decode b_Search_findBest 36 = .ok (.aload_n 0, 1) := by decide +kernel
theorem d_Search_findBest_37 : decode b_Search_findBest 37 = .ok (.getfield 30, 3) := by decide +kernel
theorem d_Search_findBest_40 : decode b_Search_findBest 40 = .ok (.if_icmp .le 8, 3) := by decide +kernel
theorem d_Search_findBest_43 : decode b_Search_findBest 43 = .ok (.aload_n 0, 1) := by decide +kernel
theorem d_Search_findBest_44 : decode b_Search_findBest 44 = .ok (.iload_n 3, 1) := by decide +kernel
theorem d_Search_findBest_45 : decode b_Search_findBest 45 = .ok (.invokevirtual 61, 3) := by decide +kernel
theorem d_Search_findBest_48 : decode b_Search_findBest 48 = .ok (.aload_n 0, 1) := by decide +kernel
theorem d_Search_findBest_49 : decode b_Search_findBest 49 = .ok (.getfield 22, 3) := by decide +kernel
theorem d_Search_findBest_52 : decode b_Search_findBest 52 = .ok (.invokevirtual 65, 3) := by decide +kernel
theorem d_Search_findBest_55 : decode b_Search_findBest 55 = .ok (.iinc 2 1, 3) := by decide +kernel
theorem d_Search_findBest_58 : decode b_Search_findBest 58 = .ok (.goto (-36), 3) := by decide +kernel
theorem d_Search_findBest_61 : decode b_Search_findBest 61 = .ok (.return_, 1) := by decide +kernel
set_option maxRecDepth 20000 in
theorem c_Search_findBest {l : Launch} {g : GG} (hI : WI g) (M : Mem) (R : Mem → Prop) (h : wp_Search_findBest  M R) : Met l y_Search_findBest (wm y_Search_findBest b_Search_findBest 4 none) (RM 5 115) (PP g M [.ref (g.2.2.2 21)]) (PQ g (RV R)) 0 0 (AW g) := by
  refine m_of (own := N_Search) (by decide) rfl (Nat.le_of_ble_eq_true rfl) ?_
  intro p e s m below meth c ls C hr hlocks hW hP hS hl
  obtain ⟨hx, hb, hml, hown, hts⟩ := id C
  have hl : lv_has ls 4 [(0, .ref (g.2.2.2 21))] := hl
  unfold wp_Search_findBest at h
  obtain ⟨X22, eX22⟩ : ∃ X : Int32 → Int32 → Mem → Prop, ∀ (x1 : Int32) (x2 : Int32) (M : Mem), X x1 x2 M ↔ (∀ (H : Heap) (locs : List Loc) (ls : Array Slot), WP g M H → va_S (AW g) s.heap H locs → lv_has ls 4 [(0, .ref (g.2.2.2 21)), (1, .int x1), (2, .int x2)] → W p l e (RM 5 115) s m ([.ref (g.2.2.2 21)] : List Value).toArray below meth c H locs 0 0 (MQ below (PQ g (RV R)) ([.ref (g.2.2.2 21)] : List Value).toArray s 0 0 (AW g)) (F0 m 22 ls [])) := ⟨fun x1 x2 M => _, fun _ _ _ => Iff.rfl⟩
  have J48 : ∀ (x1 : Int32) (x2 : Int32) (M : Mem), wp_Search_findBest_48 X22 R x1 x2 M → ∀ (H : Heap) (locs : List Loc) (ls : Array Slot), WP g M H → va_S (AW g) s.heap H locs → lv_has ls 4 [(0, .ref (g.2.2.2 21)), (1, .int x1), (2, .int x2)] → W p l e (RM 5 115) s m ([.ref (g.2.2.2 21)] : List Value).toArray below meth c H locs 0 0 (MQ below (PQ g (RV R)) ([.ref (g.2.2.2 21)] : List Value).toArray s 0 0 (AW g)) (F0 m 48 ls []) := by
    intro x1 x2 M hk H locs ls hP hS hl
    unfold wp_Search_findBest_48 at hk
    refine lv_aload_n hx hb d_Search_findBest_48 rfl (lv_at hl 0 rfl) ?_
    refine gf_21_2 C hW hP fl_Search_22 d_Search_findBest_49 ?_
    refine r_runV (k_V (As := []) (rest := []) C hW hP (c_Orders_next hI M _ hk) cb_Orders_next ml_Search_65 (io_22 g M) ⟨by decide, by decide⟩ rfl hl.1 rfl (Nat.le_of_ble_eq_true rfl) d_Search_findBest_52 ⟨by decide, by decide⟩) hS (fun M8 H locs hk hP hS => ?_)
    obtain ⟨x2_9, ex2_9⟩ : ∃ y : Int32, y = x2 + (1 : Int32) := ⟨_, rfl⟩
    have hk := hk x2_9 ex2_9
    refine lv_iinc (v := x2_9) (lv' := [(2, .int x2_9), (0, .ref (g.2.2.2 21)), (1, .int x1)]) hx hb d_Search_findBest_55 hl (k := 2) rfl (by rw [ex2_9]; rfl) (by decide) rfl (fun ls hl => ?_)
    refine lv_goto (tgt := 22) hx hb d_Search_findBest_58 (by decide) ?_
    exact (eX22 x1 x2_9 M8).mp hk _ _ _ hP hS (lv_sub hl [1, 2, 0] rfl)
  suffices hcl : (∀ (x1 : Int32) (x2 : Int32) (M : Mem), wp_Search_findBest_22 X22 R x1 x2 M → X22 x1 x2 M) by
    have hk := h X22 hcl
    refine lv_aload_n hx hb d_Search_findBest_0 rfl (lv_at hl 0 rfl) ?_
    refine lv_iconst (v := -1) hx hb d_Search_findBest_1 (by decide) ?_
    refine pf_21_4 hI C hW hP hS fl_Search_30 d_Search_findBest_2 (fun M10 eM10 H locs hP hS => ?_)
    have hk := hk M10 eM10
    refine lv_aload_n hx hb d_Search_findBest_5 rfl (lv_at hl 0 rfl) ?_
    refine gf_21_2 C hW hP fl_Search_22 d_Search_findBest_6 ?_
    refine lv_aload_n hx hb d_Search_findBest_9 rfl (lv_at hl 0 rfl) ?_
    refine gf_21_0 C hW hP fl_Search_9 d_Search_findBest_10 ?_
    refine gf_12_6 C hW hP fl_Search_43 d_Search_findBest_13 ?_
    refine r_runI (k_V (As := [.int (M10 12 6)]) (rest := []) C hW hP (c_Orders_begin hI (M10 12 6) M10 _ hk) cb_Orders_begin ml_Search_48 (io_22 g M10) ⟨by decide, by decide⟩ rfl hl.1 rfl (Nat.le_of_ble_eq_true rfl) d_Search_findBest_16 ⟨by decide, by decide⟩) hS (fun r12 M11 H locs hk hP hS => ?_)
    refine lv_istore_n (lv' := [(1, .int r12), (0, .ref (g.2.2.2 21))]) hx hb d_Search_findBest_19 rfl hl (by decide) rfl (fun ls hl => ?_)
    refine lv_iconst (v := 0) hx hb d_Search_findBest_20 (by decide) ?_
    refine lv_istore_n (lv' := [(2, .int (0 : Int32)), (1, .int r12), (0, .ref (g.2.2.2 21))]) hx hb d_Search_findBest_21 rfl hl (by decide) rfl (fun ls hl => ?_)
    exact (eX22 r12 (0 : Int32) M11).mp hk _ _ _ hP hS (lv_sub hl [2, 1, 0] rfl)
  · intro x1 x2 M hk
    refine (eX22 x1 x2 M).mpr ?_
    intro H locs ls hP hS hl
    unfold wp_Search_findBest_22 at hk
    refine lv_iload_n hx hb d_Search_findBest_22 rfl (lv_at hl 2 rfl) ?_
    refine lv_iload_n hx hb d_Search_findBest_23 rfl (lv_at hl 1 rfl) ?_
    refine lv_icmp_ge (tgt := 61) hx hb d_Search_findBest_24 (by decide) (fun c1 => ?_) (fun c1 => ?_)
    · have hk := hk.1 c1
      exact r_vret C hr hlocks hP hS hk d_Search_findBest_61
    · have hk := hk.2 c1
      refine lv_aload_n hx hb d_Search_findBest_27 rfl (lv_at hl 0 rfl) ?_
      refine r_runI (k_V (As := []) (rest := []) C hW hP (c_Search_goInOrder hI M _ hk) cb_Search_goInOrder ml_Search_52 (io_21 g M) ⟨by decide, by decide⟩ rfl hl.1 rfl (Nat.le_of_ble_eq_true rfl) d_Search_findBest_28 ⟨by decide, by decide⟩) hS (fun r3 M2 H locs hk hP hS => ?_)
      refine r_runI (k_S (As := [.int r3]) (rest := []) C hW hP (c_Int_bitCount hI r3 M2 _ hk) cb_Int_bitCount ml_Search_56 ⟨by decide, by decide⟩ rfl hl.1 rfl (Nat.le_of_ble_eq_true rfl) d_Search_findBest_31 ⟨by decide, by decide⟩) hS (fun r5 M4 H locs hk hP hS => ?_)
      refine lv_istore_n (lv' := [(3, .int r5), (0, .ref (g.2.2.2 21)), (1, .int x1), (2, .int x2)]) hx hb d_Search_findBest_34 rfl hl (by decide) rfl (fun ls hl => ?_)
      refine lv_iload_n hx hb d_Search_findBest_35 rfl (lv_at hl 0 rfl) ?_
      refine lv_aload_n hx hb d_Search_findBest_36 rfl (lv_at hl 1 rfl) ?_
      refine gf_21_4 C hW hP fl_Search_30 d_Search_findBest_37 ?_
      refine lv_icmp_le (tgt := 48) hx hb d_Search_findBest_40 (by decide) (fun c6 => ?_) (fun c6 => ?_)
      · have hk := hk.1 c6
        exact J48 x1 x2 M4 hk _ _ _ hP hS (lv_sub hl [1, 2, 3] rfl)
      · have hk := hk.2 c6
        refine lv_aload_n hx hb d_Search_findBest_43 rfl (lv_at hl 1 rfl) ?_
        refine lv_iload_n hx hb d_Search_findBest_44 rfl (lv_at hl 0 rfl) ?_
        refine r_runV (k_V (As := [.int r5]) (rest := []) C hW hP (c_Search_keep hI r5 M4 _ hk) cb_Search_keep ml_Search_61 (io_21 g M4) ⟨by decide, by decide⟩ rfl hl.1 rfl (Nat.le_of_ble_eq_true rfl) d_Search_findBest_45 ⟨by decide, by decide⟩) hS (fun M7 H locs hk hP hS => ?_)
        exact J48 x1 x2 M7 hk _ _ _ hP hS (lv_sub hl [1, 2, 3] rfl)
theorem d_Main_best_0 : decode b_Main_best 0 = .ok (.iload_n 1, 1) := by decide +kernel
theorem d_Main_best_1 : decode b_Main_best 1 = .ok (.iconst (-1), 1) := by decide +kernel
theorem d_Main_best_2 : decode b_Main_best 2 = .ok (.if_icmp .ge 5, 3) := by decide +kernel
theorem d_Main_best_5 : decode b_Main_best 5 = .ok (.iconst (-1), 1) := by decide +kernel
theorem d_Main_best_6 : decode b_Main_best 6 = .ok (.ireturn, 1) := by decide +kernel
theorem d_Main_best_7 : decode b_Main_best 7 = .ok (.aload_n 0, 1) := by decide +kernel
theorem d_Main_best_8 : decode b_Main_best 8 = .ok (.getfield 28, 3) := by decide +kernel
theorem d_Main_best_11 : decode b_Main_best 11 = .ok (.invokevirtual 131, 3) := by decide +kernel
theorem d_Main_best_14 : decode b_Main_best 14 = .ok (.ifCond .ne 6, 3) := by decide +kernel
theorem d_Main_best_17 : decode b_Main_best 17 = .ok (.bipush (-3), 2) := by decide +kernel
theorem d_Main_best_19 : decode b_Main_best 19 = .ok (.ireturn, 1) := by decide +kernel
theorem d_Main_best_20 : decode b_Main_best 20 = .ok (.iload_n 1, 1) := by decide +kernel
theorem d_Main_best_21 : decode b_Main_best 21 = .ok (.aload_n 0, 1) := by decide +kernel
theorem d_Main_best_22 : decode b_Main_best 22 = .ok (.getfield 28, 3) := by decide +kernel
theorem d_Main_best_25 : decode b_Main_best 25 = .ok (.getfield 172, 3) := by decide +kernel
theorem d_Main_best_28 : decode b_Main_best 28 = .ok (.if_icmp .lt 6, 3) := by decide +kernel
theorem d_Main_best_31 : decode b_Main_best 31 = .ok (.bipush (-9), 2) := by decide +kernel
theorem d_Main_best_33 : decode b_Main_best 33 = .ok (.ireturn, 1) := by decide +kernel
theorem d_Main_best_34 : decode b_Main_best 34 = .ok (.aload_n 0, 1) := by decide +kernel
theorem d_Main_best_35 : decode b_Main_best 35 = .ok (.getfield 46, 3) := by decide +kernel
theorem d_Main_best_38 : decode b_Main_best 38 = .ok (.invokevirtual 175, 3) := by decide +kernel
theorem d_Main_best_41 : decode b_Main_best 41 = .ok (.iload_n 1, 1) := by decide +kernel
theorem d_Main_best_42 : decode b_Main_best 42 = .ok (.ifCond .ge 13, 3) := by decide +kernel
theorem d_Main_best_45 : decode b_Main_best 45 = .ok (.aload_n 0, 1) := by decide +kernel
theorem d_Main_best_46 : decode b_Main_best 46 = .ok (.getfield 46, 3) := by decide +kernel
theorem d_Main_best_49 : decode b_Main_best 49 = .ok (.getfield 178, 3) := by decide +kernel
theorem d_Main_best_52 : decode b_Main_best 52 = .ok (.goto 12, 3) := by decide +kernel
theorem d_Main_best_55 : decode b_Main_best 55 = .ok (.aload_n 0, 1) := by decide +kernel
theorem d_Main_best_56 : decode b_Main_best 56 = .ok (.getfield 46, 3) := by decide +kernel
theorem d_Main_best_59 : decode b_Main_best 59 = .ok (.getfield 181, 3) := by decide +kernel
theorem d_Main_best_62 : decode b_Main_best 62 = .ok (.iload_n 1, 1) := by decide +kernel
theorem d_Main_best_63 : decode b_Main_best 63 = .ok (.iaload, 1) := by decide +kernel
theorem d_Main_best_64 : decode b_Main_best 64 = .ok (.ireturn, 1) := by decide +kernel
set_option maxRecDepth 20000 in
theorem c_Main_best {l : Launch} {g : GG} (hI : WI g) (a1 : Int32) (M : Mem) (R : Int32 → Mem → Prop) (h : wp_Main_best a1 M R) : Met l y_Main_best (wm y_Main_best b_Main_best 2 (some .int)) (RM 6 138) (PP g M [.ref (g.2.2.2 0), .int a1]) (PQ g (RI R)) 0 0 (AW g) := by
  refine m_of (own := N_Main) (by decide) rfl (Nat.le_of_ble_eq_true rfl) ?_
  intro p e s m below meth c ls C hr hlocks hW hP hS hl
  obtain ⟨hx, hb, hml, hown, hts⟩ := id C
  have hl : lv_has ls 2 [(0, .ref (g.2.2.2 0)), (1, .int a1)] := hl
  unfold wp_Main_best at h
  have hk := h
  refine lv_iload_n hx hb d_Main_best_0 rfl (lv_at hl 1 rfl) ?_
  refine lv_iconst (v := -1) hx hb d_Main_best_1 (by decide) ?_
  refine lv_icmp_ge (tgt := 7) hx hb d_Main_best_2 (by decide) (fun c1 => ?_) (fun c1 => ?_)
  · have hk := hk.1 c1
    refine lv_aload_n hx hb d_Main_best_7 rfl (lv_at hl 0 rfl) ?_
    refine gf_0_2 C hW hP fl_Main_28 d_Main_best_8 ?_
    refine r_runZ (k_V (As := []) (rest := []) C hW hP (c_Way_isTold hI M _ hk) cb_Way_isTold ml_Main_131 (io_12 g M) ⟨by decide, by decide⟩ rfl hl.1 rfl (Nat.le_of_ble_eq_true rfl) d_Main_best_11 ⟨by decide, by decide⟩) hS (fun r3 M2 H locs zr3 hk hP hS => ?_)
    refine lv_if_ne (tgt := 20) hx hb d_Main_best_14 (by decide) (fun c4 => ?_) (fun c4 => ?_)
    · have hk := hk.1 c4
      refine lv_iload_n hx hb d_Main_best_20 rfl (lv_at hl 1 rfl) ?_
      refine lv_aload_n hx hb d_Main_best_21 rfl (lv_at hl 0 rfl) ?_
      refine gf_0_2 C hW hP fl_Main_28 d_Main_best_22 ?_
      refine gf_12_6 C hW hP fl_Main_172 d_Main_best_25 ?_
      refine lv_icmp_lt (tgt := 34) hx hb d_Main_best_28 (by decide) (fun c5 => ?_) (fun c5 => ?_)
      · have hk := hk.1 c5
        refine lv_aload_n hx hb d_Main_best_34 rfl (lv_at hl 0 rfl) ?_
        refine gf_0_4 C hW hP fl_Main_46 d_Main_best_35 ?_
        refine r_runV (k_V (As := []) (rest := []) C hW hP (c_Search_findBest hI M2 _ hk) cb_Search_findBest ml_Main_175 (io_21 g M2) ⟨by decide, by decide⟩ rfl hl.1 rfl (Nat.le_of_ble_eq_true rfl) d_Main_best_38 ⟨by decide, by decide⟩) hS (fun M6 H locs hk hP hS => ?_)
        refine lv_iload_n hx hb d_Main_best_41 rfl (lv_at hl 1 rfl) ?_
        refine lv_if_ge (tgt := 55) hx hb d_Main_best_42 (by decide) (fun c7 => ?_) (fun c7 => ?_)
        · have hk := hk.1 c7
          refine lv_aload_n hx hb d_Main_best_55 rfl (lv_at hl 0 rfl) ?_
          refine gf_0_4 C hW hP fl_Main_46 d_Main_best_56 ?_
          refine gf_21_3 C hW hP fl_Main_181 d_Main_best_59 ?_
          refine lv_iload_n hx hb d_Main_best_62 rfl (lv_at hl 1 rfl) ?_
          obtain ⟨h8, hk⟩ := hk
          refine al_24 C hW hP h8 d_Main_best_63 ?_
          exact r_iret C hr hlocks hP hS hk d_Main_best_64
        · have hk := hk.2 c7
          refine lv_aload_n hx hb d_Main_best_45 rfl (lv_at hl 0 rfl) ?_
          refine gf_0_4 C hW hP fl_Main_46 d_Main_best_46 ?_
          refine gf_21_4 C hW hP fl_Main_178 d_Main_best_49 ?_
          refine lv_goto (tgt := 64) hx hb d_Main_best_52 (by decide) ?_
          exact r_iret C hr hlocks hP hS hk d_Main_best_64
      · have hk := hk.2 c5
        refine lv_bipush (v := -9) hx hb d_Main_best_31 (by decide) ?_
        exact r_iret C hr hlocks hP hS hk d_Main_best_33
    · have hk := hk.2 c4
      refine lv_bipush (v := -3) hx hb d_Main_best_17 (by decide) ?_
      exact r_iret C hr hlocks hP hS hk d_Main_best_19
  · have hk := hk.2 c1
    refine lv_iconst (v := -1) hx hb d_Main_best_5 (by decide) ?_
    exact r_iret C hr hlocks hP hS hk d_Main_best_6
