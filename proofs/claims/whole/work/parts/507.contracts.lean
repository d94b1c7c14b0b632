theorem d_Model_visitAll_0 : decode b_Model_visitAll 0 = .ok (.aload_n 0, 1) := by decide +kernel
theorem d_Model_visitAll_1 : decode b_Model_visitAll 1 = .ok (.invokevirtual 142, 3) := by decide +kernel
theorem d_Model_visitAll_4 : decode b_Model_visitAll 4 = .ok (.bipush (-9), 2) := by decide +kernel
theorem d_Model_visitAll_6 : decode b_Model_visitAll 6 = .ok (.istore 4, 2) := by decide +kernel
theorem d_Model_visitAll_8 : decode b_Model_visitAll 8 = .ok (.iconst 0, 1) := by decide +kernel
theorem d_Model_visitAll_9 : decode b_Model_visitAll 9 = .ok (.istore 5, 2) := by decide +kernel
theorem d_Model_visitAll_11 : decode b_Model_visitAll 11 = .ok (.iload 5, 2) := by decide +kernel
theorem d_Model_visitAll_13 : decode b_Model_visitAll 13 = .ok (.iload_n 2, 1) := by decide +kernel
theorem d_Model_visitAll_14 : decode b_Model_visitAll 14 = .ok (.if_icmp .ge 60, 3) := by decide +kernel
theorem d_Model_visitAll_17 : decode b_Model_visitAll 17 = .ok (.aload_n 0, 1) := by decide +kernel
theorem d_Model_visitAll_18 : decode b_Model_visitAll 18 = .ok (.aload_n 0, 1) := by decide +kernel
theorem d_Model_visitAll_19 : decode b_Model_visitAll 19 = .ok (.getfield 16, 3) := by decide +kernel
theorem d_Model_visitAll_22 : decode b_Model_visitAll 22 = .ok (.iload_n 1, 1) := by decide +kernel
theorem d_Model_visitAll_23 : decode b_Model_visitAll 23 = .ok (.iconst 2, 1) := by decide +kernel
theorem d_Model_visitAll_24 : decode b_Model_visitAll 24 = .ok (.iload 5, 2) := by decide +kernel
theorem d_Model_visitAll_26 : decode b_Model_visitAll 26 = .ok (.imul, 1) := by decide +kernel
theorem d_Model_visitAll_27 : decode b_Model_visitAll 27 = .ok (.iadd, 1) := by decide +kernel
theorem d_Model_visitAll_28 : decode b_Model_visitAll 28 = .ok (.iaload, 1) := by decide +kernel
theorem d_Model_visitAll_29 : decode b_Model_visitAll 29 = .ok (.aload_n 0, 1) := by decide +kernel
theorem d_Model_visitAll_30 : decode b_Model_visitAll 30 = .ok (.getfield 16, 3) := by decide +kernel
theorem d_Model_visitAll_33 : decode b_Model_visitAll 33 = .ok (.iload_n 1, 1) := by decide +kernel
theorem d_Model_visitAll_34 : decode b_Model_visitAll 34 = .ok (.iconst 2, 1) := by decide +kernel
theorem d_Model_visitAll_35 : decode b_Model_visitAll 35 = .ok (.iload 5, 2) := by decide +kernel
theorem d_Model_visitAll_37 : decode b_Model_visitAll 37 = .ok (.imul, 1) := by decide +kernel
theorem d_Model_visitAll_38 : decode b_Model_visitAll 38 = .ok (.iadd, 1) := by decide +kernel
theorem d_Model_visitAll_39 : decode b_Model_visitAll 39 = .ok (.iconst 1, 1) := by decide +kernel
theorem d_Model_visitAll_40 : decode b_Model_visitAll 40 = .ok (.iadd, 1) := by decide +kernel
theorem d_Model_visitAll_41 : decode b_Model_visitAll 41 = .ok (.iaload, 1) := by decide +kernel
theorem d_Model_visitAll_42 : decode b_Model_visitAll 42 = .ok (.invokevirtual 139, 3) := by decide +kernel
theorem d_Model_visitAll_45 : decode b_Model_visitAll 45 = .ok (.istore 6, 2) := by decide +kernel
theorem d_Model_visitAll_47 : decode b_Model_visitAll 47 = .ok (.iload 4, 2) := by decide +kernel
theorem d_Model_visitAll_49 : decode b_Model_visitAll 49 = .ok (.bipush (-9), 2) := by decide +kernel
theorem d_Model_visitAll_51 : decode b_Model_visitAll 51 = .ok (.if_icmp .ne 13, 3) := by decide +kernel
theorem d_Model_visitAll_54 : decode b_Model_visitAll 54 = .ok (.iload 6, 2) := by decide +kernel
theorem d_Model_visitAll_56 : decode b_Model_visitAll 56 = .ok (.ifCond .eq 8, 3) := by decide +kernel
theorem d_Model_visitAll_59 : decode b_Model_visitAll 59 = .ok (.iload 5, 2) := by decide +kernel
theorem d_Model_visitAll_61 : decode b_Model_visitAll 61 = .ok (.goto 5, 3) := by decide +kernel
theorem d_Model_visitAll_64 : decode b_Model_visitAll 64 = .ok (.iload 4, 2) := by decide +kernel
theorem d_Model_visitAll_66 : decode b_Model_visitAll 66 = .ok (.istore 4, 2) := by decide +kernel
theorem d_Model_visitAll_68 : decode b_Model_visitAll 68 = .ok (.iinc 5 1, 3) := by decide +kernel
theorem d_Model_visitAll_71 : decode b_Model_visitAll 71 = .ok (.goto (-60), 3) := by decide +kernel
theorem d_Model_visitAll_74 : decode b_Model_visitAll 74 = .ok (.iload_n 3, 1) := by decide +kernel
theorem d_Model_visitAll_75 : decode b_Model_visitAll 75 = .ok (.iconst 2, 1) := by decide +kernel
theorem d_Model_visitAll_76 : decode b_Model_visitAll 76 = .ok (.if_icmp .ge 17, 3) := by decide +kernel
theorem d_Model_visitAll_79 : decode b_Model_visitAll 79 = .ok (.iload_n 3, 1) := by decide +kernel
theorem d_Model_visitAll_80 : decode b_Model_visitAll 80 = .ok (.ifCond .ne 10, 3) := by decide +kernel
theorem d_Model_visitAll_83 : decode b_Model_visitAll 83 = .ok (.aload_n 0, 1) := by decide +kernel
theorem d_Model_visitAll_84 : decode b_Model_visitAll 84 = .ok (.getfield 133, 3) := by decide +kernel
theorem d_Model_visitAll_87 : decode b_Model_visitAll 87 = .ok (.goto 5, 3) := by decide +kernel
theorem d_Model_visitAll_90 : decode b_Model_visitAll 90 = .ok (.iload 4, 2) := by decide +kernel
theorem d_Model_visitAll_92 : decode b_Model_visitAll 92 = .ok (.ireturn, 1) := by decide +kernel
theorem d_Model_visitAll_93 : decode b_Model_visitAll 93 = .ok (.aload_n 0, 1) := by decide +kernel
theorem d_Model_visitAll_94 : decode b_Model_visitAll 94 = .ok (.iload_n 3, 1) := by decide +kernel
theorem d_Model_visitAll_95 : decode b_Model_visitAll 95 = .ok (.bipush 10, 2) := by decide +kernel
theorem d_Model_visitAll_97 : decode b_Model_visitAll 97 = .ok (.isub, 1) := by decide +kernel
theorem d_Model_visitAll_98 : decode b_Model_visitAll 98 = .ok (.invokevirtual 121, 3) := by decide +kernel
theorem d_Model_visitAll_101 : decode b_Model_visitAll 101 = .ok (.ifCond .eq 15, 3) := by decide +kernel
theorem d_Model_visitAll_104 : decode b_Model_visitAll 104 = .ok (.aload_n 0, 1) := by decide +kernel
theorem d_Model_visitAll_105 : decode b_Model_visitAll 105 = .ok (.getfield 47, 3) := by decide +kernel
theorem d_Model_visitAll_108 : decode b_Model_visitAll 108 = .ok (.iload_n 3, 1) := by decide +kernel
theorem d_Model_visitAll_109 : decode b_Model_visitAll 109 = .ok (.bipush 10, 2) := by decide +kernel
theorem d_Model_visitAll_111 : decode b_Model_visitAll 111 = .ok (.isub, 1) := by decide +kernel
theorem d_Model_visitAll_112 : decode b_Model_visitAll 112 = .ok (.iaload, 1) := by decide +kernel
theorem d_Model_visitAll_113 : decode b_Model_visitAll 113 = .ok (.goto 5, 3) := by decide +kernel
theorem d_Model_visitAll_116 : decode b_Model_visitAll 116 = .ok (.bipush (-9), 2) := by decide +kernel
theorem d_Model_visitAll_118 : decode b_Model_visitAll 118 = .ok (.ireturn, 1) := by decide +kernel
set_option maxRecDepth 20000 in
theorem c_Model_visitAll {l : Launch} {g : GG} (hI : WI g) (a1 : Int32) (a2 : Int32) (a3 : Int32) (M : Mem) (R : Int32 → Mem → Prop) (h : wp_Model_visitAll a1 a2 a3 M R) : Met l y_Model_visitAll (wm y_Model_visitAll b_Model_visitAll 7 (some .int)) (RM 2 51) (PP g M [.ref (g.2.2.2 29), .int a1, .int a2, .int a3]) (PQ g (RI R)) 0 0 (AW g) := by
  refine m_of (own := N_Model) (by decide) rfl (Nat.le_of_ble_eq_true rfl) ?_
  intro p e s m below meth c ls C hr hlocks hW hP hS hl
  obtain ⟨hx, hb, hml, hown, hts⟩ := id C
  have hl : lv_has ls 7 [(0, .ref (g.2.2.2 29)), (1, .int a1), (2, .int a2), (3, .int a3)] := hl
  unfold wp_Model_visitAll at h
  obtain ⟨X11, eX11⟩ : ∃ X : Int32 → Int32 → Int32 → Int32 → Int32 → Mem → Prop, ∀ (x1 : Int32) (x2 : Int32) (x3 : Int32) (x4 : Int32) (x5 : Int32) (M : Mem), X x1 x2 x3 x4 x5 M ↔ (∀ (H : Heap) (locs : List Loc) (ls : Array Slot), WP g M H → va_S (AW g) s.heap H locs → lv_has ls 7 [(0, .ref (g.2.2.2 29)), (1, .int x1), (2, .int x2), (3, .int x3), (4, .int x4), (5, .int x5)] → W p l e (RM 2 51) s m ([.ref (g.2.2.2 29), .int a1, .int a2, .int a3] : List Value).toArray below meth c H locs 0 0 (MQ below (PQ g (RI R)) ([.ref (g.2.2.2 29), .int a1, .int a2, .int a3] : List Value).toArray s 0 0 (AW g)) (F0 m 11 ls [])) := ⟨fun x1 x2 x3 x4 x5 M => _, fun _ _ _ _ _ _ => Iff.rfl⟩
  have J66 : ∀ (x1 : Int32) (x2 : Int32) (x3 : Int32) (x5 : Int32) (s0 : Int32) (M : Mem), wp_Model_visitAll_66 X11 R x1 x2 x3 x5 s0 M → ∀ (H : Heap) (locs : List Loc) (ls : Array Slot), WP g M H → va_S (AW g) s.heap H locs → lv_has ls 7 [(0, .ref (g.2.2.2 29)), (1, .int x1), (2, .int x2), (3, .int x3), (5, .int x5)] → W p l e (RM 2 51) s m ([.ref (g.2.2.2 29), .int a1, .int a2, .int a3] : List Value).toArray below meth c H locs 0 0 (MQ below (PQ g (RI R)) ([.ref (g.2.2.2 29), .int a1, .int a2, .int a3] : List Value).toArray s 0 0 (AW g)) (F0 m 66 ls [.int s0]) := by
    intro x1 x2 x3 x5 s0 M hk H locs ls hP hS hl
    unfold wp_Model_visitAll_66 at hk
    refine lv_istore (lv' := [(4, .int s0), (0, .ref (g.2.2.2 29)), (1, .int x1), (2, .int x2), (3, .int x3), (5, .int x5)]) hx hb d_Model_visitAll_66 hl (by decide) rfl (fun ls hl => ?_)
    obtain ⟨x5_14, ex5_14⟩ : ∃ y : Int32, y = x5 + (1 : Int32) := ⟨_, rfl⟩
    have hk := hk x5_14 ex5_14
    refine lv_iinc (v := x5_14) (lv' := [(5, .int x5_14), (4, .int s0), (0, .ref (g.2.2.2 29)), (1, .int x1), (2, .int x2), (3, .int x3)]) hx hb d_Model_visitAll_68 hl (k := 5) rfl (by rw [ex5_14]; rfl) (by decide) rfl (fun ls hl => ?_)
    refine lv_goto (tgt := 11) hx hb d_Model_visitAll_71 (by decide) ?_
    exact (eX11 x1 x2 x3 s0 x5_14 M).mp hk _ _ _ hP hS (lv_sub hl [2, 3, 4, 5, 1, 0] rfl)
  have J64 : ∀ (x1 : Int32) (x2 : Int32) (x3 : Int32) (x4 : Int32) (x5 : Int32) (M : Mem), wp_Model_visitAll_64 X11 R x1 x2 x3 x4 x5 M → ∀ (H : Heap) (locs : List Loc) (ls : Array Slot), WP g M H → va_S (AW g) s.heap H locs → lv_has ls 7 [(0, .ref (g.2.2.2 29)), (1, .int x1), (2, .int x2), (3, .int x3), (4, .int x4), (5, .int x5)] → W p l e (RM 2 51) s m ([.ref (g.2.2.2 29), .int a1, .int a2, .int a3] : List Value).toArray below meth c H locs 0 0 (MQ below (PQ g (RI R)) ([.ref (g.2.2.2 29), .int a1, .int a2, .int a3] : List Value).toArray s 0 0 (AW g)) (F0 m 64 ls []) := by
    intro x1 x2 x3 x4 x5 M hk H locs ls hP hS hl
    unfold wp_Model_visitAll_64 at hk
    refine lv_iload hx hb d_Model_visitAll_64 (lv_at hl 4 rfl) ?_
    exact J66 x1 x2 x3 x5 x4 M hk _ _ _ hP hS (lv_sub hl [0, 1, 2, 3, 5] rfl)
  suffices hcl : (∀ (x1 : Int32) (x2 : Int32) (x3 : Int32) (x4 : Int32) (x5 : Int32) (M : Mem), wp_Model_visitAll_11 X11 R x1 x2 x3 x4 x5 M → X11 x1 x2 x3 x4 x5 M) by
    have hk := h X11 hcl
    refine lv_aload_n hx hb d_Model_visitAll_0 rfl (lv_at hl 0 rfl) ?_
    refine r_runV (k_V (As := []) (rest := []) C hW hP (c_Model_begin hI M _ hk) cb_Model_begin ml_Model_142 (io_29 g M) ⟨by decide, by decide⟩ rfl hl.1 rfl (Nat.le_of_ble_eq_true rfl) d_Model_visitAll_1 ⟨by decide, by decide⟩) hS (fun M15 H locs hk hP hS => ?_)
    refine lv_bipush (v := -9) hx hb d_Model_visitAll_4 (by decide) ?_
    refine lv_istore (lv' := [(4, .int (-9 : Int32)), (0, .ref (g.2.2.2 29)), (1, .int a1), (2, .int a2), (3, .int a3)]) hx hb d_Model_visitAll_6 hl (by decide) rfl (fun ls hl => ?_)
    refine lv_iconst (v := 0) hx hb d_Model_visitAll_8 (by decide) ?_
    refine lv_istore (lv' := [(5, .int (0 : Int32)), (4, .int (-9 : Int32)), (0, .ref (g.2.2.2 29)), (1, .int a1), (2, .int a2), (3, .int a3)]) hx hb d_Model_visitAll_9 hl (by decide) rfl (fun ls hl => ?_)
    exact (eX11 a1 a2 a3 (-9 : Int32) (0 : Int32) M15).mp hk _ _ _ hP hS (lv_sub hl [2, 3, 4, 5, 1, 0] rfl)
  · intro x1 x2 x3 x4 x5 M hk
    refine (eX11 x1 x2 x3 x4 x5 M).mpr ?_
    intro H locs ls hP hS hl
    unfold wp_Model_visitAll_11 at hk
    refine lv_iload hx hb d_Model_visitAll_11 (lv_at hl 5 rfl) ?_
    refine lv_iload_n hx hb d_Model_visitAll_13 rfl (lv_at hl 2 rfl) ?_
    refine lv_icmp_ge (tgt := 74) hx hb d_Model_visitAll_14 (by decide) (fun c1 => ?_) (fun c1 => ?_)
    · have hk := hk.1 c1
      refine lv_iload_n hx hb d_Model_visitAll_74 rfl (lv_at hl 3 rfl) ?_
      refine lv_iconst (v := 2) hx hb d_Model_visitAll_75 (by decide) ?_
      refine lv_icmp_ge (tgt := 93) hx hb d_Model_visitAll_76 (by decide) (fun c2 => ?_) (fun c2 => ?_)
      · have hk := hk.1 c2
        refine lv_aload_n hx hb d_Model_visitAll_93 rfl (lv_at hl 0 rfl) ?_
        refine lv_iload_n hx hb d_Model_visitAll_94 rfl (lv_at hl 3 rfl) ?_
        refine lv_bipush (v := 10) hx hb d_Model_visitAll_95 (by decide) ?_
        refine lv_isub hx hb d_Model_visitAll_97 ?_
        refine r_runZ (k_V (As := [.int (x3 - (10 : Int32))]) (rest := []) C hW hP (c_Model_isHouse hI (x3 - (10 : Int32)) M _ hk) cb_Model_isHouse ml_Model_121 (io_29 g M) ⟨by decide, by decide⟩ rfl hl.1 rfl (Nat.le_of_ble_eq_true rfl) d_Model_visitAll_98 ⟨by decide, by decide⟩) hS (fun r4 M3 H locs zr4 hk hP hS => ?_)
        refine lv_if_eq (tgt := 116) hx hb d_Model_visitAll_101 (by decide) (fun c5 => ?_) (fun c5 => ?_)
        · have hk := hk.1 c5
          refine lv_bipush (v := -9) hx hb d_Model_visitAll_116 (by decide) ?_
          exact r_iret C hr hlocks hP hS hk d_Model_visitAll_118
        · have hk := hk.2 c5
          refine lv_aload_n hx hb d_Model_visitAll_104 rfl (lv_at hl 0 rfl) ?_
          refine gf_29_20 C hW hP fl_Model_47 d_Model_visitAll_105 ?_
          refine lv_iload_n hx hb d_Model_visitAll_108 rfl (lv_at hl 3 rfl) ?_
          refine lv_bipush (v := 10) hx hb d_Model_visitAll_109 (by decide) ?_
          refine lv_isub hx hb d_Model_visitAll_111 ?_
          obtain ⟨h6, hk⟩ := hk
          refine al_41 C hW hP h6 d_Model_visitAll_112 ?_
          refine lv_goto (tgt := 118) hx hb d_Model_visitAll_113 (by decide) ?_
          exact r_iret C hr hlocks hP hS hk d_Model_visitAll_118
      · have hk := hk.2 c2
        refine lv_iload_n hx hb d_Model_visitAll_79 rfl (lv_at hl 3 rfl) ?_
        refine lv_if_ne (tgt := 90) hx hb d_Model_visitAll_80 (by decide) (fun c7 => ?_) (fun c7 => ?_)
        · have hk := hk.1 c7
          refine lv_iload hx hb d_Model_visitAll_90 (lv_at hl 4 rfl) ?_
          exact r_iret C hr hlocks hP hS hk d_Model_visitAll_92
        · have hk := hk.2 c7
          refine lv_aload_n hx hb d_Model_visitAll_83 rfl (lv_at hl 0 rfl) ?_
          refine gf_29_18 C hW hP fl_Model_133 d_Model_visitAll_84 ?_
          refine lv_goto (tgt := 92) hx hb d_Model_visitAll_87 (by decide) ?_
          exact r_iret C hr hlocks hP hS hk d_Model_visitAll_92
    · have hk := hk.2 c1
      refine lv_aload_n hx hb d_Model_visitAll_17 rfl (lv_at hl 0 rfl) ?_
      refine lv_aload_n hx hb d_Model_visitAll_18 rfl (lv_at hl 0 rfl) ?_
      refine gf_29_4 C hW hP fl_Model_16 d_Model_visitAll_19 ?_
      refine lv_iload_n hx hb d_Model_visitAll_22 rfl (lv_at hl 1 rfl) ?_
      refine lv_iconst (v := 2) hx hb d_Model_visitAll_23 (by decide) ?_
      refine lv_iload hx hb d_Model_visitAll_24 (lv_at hl 5 rfl) ?_
      refine lv_imul hx hb d_Model_visitAll_26 ?_
      refine lv_iadd hx hb d_Model_visitAll_27 ?_
      obtain ⟨h8, hk⟩ := hk
      refine al_32 C hW hP h8 d_Model_visitAll_28 ?_
      refine lv_aload_n hx hb d_Model_visitAll_29 rfl (lv_at hl 0 rfl) ?_
      refine gf_29_4 C hW hP fl_Model_16 d_Model_visitAll_30 ?_
      refine lv_iload_n hx hb d_Model_visitAll_33 rfl (lv_at hl 1 rfl) ?_
      refine lv_iconst (v := 2) hx hb d_Model_visitAll_34 (by decide) ?_
      refine lv_iload hx hb d_Model_visitAll_35 (lv_at hl 5 rfl) ?_
      refine lv_imul hx hb d_Model_visitAll_37 ?_
      refine lv_iadd hx hb d_Model_visitAll_38 ?_
      refine lv_iconst (v := 1) hx hb d_Model_visitAll_39 (by decide) ?_
      refine lv_iadd hx hb d_Model_visitAll_40 ?_
      obtain ⟨h9, hk⟩ := hk
      refine al_32 C hW hP h9 d_Model_visitAll_41 ?_
      refine r_runZ (k_V (As := [.int (M 32 (x1 + ((2 : Int32) * x5)).toNatClampNeg), .int (M 32 ((x1 + ((2 : Int32) * x5)) + (1 : Int32)).toNatClampNeg)]) (rest := []) C hW hP (c_Model_visit hI (M 32 (x1 + ((2 : Int32) * x5)).toNatClampNeg) (M 32 ((x1 + ((2 : Int32) * x5)) + (1 : Int32)).toNatClampNeg) M _ hk) cb_Model_visit ml_Model_139 (io_29 g M) ⟨by decide, by decide⟩ rfl hl.1 rfl (Nat.le_of_ble_eq_true rfl) d_Model_visitAll_42 ⟨by decide, by decide⟩) hS (fun r11 M10 H locs zr11 hk hP hS => ?_)
      refine lv_istore (lv' := [(6, .int r11), (0, .ref (g.2.2.2 29)), (1, .int x1), (2, .int x2), (3, .int x3), (4, .int x4), (5, .int x5)]) hx hb d_Model_visitAll_45 hl (by decide) rfl (fun ls hl => ?_)
      refine lv_iload hx hb d_Model_visitAll_47 (lv_at hl 5 rfl) ?_
      refine lv_bipush (v := -9) hx hb d_Model_visitAll_49 (by decide) ?_
      refine lv_icmp_ne (tgt := 64) hx hb d_Model_visitAll_51 (by decide) (fun c12 => ?_) (fun c12 => ?_)
      · have hk := hk.1 c12
        exact J64 x1 x2 x3 x4 x5 M10 hk _ _ _ hP hS (lv_sub hl [1, 2, 3, 4, 5, 6] rfl)
      · have hk := hk.2 c12
        refine lv_iload hx hb d_Model_visitAll_54 (lv_at hl 0 rfl) ?_
        refine lv_if_eq (tgt := 64) hx hb d_Model_visitAll_56 (by decide) (fun c13 => ?_) (fun c13 => ?_)
        · have hk := hk.1 c13
          exact J64 x1 x2 x3 x4 x5 M10 hk _ _ _ hP hS (lv_sub hl [1, 2, 3, 4, 5, 6] rfl)
        · have hk := hk.2 c13
          refine lv_iload hx hb d_Model_visitAll_59 (lv_at hl 6 rfl) ?_
          refine lv_goto (tgt := 66) hx hb d_Model_visitAll_61 (by decide) ?_
          exact J66 x1 x2 x3 x5 x5 M10 hk _ _ _ hP hS (lv_sub hl [1, 2, 3, 4, 6] rfl)
theorem d_Model_visits_0 : decode b_Model_visits 0 = .ok (.aload_n 0, 1) := by decide +kernel
theorem d_Model_visits_1 : decode b_Model_visits 1 = .ok (.iconst 0, 1) := by decide +kernel
theorem d_Model_visits_2 : decode b_Model_visits 2 = .ok (.putfield 62, 3) := by decide +kernel
theorem d_Model_visits_5 : decode b_Model_visits 5 = .ok (.iload_n 1, 1) := by decide +kernel
theorem d_Model_visits_6 : decode b_Model_visits 6 = .ok (.invokestatic 80, 3) := by decide +kernel
theorem d_Model_visits_9 : decode b_Model_visits 9 = .ok (.ifCond .ne 5, 3) := by decide +kernel
theorem d_Model_visits_12 : decode b_Model_visits 12 = .ok (.iconst (-1), 1) := by decide +kernel
theorem d_Model_visits_13 : decode b_Model_visits 13 = .ok (.ireturn, 1) := by decide +kernel
theorem d_Model_visits_14 : decode b_Model_visits 14 = .ok (.iload_n 2, 1) := by decide +kernel
theorem d_Model_visits_15 : decode b_Model_visits 15 = .ok (.invokestatic 84, 3) := by decide +kernel
theorem d_Model_visits_18 : decode b_Model_visits 18 = .ok (.ifCond .eq 36, 3) := by decide +kernel
theorem d_Model_visits_21 : decode b_Model_visits 21 = .ok (.iload 4, 2) := by decide +kernel
theorem d_Model_visits_23 : decode b_Model_visits 23 = .ok (.iconst 0, 1) := by decide +kernel
theorem d_Model_visits_24 : decode b_Model_visits 24 = .ok (.bipush 20, 2) := by decide +kernel
theorem d_Model_visits_26 : decode b_Model_visits 26 = .ok (.invokestatic 67, 3) := by decide +kernel
theorem d_Model_visits_29 : decode b_Model_visits 29 = .ok (.ifCond .eq 25, 3) := by decide +kernel
theorem d_Model_visits_32 : decode b_Model_visits 32 = .ok (.iload 5, 2) := by decide +kernel
theorem d_Model_visits_34 : decode b_Model_visits 34 = .ok (.iconst 0, 1) := by decide +kernel
theorem d_Model_visits_35 : decode b_Model_visits 35 = .ok (.iconst 1, 1) := by decide +kernel
theorem d_Model_visits_36 : decode b_Model_visits 36 = .ok (.invokestatic 67, 3) := by decide +kernel
theorem d_Model_visits_39 : decode b_Model_visits 39 = .ok (.ifCond .ne 18, 3) := by decide +kernel
theorem d_Model_visits_42 : decode b_Model_visits 42 = .ok (.iload 5, 2) := by decide +kernel
theorem d_Model_visits_44 : decode b_Model_visits 44 = .ok (.bipush 10, 2) := by decide +kernel
theorem d_Model_visits_46 : decode b_Model_visits 46 = .ok (.bipush 15, 2) := by decide +kernel
theorem d_Model_visits_48 : decode b_Model_visits 48 = .ok (.invokestatic 67, 3) := by decide +kernel
theorem d_Model_visits_51 : decode b_Model_visits 51 = .ok (.ifCond .ne 6, 3) := by decide +kernel
theorem d_Model_visits_54 : decode b_Model_visits 54 = .ok (.bipush (-2), 2) := by decide +kernel
theorem d_Model_visits_56 : decode b_Model_visits 56 = .ok (.ireturn, 1) := by decide +kernel
theorem d_Model_visits_57 : decode b_Model_visits 57 = .ok (.aload_n 0, 1) := by decide +kernel
theorem d_Model_visits_58 : decode b_Model_visits 58 = .ok (.iload_n 1, 1) := by decide +kernel
theorem d_Model_visits_59 : decode b_Model_visits 59 = .ok (.iload_n 2, 1) := by decide +kernel
theorem d_Model_visits_60 : decode b_Model_visits 60 = .ok (.iload_n 3, 1) := by decide +kernel
theorem d_Model_visits_61 : decode b_Model_visits 61 = .ok (.iconst 2, 1) := by decide +kernel
theorem d_Model_visits_62 : decode b_Model_visits 62 = .ok (.iload 4, 2) := by decide +kernel
theorem d_Model_visits_64 : decode b_Model_visits 64 = .ok (.imul, 1) := by decide +kernel
theorem d_Model_visits_65 : decode b_Model_visits 65 = .ok (.invokevirtual 87, 3) := by decide +kernel
theorem d_Model_visits_68 : decode b_Model_visits 68 = .ok (.istore 6, 2) := by decide +kernel
theorem d_Model_visits_70 : decode b_Model_visits 70 = .ok (.iload 6, 2) := by decide +kernel
theorem d_Model_visits_72 : decode b_Model_visits 72 = .ok (.ifCond .eq 10, 3) := by decide +kernel
theorem d_Model_visits_75 : decode b_Model_visits 75 = .ok (.aload_n 0, 1) := by decide +kernel
theorem d_Model_visits_76 : decode b_Model_visits 76 = .ok (.iload 6, 2) := by decide +kernel
theorem d_Model_visits_78 : decode b_Model_visits 78 = .ok (.invokevirtual 91, 3) := by decide +kernel
theorem d_Model_visits_81 : decode b_Model_visits 81 = .ok (.ireturn, 1) := by decide +kernel
theorem d_Model_visits_82 : decode b_Model_visits 82 = .ok (.aload_n 0, 1) := by decide +kernel
theorem d_Model_visits_83 : decode b_Model_visits 83 = .ok (.getfield 71, 3) := by decide +kernel
theorem d_Model_visits_86 : decode b_Model_visits 86 = .ok (.ifCond .ne 6, 3) := by decide +kernel
theorem d_Model_visits_89 : decode b_Model_visits 89 = .ok (.bipush (-3), 2) := by decide +kernel
theorem d_Model_visits_91 : decode b_Model_visits 91 = .ok (.ireturn, 1) := by decide +kernel
theorem d_Model_visits_92 : decode b_Model_visits 92 = .ok (.bipush 60, 2) := by decide +kernel
theorem d_Model_visits_94 : decode b_Model_visits 94 = .ok (.iload_n 1, 1) := by decide +kernel
theorem d_Model_visits_95 : decode b_Model_visits 95 = .ok (.imul, 1) := by decide +kernel
theorem d_Model_visits_96 : decode b_Model_visits 96 = .ok (.iload_n 3, 1) := by decide +kernel
theorem d_Model_visits_97 : decode b_Model_visits 97 = .ok (.iadd, 1) := by decide +kernel
theorem d_Model_visits_98 : decode b_Model_visits 98 = .ok (.istore 7, 2) := by decide +kernel
theorem d_Model_visits_100 : decode b_Model_visits 100 = .ok (.iconst 0, 1) := by decide +kernel
theorem d_Model_visits_101 : decode b_Model_visits 101 = .ok (.istore 8, 2) := by decide +kernel
theorem d_Model_visits_103 : decode b_Model_visits 103 = .ok (.iload 8, 2) := by decide +kernel
theorem d_Model_visits_105 : decode b_Model_visits 105 = .ok (.iload 4, 2) := by decide +kernel
theorem d_Model_visits_107 : decode b_Model_visits 107 = .ok (.if_icmp .ge 58, 3) := by decide +kernel
theorem d_Model_visits_110 : decode b_Model_visits 110 = .ok (.aload_n 0, 1) := by decide +kernel
theorem d_Model_visits_111 : decode b_Model_visits 111 = .ok (.getfield 16, 3) := by decide +kernel
theorem d_Model_visits_114 : decode b_Model_visits 114 = .ok (.iload 7, 2) := by decide +kernel
theorem d_Model_visits_116 : decode b_Model_visits 116 = .ok (.iconst 2, 1) := by decide +kernel
theorem d_Model_visits_117 : decode b_Model_visits 117 = .ok (.iload 8, 2) := by decide +kernel
theorem d_Model_visits_119 : decode b_Model_visits 119 = .ok (.imul, 1) := by decide +kernel
theorem d_Model_visits_120 : decode b_Model_visits 120 = .ok (.iadd, 1) := by decide +kernel
theorem d_Model_visits_121 : decode b_Model_visits 121 = .ok (.iaload, 1) := by decide +kernel
theorem d_Model_visits_122 : decode b_Model_visits 122 = .ok (.iconst 0, 1) := by decide +kernel
theorem d_Model_visits_123 : decode b_Model_visits 123 = .ok (.aload_n 0, 1) := by decide +kernel
theorem d_Model_visits_124 : decode b_Model_visits 124 = .ok (.invokevirtual 152, 3) := by decide +kernel
theorem d_Model_visits_127 : decode b_Model_visits 127 = .ok (.invokestatic 67, 3) := by decide +kernel
theorem d_Model_visits_130 : decode b_Model_visits 130 = .ok (.ifCond .ne 6, 3) := by decide +kernel
theorem d_Model_visits_133 : decode b_Model_visits 133 = .ok (.bipush (-2), 2) := by decide +kernel
theorem d_Model_visits_135 : decode b_Model_visits 135 = .ok (.ireturn, 1) := by decide +kernel
theorem d_Model_visits_136 : decode b_Model_visits 136 = .ok (.aload_n 0, 1) := by decide +kernel
theorem d_Model_visits_137 : decode b_Model_visits 137 = .ok (.aload_n 0, 1) := by decide +kernel
theorem d_Model_visits_138 : decode b_Model_visits 138 = .ok (.getfield 16, 3) := by decide +kernel
theorem d_Model_visits_141 : decode b_Model_visits 141 = .ok (.iload 7, 2) := by decide +kernel
theorem d_Model_visits_143 : decode b_Model_visits 143 = .ok (.iconst 2, 1) := by decide +kernel
theorem d_Model_visits_144 : decode b_Model_visits 144 = .ok (.iload 8, 2) := by decide +kernel
theorem d_Model_visits_146 : decode b_Model_visits 146 = .ok (.imul, 1) := by decide +kernel
theorem d_Model_visits_147 : decode b_Model_visits 147 = .ok (.iadd, 1) := by decide +kernel
theorem d_Model_visits_148 : decode b_Model_visits 148 = .ok (.iconst 1, 1) := by decide +kernel
theorem d_Model_visits_149 : decode b_Model_visits 149 = .ok (.iadd, 1) := by decide +kernel
theorem d_Model_visits_150 : decode b_Model_visits 150 = .ok (.iaload, 1) := by decide +kernel
theorem d_Model_visits_151 : decode b_Model_visits 151 = .ok (.invokevirtual 121, 3) := by decide +kernel
theorem d_Model_visits_154 : decode b_Model_visits 154 = .ok (.ifCond .ne 5, 3) := by decide +kernel
theorem d_Model_visits_157 : decode b_Model_visits 157 = .ok (.iconst (-1), 1) := by decide +kernel
theorem d_Model_visits_158 : decode b_Model_visits 158 = .ok (.ireturn, 1) := by decide +kernel
theorem d_Model_visits_159 : decode b_Model_visits 159 = .ok (.iinc 8 1, 3) := by decide +kernel
theorem d_Model_visits_162 : decode b_Model_visits 162 = .ok (.goto (-59), 3) := by decide +kernel
theorem d_Model_visits_165 : decode b_Model_visits 165 = .ok (.aload_n 0, 1) := by decide +kernel
theorem d_Model_visits_166 : decode b_Model_visits 166 = .ok (.iload 7, 2) := by decide +kernel
theorem d_Model_visits_168 : decode b_Model_visits 168 = .ok (.iload 4, 2) := by decide +kernel
theorem d_Model_visits_170 : decode b_Model_visits 170 = .ok (.iload 5, 2) := by decide +kernel
theorem d_Model_visits_172 : decode b_Model_visits 172 = .ok (.invokevirtual 156, 3) := by decide +kernel
theorem d_Model_visits_175 : decode b_Model_visits 175 = .ok (.ireturn, 1) := by decide +kernel
set_option maxRecDepth 20000 in
theorem c_Model_visits {l : Launch} {g : GG} (hI : WI g) (a1 : Int32) (a2 : Int32) (a3 : Int32) (a4 : Int32) (a5 : Int32) (M : Mem) (R : Int32 → Mem → Prop) (h : wp_Model_visits a1 a2 a3 a4 a5 M R) : Met l y_Model_visits (wm y_Model_visits b_Model_visits 9 (some .int)) (RM 3 77) (PP g M [.ref (g.2.2.2 29), .int a1, .int a2, .int a3, .int a4, .int a5]) (PQ g (RI R)) 0 0 (AW g) := by
  refine m_of (own := N_Model) (by decide) rfl (Nat.le_of_ble_eq_true rfl) ?_
  intro p e s m below meth c ls C hr hlocks hW hP hS hl
  obtain ⟨hx, hb, hml, hown, hts⟩ := id C
  have hl : lv_has ls 9 [(0, .ref (g.2.2.2 29)), (1, .int a1), (2, .int a2), (3, .int a3), (4, .int a4), (5, .int a5)] := hl
  unfold wp_Model_visits at h
  obtain ⟨X103, eX103⟩ : ∃ X : Int32 → Int32 → Int32 → Int32 → Mem → Prop, ∀ (x4 : Int32) (x5 : Int32) (x7 : Int32) (x8 : Int32) (M : Mem), X x4 x5 x7 x8 M ↔ (∀ (H : Heap) (locs : List Loc) (ls : Array Slot), WP g M H → va_S (AW g) s.heap H locs → lv_has ls 9 [(0, .ref (g.2.2.2 29)), (4, .int x4), (5, .int x5), (7, .int x7), (8, .int x8)] → W p l e (RM 3 77) s m ([.ref (g.2.2.2 29), .int a1, .int a2, .int a3, .int a4, .int a5] : List Value).toArray below meth c H locs 0 0 (MQ below (PQ g (RI R)) ([.ref (g.2.2.2 29), .int a1, .int a2, .int a3, .int a4, .int a5] : List Value).toArray s 0 0 (AW g)) (F0 m 103 ls [])) := ⟨fun x4 x5 x7 x8 M => _, fun _ _ _ _ _ => Iff.rfl⟩
  have J57 : ∀ (x1 : Int32) (x2 : Int32) (x3 : Int32) (x4 : Int32) (x5 : Int32) (M : Mem), wp_Model_visits_57 X103 R x1 x2 x3 x4 x5 M → ∀ (H : Heap) (locs : List Loc) (ls : Array Slot), WP g M H → va_S (AW g) s.heap H locs → lv_has ls 9 [(0, .ref (g.2.2.2 29)), (1, .int x1), (2, .int x2), (3, .int x3), (4, .int x4), (5, .int x5)] → W p l e (RM 3 77) s m ([.ref (g.2.2.2 29), .int a1, .int a2, .int a3, .int a4, .int a5] : List Value).toArray below meth c H locs 0 0 (MQ below (PQ g (RI R)) ([.ref (g.2.2.2 29), .int a1, .int a2, .int a3, .int a4, .int a5] : List Value).toArray s 0 0 (AW g)) (F0 m 57 ls []) := by
    intro x1 x2 x3 x4 x5 M hk H locs ls hP hS hl
    unfold wp_Model_visits_57 at hk
    refine lv_aload_n hx hb d_Model_visits_57 rfl (lv_at hl 0 rfl) ?_
    refine lv_iload_n hx hb d_Model_visits_58 rfl (lv_at hl 1 rfl) ?_
    refine lv_iload_n hx hb d_Model_visits_59 rfl (lv_at hl 2 rfl) ?_
    refine lv_iload_n hx hb d_Model_visits_60 rfl (lv_at hl 3 rfl) ?_
    refine lv_iconst (v := 2) hx hb d_Model_visits_61 (by decide) ?_
    refine lv_iload hx hb d_Model_visits_62 (lv_at hl 4 rfl) ?_
    refine lv_imul hx hb d_Model_visits_64 ?_
    refine r_runI (k_V (As := [.int x1, .int x2, .int x3, .int ((2 : Int32) * x4)]) (rest := []) C hW hP (c_Model_against hI x1 x2 x3 ((2 : Int32) * x4) M _ hk) cb_Model_against ml_Model_87 (io_29 g M) ⟨by decide, by decide⟩ rfl hl.1 rfl (Nat.le_of_ble_eq_true rfl) d_Model_visits_65 ⟨by decide, by decide⟩) hS (fun r2 M1 H locs hk hP hS => ?_)
    refine lv_istore (lv' := [(6, .int r2), (0, .ref (g.2.2.2 29)), (1, .int x1), (2, .int x2), (3, .int x3), (4, .int x4), (5, .int x5)]) hx hb d_Model_visits_68 hl (by decide) rfl (fun ls hl => ?_)
    refine lv_iload hx hb d_Model_visits_70 (lv_at hl 0 rfl) ?_
    refine lv_if_eq (tgt := 82) hx hb d_Model_visits_72 (by decide) (fun c3 => ?_) (fun c3 => ?_)
    · have hk := hk.1 c3
      refine lv_aload_n hx hb d_Model_visits_82 rfl (lv_at hl 1 rfl) ?_
      refine gf_29_5 C hW hP fl_Model_71 d_Model_visits_83 ?_
      refine lv_if_ne (tgt := 92) hx hb d_Model_visits_86 (by decide) (fun c4 => ?_) (fun c4 => ?_)
      · have hk := hk.1 c4
        refine lv_bipush (v := 60) hx hb d_Model_visits_92 (by decide) ?_
        refine lv_iload_n hx hb d_Model_visits_94 rfl (lv_at hl 2 rfl) ?_
        refine lv_imul hx hb d_Model_visits_95 ?_
        refine lv_iload_n hx hb d_Model_visits_96 rfl (lv_at hl 4 rfl) ?_
        refine lv_iadd hx hb d_Model_visits_97 ?_
        refine lv_topi (fun x7_5 ex7_5 => ?_)
        have hk := hk x7_5 ex7_5
        refine lv_istore (lv' := [(7, .int x7_5), (6, .int r2), (0, .ref (g.2.2.2 29)), (1, .int x1), (2, .int x2), (3, .int x3), (4, .int x4), (5, .int x5)]) hx hb d_Model_visits_98 hl (by decide) rfl (fun ls hl => ?_)
        refine lv_iconst (v := 0) hx hb d_Model_visits_100 (by decide) ?_
        refine lv_istore (lv' := [(8, .int (0 : Int32)), (7, .int x7_5), (6, .int r2), (0, .ref (g.2.2.2 29)), (1, .int x1), (2, .int x2), (3, .int x3), (4, .int x4), (5, .int x5)]) hx hb d_Model_visits_101 hl (by decide) rfl (fun ls hl => ?_)
        exact (eX103 x4 x5 x7_5 (0 : Int32) M1).mp hk _ _ _ hP hS (lv_sub hl [3, 7, 8, 1, 0] rfl)
      · have hk := hk.2 c4
        refine lv_bipush (v := -3) hx hb d_Model_visits_89 (by decide) ?_
        exact r_iret C hr hlocks hP hS hk d_Model_visits_91
    · have hk := hk.2 c3
      refine lv_aload_n hx hb d_Model_visits_75 rfl (lv_at hl 1 rfl) ?_
      refine lv_iload hx hb d_Model_visits_76 (lv_at hl 0 rfl) ?_
      refine r_runI (k_V (As := [.int r2]) (rest := []) C hW hP (c_Model_fails hI r2 M1 _ hk) cb_Model_fails ml_Model_91 (io_29 g M1) ⟨by decide, by decide⟩ rfl hl.1 rfl (Nat.le_of_ble_eq_true rfl) d_Model_visits_78 ⟨by decide, by decide⟩) hS (fun r7 M6 H locs hk hP hS => ?_)
      exact r_iret C hr hlocks hP hS hk d_Model_visits_81
  suffices hcl : (∀ (x4 : Int32) (x5 : Int32) (x7 : Int32) (x8 : Int32) (M : Mem), wp_Model_visits_103 X103 R x4 x5 x7 x8 M → X103 x4 x5 x7 x8 M) by
    have hk := h X103 hcl
    refine lv_aload_n hx hb d_Model_visits_0 rfl (lv_at hl 0 rfl) ?_
    refine lv_iconst (v := 0) hx hb d_Model_visits_1 (by decide) ?_
    refine pf_29_0 hI C hW hP hS fl_Model_62 d_Model_visits_2 (fun M22 eM22 H locs hP hS => ?_)
    have hk := hk M22 eM22
    refine lv_iload_n hx hb d_Model_visits_5 rfl (lv_at hl 1 rfl) ?_
    refine r_runZ (k_S (As := [.int a1]) (rest := []) C hW hP (c_Model_isSheet hI a1 M22 _ hk) cb_Model_isSheet ml_Model_80 ⟨by decide, by decide⟩ rfl hl.1 rfl (Nat.le_of_ble_eq_true rfl) d_Model_visits_6 ⟨by decide, by decide⟩) hS (fun r24 M23 H locs zr24 hk hP hS => ?_)
    refine lv_if_ne (tgt := 14) hx hb d_Model_visits_9 (by decide) (fun c25 => ?_) (fun c25 => ?_)
    · have hk := hk.1 c25
      refine lv_iload_n hx hb d_Model_visits_14 rfl (lv_at hl 2 rfl) ?_
      refine r_runZ (k_S (As := [.int a2]) (rest := []) C hW hP (c_Model_isSort hI a2 M23 _ hk) cb_Model_isSort ml_Model_84 ⟨by decide, by decide⟩ rfl hl.1 rfl (Nat.le_of_ble_eq_true rfl) d_Model_visits_15 ⟨by decide, by decide⟩) hS (fun r27 M26 H locs zr27 hk hP hS => ?_)
      refine lv_if_eq (tgt := 54) hx hb d_Model_visits_18 (by decide) (fun c28 => ?_) (fun c28 => ?_)
      · have hk := hk.1 c28
        refine lv_bipush (v := -2) hx hb d_Model_visits_54 (by decide) ?_
        exact r_iret C hr hlocks hP hS hk d_Model_visits_56
      · have hk := hk.2 c28
        refine lv_iload hx hb d_Model_visits_21 (lv_at hl 4 rfl) ?_
        refine lv_iconst (v := 0) hx hb d_Model_visits_23 (by decide) ?_
        refine lv_bipush (v := 20) hx hb d_Model_visits_24 (by decide) ?_
        refine r_runZ (k_S (As := [.int a4, .int (0 : Int32), .int (20 : Int32)]) (rest := []) C hW hP (c_Model_within hI a4 (0 : Int32) (20 : Int32) M26 _ hk) cb_Model_within ml_Model_67 ⟨by decide, by decide⟩ rfl hl.1 rfl (Nat.le_of_ble_eq_true rfl) d_Model_visits_26 ⟨by decide, by decide⟩) hS (fun r30 M29 H locs zr30 hk hP hS => ?_)
        refine lv_if_eq (tgt := 54) hx hb d_Model_visits_29 (by decide) (fun c31 => ?_) (fun c31 => ?_)
        · have hk := hk.1 c31
          refine lv_bipush (v := -2) hx hb d_Model_visits_54 (by decide) ?_
          exact r_iret C hr hlocks hP hS hk d_Model_visits_56
        · have hk := hk.2 c31
          refine lv_iload hx hb d_Model_visits_32 (lv_at hl 5 rfl) ?_
          refine lv_iconst (v := 0) hx hb d_Model_visits_34 (by decide) ?_
          refine lv_iconst (v := 1) hx hb d_Model_visits_35 (by decide) ?_
          refine r_runZ (k_S (As := [.int a5, .int (0 : Int32), .int (1 : Int32)]) (rest := []) C hW hP (c_Model_within hI a5 (0 : Int32) (1 : Int32) M29 _ hk) cb_Model_within ml_Model_67 ⟨by decide, by decide⟩ rfl hl.1 rfl (Nat.le_of_ble_eq_true rfl) d_Model_visits_36 ⟨by decide, by decide⟩) hS (fun r33 M32 H locs zr33 hk hP hS => ?_)
          refine lv_if_ne (tgt := 57) hx hb d_Model_visits_39 (by decide) (fun c34 => ?_) (fun c34 => ?_)
          · have hk := hk.1 c34
            exact J57 a1 a2 a3 a4 a5 M32 hk _ _ _ hP hS (lv_sub hl [0, 1, 2, 3, 4, 5] rfl)
          · have hk := hk.2 c34
            refine lv_iload hx hb d_Model_visits_42 (lv_at hl 5 rfl) ?_
            refine lv_bipush (v := 10) hx hb d_Model_visits_44 (by decide) ?_
            refine lv_bipush (v := 15) hx hb d_Model_visits_46 (by decide) ?_
            refine r_runZ (k_S (As := [.int a5, .int (10 : Int32), .int (15 : Int32)]) (rest := []) C hW hP (c_Model_within hI a5 (10 : Int32) (15 : Int32) M32 _ hk) cb_Model_within ml_Model_67 ⟨by decide, by decide⟩ rfl hl.1 rfl (Nat.le_of_ble_eq_true rfl) d_Model_visits_48 ⟨by decide, by decide⟩) hS (fun r36 M35 H locs zr36 hk hP hS => ?_)
            refine lv_if_ne (tgt := 57) hx hb d_Model_visits_51 (by decide) (fun c37 => ?_) (fun c37 => ?_)
            · have hk := hk.1 c37
              exact J57 a1 a2 a3 a4 a5 M35 hk _ _ _ hP hS (lv_sub hl [0, 1, 2, 3, 4, 5] rfl)
            · have hk := hk.2 c37
              refine lv_bipush (v := -2) hx hb d_Model_visits_54 (by decide) ?_
              exact r_iret C hr hlocks hP hS hk d_Model_visits_56
    · have hk := hk.2 c25
      refine lv_iconst (v := -1) hx hb d_Model_visits_12 (by decide) ?_
      exact r_iret C hr hlocks hP hS hk d_Model_visits_13
  · intro x4 x5 x7 x8 M hk
    refine (eX103 x4 x5 x7 x8 M).mpr ?_
    intro H locs ls hP hS hl
    unfold wp_Model_visits_103 at hk
    refine lv_iload hx hb d_Model_visits_103 (lv_at hl 4 rfl) ?_
    refine lv_iload hx hb d_Model_visits_105 (lv_at hl 1 rfl) ?_
    refine lv_icmp_ge (tgt := 165) hx hb d_Model_visits_107 (by decide) (fun c8 => ?_) (fun c8 => ?_)
    · have hk := hk.1 c8
      refine lv_aload_n hx hb d_Model_visits_165 rfl (lv_at hl 0 rfl) ?_
      refine lv_iload hx hb d_Model_visits_166 (lv_at hl 3 rfl) ?_
      refine lv_iload hx hb d_Model_visits_168 (lv_at hl 1 rfl) ?_
      refine lv_iload hx hb d_Model_visits_170 (lv_at hl 2 rfl) ?_
      refine r_runI (k_V (As := [.int x7, .int x4, .int x5]) (rest := []) C hW hP (c_Model_visitAll hI x7 x4 x5 M _ hk) cb_Model_visitAll ml_Model_156 (io_29 g M) ⟨by decide, by decide⟩ rfl hl.1 rfl (Nat.le_of_ble_eq_true rfl) d_Model_visits_172 ⟨by decide, by decide⟩) hS (fun r10 M9 H locs hk hP hS => ?_)
      exact r_iret C hr hlocks hP hS hk d_Model_visits_175
    · have hk := hk.2 c8
      refine lv_aload_n hx hb d_Model_visits_110 rfl (lv_at hl 0 rfl) ?_
      refine gf_29_4 C hW hP fl_Model_16 d_Model_visits_111 ?_
      refine lv_iload hx hb d_Model_visits_114 (lv_at hl 3 rfl) ?_
      refine lv_iconst (v := 2) hx hb d_Model_visits_116 (by decide) ?_
      refine lv_iload hx hb d_Model_visits_117 (lv_at hl 4 rfl) ?_
      refine lv_imul hx hb d_Model_visits_119 ?_
      refine lv_iadd hx hb d_Model_visits_120 ?_
      obtain ⟨h11, hk⟩ := hk
      refine al_32 C hW hP h11 d_Model_visits_121 ?_
      refine lv_iconst (v := 0) hx hb d_Model_visits_122 (by decide) ?_
      refine lv_aload_n hx hb d_Model_visits_123 rfl (lv_at hl 0 rfl) ?_
      refine r_runI (k_V (As := []) (rest := [.int (0 : Int32), .int (M 32 (x7 + ((2 : Int32) * x8)).toNatClampNeg)]) C hW hP (c_Model_allGuests hI M _ hk) cb_Model_allGuests ml_Model_152 (io_29 g M) ⟨by decide, by decide⟩ rfl hl.1 rfl (Nat.le_of_ble_eq_true rfl) d_Model_visits_124 ⟨by decide, by decide⟩) hS (fun r13 M12 H locs hk hP hS => ?_)
      refine r_runZ (k_S (As := [.int (M 32 (x7 + ((2 : Int32) * x8)).toNatClampNeg), .int (0 : Int32), .int r13]) (rest := []) C hW hP (c_Model_within hI (M 32 (x7 + ((2 : Int32) * x8)).toNatClampNeg) (0 : Int32) r13 M12 _ hk) cb_Model_within ml_Model_67 ⟨by decide, by decide⟩ rfl hl.1 rfl (Nat.le_of_ble_eq_true rfl) d_Model_visits_127 ⟨by decide, by decide⟩) hS (fun r15 M14 H locs zr15 hk hP hS => ?_)
      refine lv_if_ne (tgt := 136) hx hb d_Model_visits_130 (by decide) (fun c16 => ?_) (fun c16 => ?_)
      · have hk := hk.1 c16
        refine lv_aload_n hx hb d_Model_visits_136 rfl (lv_at hl 0 rfl) ?_
        refine lv_aload_n hx hb d_Model_visits_137 rfl (lv_at hl 0 rfl) ?_
        refine gf_29_4 C hW hP fl_Model_16 d_Model_visits_138 ?_
        refine lv_iload hx hb d_Model_visits_141 (lv_at hl 3 rfl) ?_
        refine lv_iconst (v := 2) hx hb d_Model_visits_143 (by decide) ?_
        refine lv_iload hx hb d_Model_visits_144 (lv_at hl 4 rfl) ?_
        refine lv_imul hx hb d_Model_visits_146 ?_
        refine lv_iadd hx hb d_Model_visits_147 ?_
        refine lv_iconst (v := 1) hx hb d_Model_visits_148 (by decide) ?_
        refine lv_iadd hx hb d_Model_visits_149 ?_
        obtain ⟨h17, hk⟩ := hk
        refine al_32 C hW hP h17 d_Model_visits_150 ?_
        refine r_runZ (k_V (As := [.int (M14 32 ((x7 + ((2 : Int32) * x8)) + (1 : Int32)).toNatClampNeg)]) (rest := []) C hW hP (c_Model_isHouse hI (M14 32 ((x7 + ((2 : Int32) * x8)) + (1 : Int32)).toNatClampNeg) M14 _ hk) cb_Model_isHouse ml_Model_121 (io_29 g M14) ⟨by decide, by decide⟩ rfl hl.1 rfl (Nat.le_of_ble_eq_true rfl) d_Model_visits_151 ⟨by decide, by decide⟩) hS (fun r19 M18 H locs zr19 hk hP hS => ?_)
        refine lv_if_ne (tgt := 159) hx hb d_Model_visits_154 (by decide) (fun c20 => ?_) (fun c20 => ?_)
        · have hk := hk.1 c20
          obtain ⟨x8_21, ex8_21⟩ : ∃ y : Int32, y = x8 + (1 : Int32) := ⟨_, rfl⟩
          have hk := hk x8_21 ex8_21
          refine lv_iinc (v := x8_21) (lv' := [(8, .int x8_21), (0, .ref (g.2.2.2 29)), (4, .int x4), (5, .int x5), (7, .int x7)]) hx hb d_Model_visits_159 hl (k := 4) rfl (by rw [ex8_21]; rfl) (by decide) rfl (fun ls hl => ?_)
          refine lv_goto (tgt := 103) hx hb d_Model_visits_162 (by decide) ?_
          exact (eX103 x4 x5 x7 x8_21 M18).mp hk _ _ _ hP hS (lv_sub hl [1, 2, 3, 4, 0] rfl)
        · have hk := hk.2 c20
          refine lv_iconst (v := -1) hx hb d_Model_visits_157 (by decide) ?_
          exact r_iret C hr hlocks hP hS hk d_Model_visits_158
      · have hk := hk.2 c16
        refine lv_bipush (v := -2) hx hb d_Model_visits_133 (by decide) ?_
        exact r_iret C hr hlocks hP hS hk d_Model_visits_135
theorem d_Model_goThrough_0 : decode b_Model_goThrough 0 = .ok (.iconst 0, 1) := by decide +kernel
theorem d_Model_goThrough_1 : decode b_Model_goThrough 1 = .ok (.istore_n 2, 1) := by decide +kernel
theorem d_Model_goThrough_2 : decode b_Model_goThrough 2 = .ok (.iload_n 2, 1) := by decide +kernel
theorem d_Model_goThrough_3 : decode b_Model_goThrough 3 = .ok (.aload_n 0, 1) := by decide +kernel
theorem d_Model_goThrough_4 : decode b_Model_goThrough 4 = .ok (.getfield 71, 3) := by decide +kernel
theorem d_Model_goThrough_7 : decode b_Model_goThrough 7 = .ok (.if_icmp .ge 16, 3) := by decide +kernel
theorem d_Model_goThrough_10 : decode b_Model_goThrough 10 = .ok (.aload_n 0, 1) := by decide +kernel
theorem d_Model_goThrough_11 : decode b_Model_goThrough 11 = .ok (.iload_n 1, 1) := by decide +kernel
theorem d_Model_goThrough_12 : decode b_Model_goThrough 12 = .ok (.iload_n 2, 1) := by decide +kernel
theorem d_Model_goThrough_13 : decode b_Model_goThrough 13 = .ok (.invokevirtual 139, 3) := by decide +kernel
theorem d_Model_goThrough_16 : decode b_Model_goThrough 16 = .ok (.pop, 1) := by decide +kernel
theorem d_Model_goThrough_17 : decode b_Model_goThrough 17 = .ok (.iinc 2 1, 3) := by decide +kernel
theorem d_Model_goThrough_20 : decode b_Model_goThrough 20 = .ok (.goto (-18), 3) := by decide +kernel
theorem d_Model_goThrough_23 : decode b_Model_goThrough 23 = .ok (.return_, 1) := by decide +kernel
set_option maxRecDepth 20000 in
theorem c_Model_goThrough {l : Launch} {g : GG} (hI : WI g) (a1 : Int32) (M : Mem) (R : Mem → Prop) (h : wp_Model_goThrough a1 M R) : Met l y_Model_goThrough (wm y_Model_goThrough b_Model_goThrough 3 none) (RM 2 51) (PP g M [.ref (g.2.2.2 29), .int a1]) (PQ g (RV R)) 0 0 (AW g) := by
  refine m_of (own := N_Model) (by decide) rfl (Nat.le_of_ble_eq_true rfl) ?_
  intro p e s m below meth c ls C hr hlocks hW hP hS hl
  obtain ⟨hx, hb, hml, hown, hts⟩ := id C
  have hl : lv_has ls 3 [(0, .ref (g.2.2.2 29)), (1, .int a1)] := hl
  unfold wp_Model_goThrough at h
  obtain ⟨X2, eX2⟩ : ∃ X : Int32 → Int32 → Mem → Prop, ∀ (x1 : Int32) (x2 : Int32) (M : Mem), X x1 x2 M ↔ (∀ (H : Heap) (locs : List Loc) (ls : Array Slot), WP g M H → va_S (AW g) s.heap H locs → lv_has ls 3 [(0, .ref (g.2.2.2 29)), (1, .int x1), (2, .int x2)] → W p l e (RM 2 51) s m ([.ref (g.2.2.2 29), .int a1] : List Value).toArray below meth c H locs 0 0 (MQ below (PQ g (RV R)) ([.ref (g.2.2.2 29), .int a1] : List Value).toArray s 0 0 (AW g)) (F0 m 2 ls [])) := ⟨fun x1 x2 M => _, fun _ _ _ => Iff.rfl⟩
  suffices hcl : (∀ (x1 : Int32) (x2 : Int32) (M : Mem), wp_Model_goThrough_2 X2 R x1 x2 M → X2 x1 x2 M) by
    have hk := h X2 hcl
    refine lv_iconst (v := 0) hx hb d_Model_goThrough_0 (by decide) ?_
    refine lv_istore_n (lv' := [(2, .int (0 : Int32)), (0, .ref (g.2.2.2 29)), (1, .int a1)]) hx hb d_Model_goThrough_1 rfl hl (by decide) rfl (fun ls hl => ?_)
    exact (eX2 a1 (0 : Int32) M).mp hk _ _ _ hP hS (lv_sub hl [1, 2, 0] rfl)
  · intro x1 x2 M hk
    refine (eX2 x1 x2 M).mpr ?_
    intro H locs ls hP hS hl
    unfold wp_Model_goThrough_2 at hk
    refine lv_iload_n hx hb d_Model_goThrough_2 rfl (lv_at hl 2 rfl) ?_
    refine lv_aload_n hx hb d_Model_goThrough_3 rfl (lv_at hl 0 rfl) ?_
    refine gf_29_5 C hW hP fl_Model_71 d_Model_goThrough_4 ?_
    refine lv_icmp_ge (tgt := 23) hx hb d_Model_goThrough_7 (by decide) (fun c1 => ?_) (fun c1 => ?_)
    · have hk := hk.1 c1
      exact r_vret C hr hlocks hP hS hk d_Model_goThrough_23
    · have hk := hk.2 c1
      refine lv_aload_n hx hb d_Model_goThrough_10 rfl (lv_at hl 0 rfl) ?_
      refine lv_iload_n hx hb d_Model_goThrough_11 rfl (lv_at hl 1 rfl) ?_
      refine lv_iload_n hx hb d_Model_goThrough_12 rfl (lv_at hl 2 rfl) ?_
      refine r_runZ (k_V (As := [.int x1, .int x2]) (rest := []) C hW hP (c_Model_visit hI x1 x2 M _ hk) cb_Model_visit ml_Model_139 (io_29 g M) ⟨by decide, by decide⟩ rfl hl.1 rfl (Nat.le_of_ble_eq_true rfl) d_Model_goThrough_13 ⟨by decide, by decide⟩) hS (fun r3 M2 H locs zr3 hk hP hS => ?_)
      refine lv_pop hx hb d_Model_goThrough_16 rfl ?_
      obtain ⟨x2_4, ex2_4⟩ : ∃ y : Int32, y = x2 + (1 : Int32) := ⟨_, rfl⟩
      have hk := hk x2_4 ex2_4
      refine lv_iinc (v := x2_4) (lv' := [(2, .int x2_4), (0, .ref (g.2.2.2 29)), (1, .int x1)]) hx hb d_Model_goThrough_17 hl (k := 2) rfl (by rw [ex2_4]; rfl) (by decide) rfl (fun ls hl => ?_)
      refine lv_goto (tgt := 2) hx hb d_Model_goThrough_20 (by decide) ?_
      exact (eX2 x1 x2_4 M2).mp hk _ _ _ hP hS (lv_sub hl [1, 2, 0] rfl)
theorem d_Model_going_0 : decode b_Model_going 0 = .ok (.aload_n 0, 1) := by decide +kernel
theorem d_Model_going_1 : decode b_Model_going 1 = .ok (.iconst 0, 1) := by decide +kernel
theorem d_Model_going_2 : decode b_Model_going 2 = .ok (.putfield 62, 3) := by decide +kernel
theorem d_Model_going_5 : decode b_Model_going 5 = .ok (.iload_n 1, 1) := by decide +kernel
theorem d_Model_going_6 : decode b_Model_going 6 = .ok (.invokestatic 80, 3) := by decide +kernel
theorem d_Model_going_9 : decode b_Model_going 9 = .ok (.ifCond .ne 5, 3) := by decide +kernel
theorem d_Model_going_12 : decode b_Model_going 12 = .ok (.iconst (-1), 1) := by decide +kernel
theorem d_Model_going_13 : decode b_Model_going 13 = .ok (.ireturn, 1) := by decide +kernel
theorem d_Model_going_14 : decode b_Model_going 14 = .ok (.iload_n 2, 1) := by decide +kernel
theorem d_Model_going_15 : decode b_Model_going 15 = .ok (.invokestatic 84, 3) := by decide +kernel
theorem d_Model_going_18 : decode b_Model_going 18 = .ok (.ifCond .eq 20, 3) := by decide +kernel
theorem d_Model_going_21 : decode b_Model_going 21 = .ok (.iload 5, 2) := by decide +kernel
theorem d_Model_going_23 : decode b_Model_going 23 = .ok (.ifCond .eq 18, 3) := by decide +kernel
theorem d_Model_going_26 : decode b_Model_going 26 = .ok (.iload 5, 2) := by decide +kernel
theorem d_Model_going_28 : decode b_Model_going 28 = .ok (.bipush 10, 2) := by decide +kernel
theorem d_Model_going_30 : decode b_Model_going 30 = .ok (.bipush 14, 2) := by decide +kernel
theorem d_Model_going_32 : decode b_Model_going 32 = .ok (.invokestatic 67, 3) := by decide +kernel
theorem d_Model_going_35 : decode b_Model_going 35 = .ok (.ifCond .ne 6, 3) := by decide +kernel
theorem d_Model_going_38 : decode b_Model_going 38 = .ok (.bipush (-2), 2) := by decide +kernel
theorem d_Model_going_40 : decode b_Model_going 40 = .ok (.ireturn, 1) := by decide +kernel
theorem d_Model_going_41 : decode b_Model_going 41 = .ok (.aload_n 0, 1) := by decide +kernel
theorem d_Model_going_42 : decode b_Model_going 42 = .ok (.iload_n 1, 1) := by decide +kernel
theorem d_Model_going_43 : decode b_Model_going 43 = .ok (.iload_n 2, 1) := by decide +kernel
theorem d_Model_going_44 : decode b_Model_going 44 = .ok (.iload_n 3, 1) := by decide +kernel
theorem d_Model_going_45 : decode b_Model_going 45 = .ok (.iload 4, 2) := by decide +kernel
theorem d_Model_going_47 : decode b_Model_going 47 = .ok (.invokevirtual 87, 3) := by decide +kernel
theorem d_Model_going_50 : decode b_Model_going 50 = .ok (.istore 6, 2) := by decide +kernel
theorem d_Model_going_52 : decode b_Model_going 52 = .ok (.iload 6, 2) := by decide +kernel
theorem d_Model_going_54 : decode b_Model_going 54 = .ok (.ifCond .eq 10, 3) := by decide +kernel
theorem d_Model_going_57 : decode b_Model_going 57 = .ok (.aload_n 0, 1) := by decide +kernel
theorem d_Model_going_58 : decode b_Model_going 58 = .ok (.iload 6, 2) := by decide +kernel
theorem d_Model_going_60 : decode b_Model_going 60 = .ok (.invokevirtual 91, 3) := by decide +kernel
theorem d_Model_going_63 : decode b_Model_going 63 = .ok (.ireturn, 1) := by decide +kernel
theorem d_Model_going_64 : decode b_Model_going 64 = .ok (.aload_n 0, 1) := by decide +kernel
theorem d_Model_going_65 : decode b_Model_going 65 = .ok (.getfield 71, 3) := by decide +kernel
theorem d_Model_going_68 : decode b_Model_going 68 = .ok (.ifCond .ne 6, 3) := by decide +kernel
theorem d_Model_going_71 : decode b_Model_going 71 = .ok (.bipush (-3), 2) := by decide +kernel
theorem d_Model_going_73 : decode b_Model_going 73 = .ok (.ireturn, 1) := by decide +kernel
theorem d_Model_going_74 : decode b_Model_going 74 = .ok (.bipush 60, 2) := by decide +kernel
theorem d_Model_going_76 : decode b_Model_going 76 = .ok (.iload_n 1, 1) := by decide +kernel
theorem d_Model_going_77 : decode b_Model_going 77 = .ok (.imul, 1) := by decide +kernel
theorem d_Model_going_78 : decode b_Model_going 78 = .ok (.iload_n 3, 1) := by decide +kernel
theorem d_Model_going_79 : decode b_Model_going 79 = .ok (.iadd, 1) := by decide +kernel
theorem d_Model_going_80 : decode b_Model_going 80 = .ok (.istore 7, 2) := by decide +kernel
theorem d_Model_going_82 : decode b_Model_going 82 = .ok (.iconst 0, 1) := by decide +kernel
theorem d_Model_going_83 : decode b_Model_going 83 = .ok (.istore 8, 2) := by decide +kernel
theorem d_Model_going_85 : decode b_Model_going 85 = .ok (.iconst 0, 1) := by decide +kernel
theorem d_Model_going_86 : decode b_Model_going 86 = .ok (.istore 9, 2) := by decide +kernel
theorem d_Model_going_88 : decode b_Model_going 88 = .ok (.iload 9, 2) := by decide +kernel
theorem d_Model_going_90 : decode b_Model_going 90 = .ok (.iload 4, 2) := by decide +kernel
theorem d_Model_going_92 : decode b_Model_going 92 = .ok (.if_icmp .ge 52, 3) := by decide +kernel
theorem d_Model_going_95 : decode b_Model_going 95 = .ok (.aload_n 0, 1) := by decide +kernel
theorem d_Model_going_96 : decode b_Model_going 96 = .ok (.getfield 16, 3) := by decide +kernel
theorem d_Model_going_99 : decode b_Model_going 99 = .ok (.iload 7, 2) := by decide +kernel
theorem d_Model_going_101 : decode b_Model_going 101 = .ok (.iload 9, 2) := by decide +kernel
theorem d_Model_going_103 : decode b_Model_going 103 = .ok (.iadd, 1) := by decide +kernel
theorem d_Model_going_104 : decode b_Model_going 104 = .ok (.iaload, 1) := by decide +kernel
theorem d_Model_going_105 : decode b_Model_going 105 = .ok (.istore 10, 2) := by decide +kernel
theorem d_Model_going_107 : decode b_Model_going 107 = .ok (.aload_n 0, 1) := by decide +kernel
theorem d_Model_going_108 : decode b_Model_going 108 = .ok (.iload 10, 2) := by decide +kernel
theorem d_Model_going_110 : decode b_Model_going 110 = .ok (.invokevirtual 124, 3) := by decide +kernel
theorem d_Model_going_113 : decode b_Model_going 113 = .ok (.ifCond .eq 14, 3) := by decide +kernel
theorem d_Model_going_116 : decode b_Model_going 116 = .ok (.iload 8, 2) := by decide +kernel
theorem d_Model_going_118 : decode b_Model_going 118 = .ok (.iload 10, 2) := by decide +kernel
theorem d_Model_going_120 : decode b_Model_going 120 = .ok (.ishr, 1) := by decide +kernel
theorem d_Model_going_121 : decode b_Model_going 121 = .ok (.iconst 1, 1) := by decide +kernel
theorem d_Model_going_122 : decode b_Model_going 122 = .ok (.iand, 1) := by decide +kernel
theorem d_Model_going_123 : decode b_Model_going 123 = .ok (.iconst 1, 1) := by decide +kernel
theorem d_Model_going_124 : decode b_Model_going 124 = .ok (.if_icmp .ne 5, 3) := by decide +kernel
theorem d_Model_going_127 : decode b_Model_going 127 = .ok (.iconst (-1), 1) := by decide +kernel
theorem d_Model_going_128 : decode b_Model_going 128 = .ok (.ireturn, 1) := by decide +kernel
theorem d_Model_going_129 : decode b_Model_going 129 = .ok (.iload 8, 2) := by decide +kernel
theorem d_Model_going_131 : decode b_Model_going 131 = .ok (.iconst 1, 1) := by decide +kernel
theorem d_Model_going_132 : decode b_Model_going 132 = .ok (.iload 10, 2) := by decide +kernel
theorem d_Model_going_134 : decode b_Model_going 134 = .ok (.ishl, 1) := by decide +kernel
theorem d_Model_going_135 : decode b_Model_going 135 = .ok (.ior, 1) := by decide +kernel
theorem d_Model_going_136 : decode b_Model_going 136 = .ok (.istore 8, 2) := by decide +kernel
theorem d_Model_going_138 : decode b_Model_going 138 = .ok (.iinc 9 1, 3) := by decide +kernel
theorem d_Model_going_141 : decode b_Model_going 141 = .ok (.goto (-53), 3) := by decide +kernel
theorem d_Model_going_144 : decode b_Model_going 144 = .ok (.aload_n 0, 1) := by decide +kernel
theorem d_Model_going_145 : decode b_Model_going 145 = .ok (.invokevirtual 142, 3) := by decide +kernel
theorem d_Model_going_148 : decode b_Model_going 148 = .ok (.iconst 0, 1) := by decide +kernel
theorem d_Model_going_149 : decode b_Model_going 149 = .ok (.istore 9, 2) := by decide +kernel
theorem d_Model_going_151 : decode b_Model_going 151 = .ok (.iload 9, 2) := by decide +kernel
theorem d_Model_going_153 : decode b_Model_going 153 = .ok (.iload 4, 2) := by decide +kernel
theorem d_Model_going_155 : decode b_Model_going 155 = .ok (.if_icmp .ge 25, 3) := by decide +kernel
theorem d_Model_going_158 : decode b_Model_going 158 = .ok (.aload_n 0, 1) := by decide +kernel
theorem d_Model_going_159 : decode b_Model_going 159 = .ok (.iconst 1, 1) := by decide +kernel
theorem d_Model_going_160 : decode b_Model_going 160 = .ok (.aload_n 0, 1) := by decide +kernel
theorem d_Model_going_161 : decode b_Model_going 161 = .ok (.getfield 16, 3) := by decide +kernel
theorem d_Model_going_164 : decode b_Model_going 164 = .ok (.iload 7, 2) := by decide +kernel
theorem d_Model_going_166 : decode b_Model_going 166 = .ok (.iload 9, 2) := by decide +kernel
theorem d_Model_going_168 : decode b_Model_going 168 = .ok (.iadd, 1) := by decide +kernel
theorem d_Model_going_169 : decode b_Model_going 169 = .ok (.iaload, 1) := by decide +kernel
theorem d_Model_going_170 : decode b_Model_going 170 = .ok (.ishl, 1) := by decide +kernel
theorem d_Model_going_171 : decode b_Model_going 171 = .ok (.invokevirtual 145, 3) := by decide +kernel
theorem d_Model_going_174 : decode b_Model_going 174 = .ok (.iinc 9 1, 3) := by decide +kernel
theorem d_Model_going_177 : decode b_Model_going 177 = .ok (.goto (-26), 3) := by decide +kernel
theorem d_Model_going_180 : decode b_Model_going 180 = .ok (.iload 5, 2) := by decide +kernel
theorem d_Model_going_182 : decode b_Model_going 182 = .ok (.ifCond .ne 13, 3) := by decide +kernel
theorem d_Model_going_185 : decode b_Model_going 185 = .ok (.iload 8, 2) := by decide +kernel
theorem d_Model_going_187 : decode b_Model_going 187 = .ok (.aload_n 0, 1) := by decide +kernel
theorem d_Model_going_188 : decode b_Model_going 188 = .ok (.getfield 133, 3) := by decide +kernel
theorem d_Model_going_191 : decode b_Model_going 191 = .ok (.iconst (-1), 1) := by decide +kernel
theorem d_Model_going_192 : decode b_Model_going 192 = .ok (.ixor, 1) := by decide +kernel
theorem d_Model_going_193 : decode b_Model_going 193 = .ok (.iand, 1) := by decide +kernel
theorem d_Model_going_194 : decode b_Model_going 194 = .ok (.ireturn, 1) := by decide +kernel
theorem d_Model_going_195 : decode b_Model_going 195 = .ok (.aload_n 0, 1) := by decide +kernel
theorem d_Model_going_196 : decode b_Model_going 196 = .ok (.iload 5, 2) := by decide +kernel
theorem d_Model_going_198 : decode b_Model_going 198 = .ok (.bipush 10, 2) := by decide +kernel
theorem d_Model_going_200 : decode b_Model_going 200 = .ok (.isub, 1) := by decide +kernel
theorem d_Model_going_201 : decode b_Model_going 201 = .ok (.invokevirtual 124, 3) := by decide +kernel
theorem d_Model_going_204 : decode b_Model_going 204 = .ok (.ifCond .eq 16, 3) := by decide +kernel
theorem d_Model_going_207 : decode b_Model_going 207 = .ok (.aload_n 0, 1) := by decide +kernel
theorem d_Model_going_208 : decode b_Model_going 208 = .ok (.getfield 44, 3) := by decide +kernel
theorem d_Model_going_211 : decode b_Model_going 211 = .ok (.iload 5, 2) := by decide +kernel
theorem d_Model_going_213 : decode b_Model_going 213 = .ok (.bipush 10, 2) := by decide +kernel
theorem d_Model_going_215 : decode b_Model_going 215 = .ok (.isub, 1) := by decide +kernel
theorem d_Model_going_216 : decode b_Model_going 216 = .ok (.iaload, 1) := by decide +kernel
theorem d_Model_going_217 : decode b_Model_going 217 = .ok (.goto 5, 3) := by decide +kernel
theorem d_Model_going_220 : decode b_Model_going 220 = .ok (.bipush (-9), 2) := by decide +kernel
theorem d_Model_going_222 : decode b_Model_going 222 = .ok (.ireturn, 1) := by decide +kernel
set_option maxRecDepth 20000 in
theorem c_Model_going {l : Launch} {g : GG} (hI : WI g) (a1 : Int32) (a2 : Int32) (a3 : Int32) (a4 : Int32) (a5 : Int32) (M : Mem) (R : Int32 → Mem → Prop) (h : wp_Model_going a1 a2 a3 a4 a5 M R) : Met l y_Model_going (wm y_Model_going b_Model_going 11 (some .int)) (RM 3 73) (PP g M [.ref (g.2.2.2 29), .int a1, .int a2, .int a3, .int a4, .int a5]) (PQ g (RI R)) 0 0 (AW g) := by
  refine m_of (own := N_Model) (by decide) rfl (Nat.le_of_ble_eq_true rfl) ?_
  intro p e s m below meth c ls C hr hlocks hW hP hS hl
  obtain ⟨hx, hb, hml, hown, hts⟩ := id C
  have hl : lv_has ls 11 [(0, .ref (g.2.2.2 29)), (1, .int a1), (2, .int a2), (3, .int a3), (4, .int a4), (5, .int a5)] := hl
  unfold wp_Model_going at h
  obtain ⟨X88, eX88⟩ : ∃ X : Int32 → Int32 → Int32 → Int32 → Int32 → Mem → Prop, ∀ (x4 : Int32) (x5 : Int32) (x7 : Int32) (x8 : Int32) (x9 : Int32) (M : Mem), X x4 x5 x7 x8 x9 M ↔ (∀ (H : Heap) (locs : List Loc) (ls : Array Slot), WP g M H → va_S (AW g) s.heap H locs → lv_has ls 11 [(0, .ref (g.2.2.2 29)), (4, .int x4), (5, .int x5), (7, .int x7), (8, .int x8), (9, .int x9)] → W p l e (RM 3 73) s m ([.ref (g.2.2.2 29), .int a1, .int a2, .int a3, .int a4, .int a5] : List Value).toArray below meth c H locs 0 0 (MQ below (PQ g (RI R)) ([.ref (g.2.2.2 29), .int a1, .int a2, .int a3, .int a4, .int a5] : List Value).toArray s 0 0 (AW g)) (F0 m 88 ls [])) := ⟨fun x4 x5 x7 x8 x9 M => _, fun _ _ _ _ _ _ => Iff.rfl⟩
  obtain ⟨X151, eX151⟩ : ∃ X : Int32 → Int32 → Int32 → Int32 → Int32 → Mem → Prop, ∀ (x4 : Int32) (x5 : Int32) (x7 : Int32) (x8 : Int32) (x9 : Int32) (M : Mem), X x4 x5 x7 x8 x9 M ↔ (∀ (H : Heap) (locs : List Loc) (ls : Array Slot), WP g M H → va_S (AW g) s.heap H locs → lv_has ls 11 [(0, .ref (g.2.2.2 29)), (4, .int x4), (5, .int x5), (7, .int x7), (8, .int x8), (9, .int x9)] → W p l e (RM 3 73) s m ([.ref (g.2.2.2 29), .int a1, .int a2, .int a3, .int a4, .int a5] : List Value).toArray below meth c H locs 0 0 (MQ below (PQ g (RI R)) ([.ref (g.2.2.2 29), .int a1, .int a2, .int a3, .int a4, .int a5] : List Value).toArray s 0 0 (AW g)) (F0 m 151 ls [])) := ⟨fun x4 x5 x7 x8 x9 M => _, fun _ _ _ _ _ _ => Iff.rfl⟩
  have J41 : ∀ (x1 : Int32) (x2 : Int32) (x3 : Int32) (x4 : Int32) (x5 : Int32) (M : Mem), wp_Model_going_41 X88 X151 R x1 x2 x3 x4 x5 M → ∀ (H : Heap) (locs : List Loc) (ls : Array Slot), WP g M H → va_S (AW g) s.heap H locs → lv_has ls 11 [(0, .ref (g.2.2.2 29)), (1, .int x1), (2, .int x2), (3, .int x3), (4, .int x4), (5, .int x5)] → W p l e (RM 3 73) s m ([.ref (g.2.2.2 29), .int a1, .int a2, .int a3, .int a4, .int a5] : List Value).toArray below meth c H locs 0 0 (MQ below (PQ g (RI R)) ([.ref (g.2.2.2 29), .int a1, .int a2, .int a3, .int a4, .int a5] : List Value).toArray s 0 0 (AW g)) (F0 m 41 ls []) := by
    intro x1 x2 x3 x4 x5 M hk H locs ls hP hS hl
    unfold wp_Model_going_41 at hk
    refine lv_aload_n hx hb d_Model_going_41 rfl (lv_at hl 0 rfl) ?_
    refine lv_iload_n hx hb d_Model_going_42 rfl (lv_at hl 1 rfl) ?_
    refine lv_iload_n hx hb d_Model_going_43 rfl (lv_at hl 2 rfl) ?_
    refine lv_iload_n hx hb d_Model_going_44 rfl (lv_at hl 3 rfl) ?_
    refine lv_iload hx hb d_Model_going_45 (lv_at hl 4 rfl) ?_
    refine r_runI (k_V (As := [.int x1, .int x2, .int x3, .int x4]) (rest := []) C hW hP (c_Model_against hI x1 x2 x3 x4 M _ hk) cb_Model_against ml_Model_87 (io_29 g M) ⟨by decide, by decide⟩ rfl hl.1 rfl (Nat.le_of_ble_eq_true rfl) d_Model_going_47 ⟨by decide, by decide⟩) hS (fun r2 M1 H locs hk hP hS => ?_)
    refine lv_istore (lv' := [(6, .int r2), (0, .ref (g.2.2.2 29)), (1, .int x1), (2, .int x2), (3, .int x3), (4, .int x4), (5, .int x5)]) hx hb d_Model_going_50 hl (by decide) rfl (fun ls hl => ?_)
    refine lv_iload hx hb d_Model_going_52 (lv_at hl 0 rfl) ?_
    refine lv_if_eq (tgt := 64) hx hb d_Model_going_54 (by decide) (fun c3 => ?_) (fun c3 => ?_)
    · have hk := hk.1 c3
      refine lv_aload_n hx hb d_Model_going_64 rfl (lv_at hl 1 rfl) ?_
      refine gf_29_5 C hW hP fl_Model_71 d_Model_going_65 ?_
      refine lv_if_ne (tgt := 74) hx hb d_Model_going_68 (by decide) (fun c4 => ?_) (fun c4 => ?_)
      · have hk := hk.1 c4
        refine lv_bipush (v := 60) hx hb d_Model_going_74 (by decide) ?_
        refine lv_iload_n hx hb d_Model_going_76 rfl (lv_at hl 2 rfl) ?_
        refine lv_imul hx hb d_Model_going_77 ?_
        refine lv_iload_n hx hb d_Model_going_78 rfl (lv_at hl 4 rfl) ?_
        refine lv_iadd hx hb d_Model_going_79 ?_
        refine lv_topi (fun x7_5 ex7_5 => ?_)
        have hk := hk x7_5 ex7_5
        refine lv_istore (lv' := [(7, .int x7_5), (6, .int r2), (0, .ref (g.2.2.2 29)), (1, .int x1), (2, .int x2), (3, .int x3), (4, .int x4), (5, .int x5)]) hx hb d_Model_going_80 hl (by decide) rfl (fun ls hl => ?_)
        refine lv_iconst (v := 0) hx hb d_Model_going_82 (by decide) ?_
        refine lv_istore (lv' := [(8, .int (0 : Int32)), (7, .int x7_5), (6, .int r2), (0, .ref (g.2.2.2 29)), (1, .int x1), (2, .int x2), (3, .int x3), (4, .int x4), (5, .int x5)]) hx hb d_Model_going_83 hl (by decide) rfl (fun ls hl => ?_)
        refine lv_iconst (v := 0) hx hb d_Model_going_85 (by decide) ?_
        refine lv_istore (lv' := [(9, .int (0 : Int32)), (8, .int (0 : Int32)), (7, .int x7_5), (6, .int r2), (0, .ref (g.2.2.2 29)), (1, .int x1), (2, .int x2), (3, .int x3), (4, .int x4), (5, .int x5)]) hx hb d_Model_going_86 hl (by decide) rfl (fun ls hl => ?_)
        exact (eX88 x4 x5 x7_5 (0 : Int32) (0 : Int32) M1).mp hk _ _ _ hP hS (lv_sub hl [4, 8, 9, 2, 1, 0] rfl)
      · have hk := hk.2 c4
        refine lv_bipush (v := -3) hx hb d_Model_going_71 (by decide) ?_
        exact r_iret C hr hlocks hP hS hk d_Model_going_73
    · have hk := hk.2 c3
      refine lv_aload_n hx hb d_Model_going_57 rfl (lv_at hl 1 rfl) ?_
      refine lv_iload hx hb d_Model_going_58 (lv_at hl 0 rfl) ?_
      refine r_runI (k_V (As := [.int r2]) (rest := []) C hW hP (c_Model_fails hI r2 M1 _ hk) cb_Model_fails ml_Model_91 (io_29 g M1) ⟨by decide, by decide⟩ rfl hl.1 rfl (Nat.le_of_ble_eq_true rfl) d_Model_going_60 ⟨by decide, by decide⟩) hS (fun r7 M6 H locs hk hP hS => ?_)
      exact r_iret C hr hlocks hP hS hk d_Model_going_63
  suffices hcl : (∀ (x4 : Int32) (x5 : Int32) (x7 : Int32) (x8 : Int32) (x9 : Int32) (M : Mem), wp_Model_going_88 X88 X151 R x4 x5 x7 x8 x9 M → X88 x4 x5 x7 x8 x9 M) ∧ (∀ (x4 : Int32) (x5 : Int32) (x7 : Int32) (x8 : Int32) (x9 : Int32) (M : Mem), wp_Model_going_151 X88 X151 R x4 x5 x7 x8 x9 M → X151 x4 x5 x7 x8 x9 M) by
    have hk := h X88 X151 (hcl.1) (hcl.2)
    refine lv_aload_n hx hb d_Model_going_0 rfl (lv_at hl 0 rfl) ?_
    refine lv_iconst (v := 0) hx hb d_Model_going_1 (by decide) ?_
    refine pf_29_0 hI C hW hP hS fl_Model_62 d_Model_going_2 (fun M27 eM27 H locs hP hS => ?_)
    have hk := hk M27 eM27
    refine lv_iload_n hx hb d_Model_going_5 rfl (lv_at hl 1 rfl) ?_
    refine r_runZ (k_S (As := [.int a1]) (rest := []) C hW hP (c_Model_isSheet hI a1 M27 _ hk) cb_Model_isSheet ml_Model_80 ⟨by decide, by decide⟩ rfl hl.1 rfl (Nat.le_of_ble_eq_true rfl) d_Model_going_6 ⟨by decide, by decide⟩) hS (fun r29 M28 H locs zr29 hk hP hS => ?_)
    refine lv_if_ne (tgt := 14) hx hb d_Model_going_9 (by decide) (fun c30 => ?_) (fun c30 => ?_)
    · have hk := hk.1 c30
      refine lv_iload_n hx hb d_Model_going_14 rfl (lv_at hl 2 rfl) ?_
      refine r_runZ (k_S (As := [.int a2]) (rest := []) C hW hP (c_Model_isSort hI a2 M28 _ hk) cb_Model_isSort ml_Model_84 ⟨by decide, by decide⟩ rfl hl.1 rfl (Nat.le_of_ble_eq_true rfl) d_Model_going_15 ⟨by decide, by decide⟩) hS (fun r32 M31 H locs zr32 hk hP hS => ?_)
      refine lv_if_eq (tgt := 38) hx hb d_Model_going_18 (by decide) (fun c33 => ?_) (fun c33 => ?_)
      · have hk := hk.1 c33
        refine lv_bipush (v := -2) hx hb d_Model_going_38 (by decide) ?_
        exact r_iret C hr hlocks hP hS hk d_Model_going_40
      · have hk := hk.2 c33
        refine lv_iload hx hb d_Model_going_21 (lv_at hl 5 rfl) ?_
        refine lv_if_eq (tgt := 41) hx hb d_Model_going_23 (by decide) (fun c34 => ?_) (fun c34 => ?_)
        · have hk := hk.1 c34
          exact J41 a1 a2 a3 a4 a5 M31 hk _ _ _ hP hS (lv_sub hl [0, 1, 2, 3, 4, 5] rfl)
        · have hk := hk.2 c34
          refine lv_iload hx hb d_Model_going_26 (lv_at hl 5 rfl) ?_
          refine lv_bipush (v := 10) hx hb d_Model_going_28 (by decide) ?_
          refine lv_bipush (v := 14) hx hb d_Model_going_30 (by decide) ?_
          refine r_runZ (k_S (As := [.int a5, .int (10 : Int32), .int (14 : Int32)]) (rest := []) C hW hP (c_Model_within hI a5 (10 : Int32) (14 : Int32) M31 _ hk) cb_Model_within ml_Model_67 ⟨by decide, by decide⟩ rfl hl.1 rfl (Nat.le_of_ble_eq_true rfl) d_Model_going_32 ⟨by decide, by decide⟩) hS (fun r36 M35 H locs zr36 hk hP hS => ?_)
          refine lv_if_ne (tgt := 41) hx hb d_Model_going_35 (by decide) (fun c37 => ?_) (fun c37 => ?_)
          · have hk := hk.1 c37
            exact J41 a1 a2 a3 a4 a5 M35 hk _ _ _ hP hS (lv_sub hl [0, 1, 2, 3, 4, 5] rfl)
          · have hk := hk.2 c37
            refine lv_bipush (v := -2) hx hb d_Model_going_38 (by decide) ?_
            exact r_iret C hr hlocks hP hS hk d_Model_going_40
    · have hk := hk.2 c30
      refine lv_iconst (v := -1) hx hb d_Model_going_12 (by decide) ?_
      exact r_iret C hr hlocks hP hS hk d_Model_going_13
  refine ⟨?_, ?_⟩
  · intro x4 x5 x7 x8 x9 M hk
    refine (eX88 x4 x5 x7 x8 x9 M).mpr ?_
    intro H locs ls hP hS hl
    unfold wp_Model_going_88 at hk
    refine lv_iload hx hb d_Model_going_88 (lv_at hl 5 rfl) ?_
    refine lv_iload hx hb d_Model_going_90 (lv_at hl 1 rfl) ?_
    refine lv_icmp_ge (tgt := 144) hx hb d_Model_going_92 (by decide) (fun c8 => ?_) (fun c8 => ?_)
    · have hk := hk.1 c8
      refine lv_aload_n hx hb d_Model_going_144 rfl (lv_at hl 0 rfl) ?_
      refine r_runV (k_V (As := []) (rest := []) C hW hP (c_Model_begin hI M _ hk) cb_Model_begin ml_Model_142 (io_29 g M) ⟨by decide, by decide⟩ rfl hl.1 rfl (Nat.le_of_ble_eq_true rfl) d_Model_going_145 ⟨by decide, by decide⟩) hS (fun M9 H locs hk hP hS => ?_)
      refine lv_iconst (v := 0) hx hb d_Model_going_148 (by decide) ?_
      refine lv_istore (lv' := [(9, .int (0 : Int32)), (0, .ref (g.2.2.2 29)), (4, .int x4), (5, .int x5), (7, .int x7), (8, .int x8)]) hx hb d_Model_going_149 hl (by decide) rfl (fun ls hl => ?_)
      exact (eX151 x4 x5 x7 x8 (0 : Int32) M9).mp hk _ _ _ hP hS (lv_sub hl [1, 2, 3, 4, 5, 0] rfl)
    · have hk := hk.2 c8
      refine lv_aload_n hx hb d_Model_going_95 rfl (lv_at hl 0 rfl) ?_
      refine gf_29_4 C hW hP fl_Model_16 d_Model_going_96 ?_
      refine lv_iload hx hb d_Model_going_99 (lv_at hl 3 rfl) ?_
      refine lv_iload hx hb d_Model_going_101 (lv_at hl 5 rfl) ?_
      refine lv_iadd hx hb d_Model_going_103 ?_
      obtain ⟨h10, hk⟩ := hk
      refine al_32 C hW hP h10 d_Model_going_104 ?_
      refine lv_topi (fun x10_11 ex10_11 => ?_)
      have hk := hk x10_11 ex10_11
      refine lv_istore (lv' := [(10, .int x10_11), (0, .ref (g.2.2.2 29)), (4, .int x4), (5, .int x5), (7, .int x7), (8, .int x8), (9, .int x9)]) hx hb d_Model_going_105 hl (by decide) rfl (fun ls hl => ?_)
      refine lv_aload_n hx hb d_Model_going_107 rfl (lv_at hl 1 rfl) ?_
      refine lv_iload hx hb d_Model_going_108 (lv_at hl 0 rfl) ?_
      refine r_runZ (k_V (As := [.int x10_11]) (rest := []) C hW hP (c_Model_isGuest hI x10_11 M _ hk) cb_Model_isGuest ml_Model_124 (io_29 g M) ⟨by decide, by decide⟩ rfl hl.1 rfl (Nat.le_of_ble_eq_true rfl) d_Model_going_110 ⟨by decide, by decide⟩) hS (fun r13 M12 H locs zr13 hk hP hS => ?_)
      refine lv_if_eq (tgt := 127) hx hb d_Model_going_113 (by decide) (fun c14 => ?_) (fun c14 => ?_)
      · have hk := hk.1 c14
        refine lv_iconst (v := -1) hx hb d_Model_going_127 (by decide) ?_
        exact r_iret C hr hlocks hP hS hk d_Model_going_128
      · have hk := hk.2 c14
        refine lv_iload hx hb d_Model_going_116 (lv_at hl 5 rfl) ?_
        refine lv_iload hx hb d_Model_going_118 (lv_at hl 0 rfl) ?_
        refine lv_ishr hx hb d_Model_going_120 ?_
        refine lv_iconst (v := 1) hx hb d_Model_going_121 (by decide) ?_
        refine lv_iand hx hb d_Model_going_122 ?_
        refine lv_iconst (v := 1) hx hb d_Model_going_123 (by decide) ?_
        refine lv_icmp_ne (tgt := 129) hx hb d_Model_going_124 (by decide) (fun c15 => ?_) (fun c15 => ?_)
        · have hk := hk.1 c15
          refine lv_iload hx hb d_Model_going_129 (lv_at hl 5 rfl) ?_
          refine lv_iconst (v := 1) hx hb d_Model_going_131 (by decide) ?_
          refine lv_iload hx hb d_Model_going_132 (lv_at hl 0 rfl) ?_
          refine lv_ishl hx hb d_Model_going_134 ?_
          refine lv_ior hx hb d_Model_going_135 ?_
          refine lv_topi (fun x8_16 ex8_16 => ?_)
          have hk := hk x8_16 ex8_16
          refine lv_istore (lv' := [(8, .int x8_16), (10, .int x10_11), (0, .ref (g.2.2.2 29)), (4, .int x4), (5, .int x5), (7, .int x7), (9, .int x9)]) hx hb d_Model_going_136 hl (by decide) rfl (fun ls hl => ?_)
          obtain ⟨x9_17, ex9_17⟩ : ∃ y : Int32, y = x9 + (1 : Int32) := ⟨_, rfl⟩
          have hk := hk x9_17 ex9_17
          refine lv_iinc (v := x9_17) (lv' := [(9, .int x9_17), (8, .int x8_16), (10, .int x10_11), (0, .ref (g.2.2.2 29)), (4, .int x4), (5, .int x5), (7, .int x7)]) hx hb d_Model_going_138 hl (k := 6) rfl (by rw [ex9_17]; rfl) (by decide) rfl (fun ls hl => ?_)
          refine lv_goto (tgt := 88) hx hb d_Model_going_141 (by decide) ?_
          exact (eX88 x4 x5 x7 x8_16 x9_17 M12).mp hk _ _ _ hP hS (lv_sub hl [3, 4, 5, 6, 1, 0] rfl)
        · have hk := hk.2 c15
          refine lv_iconst (v := -1) hx hb d_Model_going_127 (by decide) ?_
          exact r_iret C hr hlocks hP hS hk d_Model_going_128
  · intro x4 x5 x7 x8 x9 M hk
    refine (eX151 x4 x5 x7 x8 x9 M).mpr ?_
    intro H locs ls hP hS hl
    unfold wp_Model_going_151 at hk
    refine lv_iload hx hb d_Model_going_151 (lv_at hl 5 rfl) ?_
    refine lv_iload hx hb d_Model_going_153 (lv_at hl 1 rfl) ?_
    refine lv_icmp_ge (tgt := 180) hx hb d_Model_going_155 (by decide) (fun c18 => ?_) (fun c18 => ?_)
    · have hk := hk.1 c18
      refine lv_iload hx hb d_Model_going_180 (lv_at hl 2 rfl) ?_
      refine lv_if_ne (tgt := 195) hx hb d_Model_going_182 (by decide) (fun c19 => ?_) (fun c19 => ?_)
      · have hk := hk.1 c19
        refine lv_aload_n hx hb d_Model_going_195 rfl (lv_at hl 0 rfl) ?_
        refine lv_iload hx hb d_Model_going_196 (lv_at hl 2 rfl) ?_
        refine lv_bipush (v := 10) hx hb d_Model_going_198 (by decide) ?_
        refine lv_isub hx hb d_Model_going_200 ?_
        refine r_runZ (k_V (As := [.int (x5 - (10 : Int32))]) (rest := []) C hW hP (c_Model_isGuest hI (x5 - (10 : Int32)) M _ hk) cb_Model_isGuest ml_Model_124 (io_29 g M) ⟨by decide, by decide⟩ rfl hl.1 rfl (Nat.le_of_ble_eq_true rfl) d_Model_going_201 ⟨by decide, by decide⟩) hS (fun r21 M20 H locs zr21 hk hP hS => ?_)
        refine lv_if_eq (tgt := 220) hx hb d_Model_going_204 (by decide) (fun c22 => ?_) (fun c22 => ?_)
        · have hk := hk.1 c22
          refine lv_bipush (v := -9) hx hb d_Model_going_220 (by decide) ?_
          exact r_iret C hr hlocks hP hS hk d_Model_going_222
        · have hk := hk.2 c22
          refine lv_aload_n hx hb d_Model_going_207 rfl (lv_at hl 0 rfl) ?_
          refine gf_29_19 C hW hP fl_Model_44 d_Model_going_208 ?_
          refine lv_iload hx hb d_Model_going_211 (lv_at hl 2 rfl) ?_
          refine lv_bipush (v := 10) hx hb d_Model_going_213 (by decide) ?_
          refine lv_isub hx hb d_Model_going_215 ?_
          obtain ⟨h23, hk⟩ := hk
          refine al_40 C hW hP h23 d_Model_going_216 ?_
          refine lv_goto (tgt := 222) hx hb d_Model_going_217 (by decide) ?_
          exact r_iret C hr hlocks hP hS hk d_Model_going_222
      · have hk := hk.2 c19
        refine lv_iload hx hb d_Model_going_185 (lv_at hl 4 rfl) ?_
        refine lv_aload_n hx hb d_Model_going_187 rfl (lv_at hl 0 rfl) ?_
        refine gf_29_18 C hW hP fl_Model_133 d_Model_going_188 ?_
        refine lv_iconst (v := -1) hx hb d_Model_going_191 (by decide) ?_
        refine lv_ixor hx hb d_Model_going_192 ?_
        refine lv_iand hx hb d_Model_going_193 ?_
        exact r_iret C hr hlocks hP hS hk d_Model_going_194
    · have hk := hk.2 c18
      refine lv_aload_n hx hb d_Model_going_158 rfl (lv_at hl 0 rfl) ?_
      refine lv_iconst (v := 1) hx hb d_Model_going_159 (by decide) ?_
      refine lv_aload_n hx hb d_Model_going_160 rfl (lv_at hl 0 rfl) ?_
      refine gf_29_4 C hW hP fl_Model_16 d_Model_going_161 ?_
      refine lv_iload hx hb d_Model_going_164 (lv_at hl 3 rfl) ?_
      refine lv_iload hx hb d_Model_going_166 (lv_at hl 5 rfl) ?_
      refine lv_iadd hx hb d_Model_going_168 ?_
      obtain ⟨h24, hk⟩ := hk
      refine al_32 C hW hP h24 d_Model_going_169 ?_
      refine lv_ishl hx hb d_Model_going_170 ?_
      refine r_runV (k_V (As := [.int ((1 : Int32) <<< ((M 32 (x7 + x9).toNatClampNeg) &&& (31 : Int32)))]) (rest := []) C hW hP (c_Model_goThrough hI ((1 : Int32) <<< ((M 32 (x7 + x9).toNatClampNeg) &&& (31 : Int32))) M _ hk) cb_Model_goThrough ml_Model_145 (io_29 g M) ⟨by decide, by decide⟩ rfl hl.1 rfl (Nat.le_of_ble_eq_true rfl) d_Model_going_171 ⟨by decide, by decide⟩) hS (fun M25 H locs hk hP hS => ?_)
      obtain ⟨x9_26, ex9_26⟩ : ∃ y : Int32, y = x9 + (1 : Int32) := ⟨_, rfl⟩
      have hk := hk x9_26 ex9_26
      refine lv_iinc (v := x9_26) (lv' := [(9, .int x9_26), (0, .ref (g.2.2.2 29)), (4, .int x4), (5, .int x5), (7, .int x7), (8, .int x8)]) hx hb d_Model_going_174 hl (k := 5) rfl (by rw [ex9_26]; rfl) (by decide) rfl (fun ls hl => ?_)
      refine lv_goto (tgt := 151) hx hb d_Model_going_177 (by decide) ?_
      exact (eX151 x4 x5 x7 x8 x9_26 M25).mp hk _ _ _ hP hS (lv_sub hl [1, 2, 3, 4, 5, 0] rfl)
theorem d_Model_size_0 : decode b_Model_size 0 = .ok (.iconst 0, 1) := by decide +kernel
theorem d_Model_size_1 : decode b_Model_size 1 = .ok (.istore_n 1, 1) := by decide +kernel
theorem d_Model_size_2 : decode b_Model_size 2 = .ok (.iload_n 0, 1) := by decide +kernel
theorem d_Model_size_3 : decode b_Model_size 3 = .ok (.istore_n 2, 1) := by decide +kernel
theorem d_Model_size_4 : decode b_Model_size 4 = .ok (.iload_n 2, 1) := by decide +kernel
theorem d_Model_size_5 : decode b_Model_size 5 = .ok (.ifCond .le 16, 3) := by decide +kernel
theorem d_Model_size_8 : decode b_Model_size 8 = .ok (.iload_n 1, 1) := by decide +kernel
theorem d_Model_size_9 : decode b_Model_size 9 = .ok (.iload_n 2, 1) := by decide +kernel
theorem d_Model_size_10 : decode b_Model_size 10 = .ok (.iconst 1, 1) := by decide +kernel
theorem d_Model_size_11 : decode b_Model_size 11 = .ok (.iand, 1) := by decide +kernel
theorem d_Model_size_12 : decode b_Model_size 12 = .ok (.iadd, 1) := by decide +kernel
theorem d_Model_size_13 : decode b_Model_size 13 = .ok (.istore_n 1, 1) := by decide +kernel
theorem d_Model_size_14 : decode b_Model_size 14 = .ok (.iload_n 2, 1) := by decide +kernel
theorem d_Model_size_15 : decode b_Model_size 15 = .ok (.iconst 1, 1) := by decide +kernel
theorem d_Model_size_16 : decode b_Model_size 16 = .ok (.ishr, 1) := by decide +kernel
theorem d_Model_size_17 : decode b_Model_size 17 = .ok (.istore_n 2, 1) := by decide +kernel
theorem d_Model_size_18 : decode b_Model_size 18 = .ok (.goto (-14), 3) := by decide +kernel
theorem d_Model_size_21 : decode b_Model_size 21 = .ok (.iload_n 1, 1) := by decide +kernel
theorem d_Model_size_22 : decode b_Model_size 22 = .ok (.ireturn, 1) := by decide +kernel
set_option maxRecDepth 20000 in
theorem c_Model_size {l : Launch} {g : GG} (hI : WI g) (a0 : Int32) (M : Mem) (R : Int32 → Mem → Prop) (h : wp_Model_size a0 M R) : Met l y_Model_size (wm y_Model_size b_Model_size 3 (some .int)) (RM 0 0) (PP g M [.int a0]) (PQ g (RI R)) 0 0 (AW g) := by
  refine m_of (own := N_Model) (by decide) rfl (Nat.le_of_ble_eq_true rfl) ?_
  intro p e s m below meth c ls C hr hlocks hW hP hS hl
  obtain ⟨hx, hb, hml, hown, hts⟩ := id C
  have hl : lv_has ls 3 [(0, .int a0)] := hl
  unfold wp_Model_size at h
  obtain ⟨X4, eX4⟩ : ∃ X : Int32 → Int32 → Mem → Prop, ∀ (x1 : Int32) (x2 : Int32) (M : Mem), X x1 x2 M ↔ (∀ (H : Heap) (locs : List Loc) (ls : Array Slot), WP g M H → va_S (AW g) s.heap H locs → lv_has ls 3 [(1, .int x1), (2, .int x2)] → W p l e (RM 0 0) s m ([.int a0] : List Value).toArray below meth c H locs 0 0 (MQ below (PQ g (RI R)) ([.int a0] : List Value).toArray s 0 0 (AW g)) (F0 m 4 ls [])) := ⟨fun x1 x2 M => _, fun _ _ _ => Iff.rfl⟩
  suffices hcl : (∀ (x1 : Int32) (x2 : Int32) (M : Mem), wp_Model_size_4 X4 R x1 x2 M → X4 x1 x2 M) by
    have hk := h X4 hcl
    refine lv_iconst (v := 0) hx hb d_Model_size_0 (by decide) ?_
    refine lv_istore_n (lv' := [(1, .int (0 : Int32)), (0, .int a0)]) hx hb d_Model_size_1 rfl hl (by decide) rfl (fun ls hl => ?_)
    refine lv_iload_n hx hb d_Model_size_2 rfl (lv_at hl 1 rfl) ?_
    refine lv_istore_n (lv' := [(2, .int a0), (1, .int (0 : Int32)), (0, .int a0)]) hx hb d_Model_size_3 rfl hl (by decide) rfl (fun ls hl => ?_)
    exact (eX4 (0 : Int32) a0 M).mp hk _ _ _ hP hS (lv_sub hl [1, 0] rfl)
  · intro x1 x2 M hk
    refine (eX4 x1 x2 M).mpr ?_
    intro H locs ls hP hS hl
    unfold wp_Model_size_4 at hk
    refine lv_iload_n hx hb d_Model_size_4 rfl (lv_at hl 1 rfl) ?_
    refine lv_if_le (tgt := 21) hx hb d_Model_size_5 (by decide) (fun c1 => ?_) (fun c1 => ?_)
    · have hk := hk.1 c1
      refine lv_iload_n hx hb d_Model_size_21 rfl (lv_at hl 0 rfl) ?_
      exact r_iret C hr hlocks hP hS hk d_Model_size_22
    · have hk := hk.2 c1
      refine lv_iload_n hx hb d_Model_size_8 rfl (lv_at hl 0 rfl) ?_
      refine lv_iload_n hx hb d_Model_size_9 rfl (lv_at hl 1 rfl) ?_
      refine lv_iconst (v := 1) hx hb d_Model_size_10 (by decide) ?_
      refine lv_iand hx hb d_Model_size_11 ?_
      refine lv_iadd hx hb d_Model_size_12 ?_
      refine lv_topi (fun x1_2 ex1_2 => ?_)
      have hk := hk x1_2 ex1_2
      refine lv_istore_n (lv' := [(1, .int x1_2), (2, .int x2)]) hx hb d_Model_size_13 rfl hl (by decide) rfl (fun ls hl => ?_)
      refine lv_iload_n hx hb d_Model_size_14 rfl (lv_at hl 1 rfl) ?_
      refine lv_iconst (v := 1) hx hb d_Model_size_15 (by decide) ?_
      refine lv_ishr hx hb d_Model_size_16 ?_
      refine lv_topi (fun x2_3 ex2_3 => ?_)
      have hk := hk x2_3 ex2_3
      refine lv_istore_n (lv' := [(2, .int x2_3), (1, .int x1_2)]) hx hb d_Model_size_17 rfl hl (by decide) rfl (fun ls hl => ?_)
      refine lv_goto (tgt := 4) hx hb d_Model_size_18 (by decide) ?_
      exact (eX4 x1_2 x2_3 M).mp hk _ _ _ hP hS (lv_sub hl [1, 0] rfl)
theorem d_Model_passesEach_0 : decode b_Model_passesEach 0 = .ok (.iconst 0, 1) := by decide +kernel
theorem d_Model_passesEach_1 : decode b_Model_passesEach 1 = .ok (.istore_n 2, 1) := by decide +kernel
theorem d_Model_passesEach_2 : decode b_Model_passesEach 2 = .ok (.iload_n 2, 1) := by decide +kernel
theorem d_Model_passesEach_3 : decode b_Model_passesEach 3 = .ok (.aload_n 0, 1) := by decide +kernel
theorem d_Model_passesEach_4 : decode b_Model_passesEach 4 = .ok (.getfield 71, 3) := by decide +kernel
theorem d_Model_passesEach_7 : decode b_Model_passesEach 7 = .ok (.if_icmp .ge 23, 3) := by decide +kernel
theorem d_Model_passesEach_10 : decode b_Model_passesEach 10 = .ok (.aload_n 0, 1) := by decide +kernel
theorem d_Model_passesEach_11 : decode b_Model_passesEach 11 = .ok (.iload_n 2, 1) := by decide +kernel
theorem d_Model_passesEach_12 : decode b_Model_passesEach 12 = .ok (.iload_n 1, 1) := by decide +kernel
theorem d_Model_passesEach_13 : decode b_Model_passesEach 13 = .ok (.iconst 0, 1) := by decide +kernel
theorem d_Model_passesEach_14 : decode b_Model_passesEach 14 = .ok (.invokevirtual 130, 3) := by decide +kernel
theorem d_Model_passesEach_17 : decode b_Model_passesEach 17 = .ok (.bipush (-9), 2) := by decide +kernel
theorem d_Model_passesEach_19 : decode b_Model_passesEach 19 = .ok (.if_icmp .ne 5, 3) := by decide +kernel
theorem d_Model_passesEach_22 : decode b_Model_passesEach 22 = .ok (.iconst 0, 1) := by decide +kernel
theorem d_Model_passesEach_23 : decode b_Model_passesEach 23 = .ok (.ireturn, 1) := by decide +kernel
theorem d_Model_passesEach_24 : decode b_Model_passesEach 24 = .ok (.iinc 2 1, 3) := by decide +kernel
theorem d_Model_passesEach_27 : decode b_Model_passesEach 27 = .ok (.goto (-25), 3) := by decide +kernel
theorem d_Model_passesEach_30 : decode b_Model_passesEach 30 = .ok (.iconst 1, 1) := by decide +kernel
theorem d_Model_passesEach_31 : decode b_Model_passesEach 31 = .ok (.ireturn, 1) := by decide +kernel
set_option maxRecDepth 20000 in
theorem c_Model_passesEach {l : Launch} {g : GG} (hI : WI g) (a1 : Int32) (M : Mem) (R : Int32 → Mem → Prop) (h : wp_Model_passesEach a1 M R) : Met l y_Model_passesEach (wm y_Model_passesEach b_Model_passesEach 3 (some .boolean)) (RM 1 26) (PP g M [.ref (g.2.2.2 29), .int a1]) (PQ g (RZ R)) 0 0 (AW g) := by
  refine m_of (own := N_Model) (by decide) rfl (Nat.le_of_ble_eq_true rfl) ?_
  intro p e s m below meth c ls C hr hlocks hW hP hS hl
  obtain ⟨hx, hb, hml, hown, hts⟩ := id C
  have hl : lv_has ls 3 [(0, .ref (g.2.2.2 29)), (1, .int a1)] := hl
  unfold wp_Model_passesEach at h
  obtain ⟨X2, eX2⟩ : ∃ X : Int32 → Int32 → Mem → Prop, ∀ (x1 : Int32) (x2 : Int32) (M : Mem), X x1 x2 M ↔ (∀ (H : Heap) (locs : List Loc) (ls : Array Slot), WP g M H → va_S (AW g) s.heap H locs → lv_has ls 3 [(0, .ref (g.2.2.2 29)), (1, .int x1), (2, .int x2)] → W p l e (RM 1 26) s m ([.ref (g.2.2.2 29), .int a1] : List Value).toArray below meth c H locs 0 0 (MQ below (PQ g (RZ R)) ([.ref (g.2.2.2 29), .int a1] : List Value).toArray s 0 0 (AW g)) (F0 m 2 ls [])) := ⟨fun x1 x2 M => _, fun _ _ _ => Iff.rfl⟩
  suffices hcl : (∀ (x1 : Int32) (x2 : Int32) (M : Mem), wp_Model_passesEach_2 X2 R x1 x2 M → X2 x1 x2 M) by
    have hk := h X2 hcl
    refine lv_iconst (v := 0) hx hb d_Model_passesEach_0 (by decide) ?_
    refine lv_istore_n (lv' := [(2, .int (0 : Int32)), (0, .ref (g.2.2.2 29)), (1, .int a1)]) hx hb d_Model_passesEach_1 rfl hl (by decide) rfl (fun ls hl => ?_)
    exact (eX2 a1 (0 : Int32) M).mp hk _ _ _ hP hS (lv_sub hl [1, 2, 0] rfl)
  · intro x1 x2 M hk
    refine (eX2 x1 x2 M).mpr ?_
    intro H locs ls hP hS hl
    unfold wp_Model_passesEach_2 at hk
    refine lv_iload_n hx hb d_Model_passesEach_2 rfl (lv_at hl 2 rfl) ?_
    refine lv_aload_n hx hb d_Model_passesEach_3 rfl (lv_at hl 0 rfl) ?_
    refine gf_29_5 C hW hP fl_Model_71 d_Model_passesEach_4 ?_
    refine lv_icmp_ge (tgt := 30) hx hb d_Model_passesEach_7 (by decide) (fun c1 => ?_) (fun c1 => ?_)
    · have hk := hk.1 c1
      refine lv_iconst (v := 1) hx hb d_Model_passesEach_30 (by decide) ?_
      exact r_zret rfl C hr hlocks hP hS hk d_Model_passesEach_31
    · have hk := hk.2 c1
      refine lv_aload_n hx hb d_Model_passesEach_10 rfl (lv_at hl 0 rfl) ?_
      refine lv_iload_n hx hb d_Model_passesEach_11 rfl (lv_at hl 2 rfl) ?_
      refine lv_iload_n hx hb d_Model_passesEach_12 rfl (lv_at hl 1 rfl) ?_
      refine lv_iconst (v := 0) hx hb d_Model_passesEach_13 (by decide) ?_
      refine r_runI (k_V (As := [.int x2, .int x1, .int (0 : Int32)]) (rest := []) C hW hP (c_Model_used hI x2 x1 (0 : Int32) M _ hk) cb_Model_used ml_Model_130 (io_29 g M) ⟨by decide, by decide⟩ rfl hl.1 rfl (Nat.le_of_ble_eq_true rfl) d_Model_passesEach_14 ⟨by decide, by decide⟩) hS (fun r3 M2 H locs hk hP hS => ?_)
      refine lv_bipush (v := -9) hx hb d_Model_passesEach_17 (by decide) ?_
      refine lv_icmp_ne (tgt := 24) hx hb d_Model_passesEach_19 (by decide) (fun c4 => ?_) (fun c4 => ?_)
      · have hk := hk.1 c4
        obtain ⟨x2_5, ex2_5⟩ : ∃ y : Int32, y = x2 + (1 : Int32) := ⟨_, rfl⟩
        have hk := hk x2_5 ex2_5
        refine lv_iinc (v := x2_5) (lv' := [(2, .int x2_5), (0, .ref (g.2.2.2 29)), (1, .int x1)]) hx hb d_Model_passesEach_24 hl (k := 2) rfl (by rw [ex2_5]; rfl) (by decide) rfl (fun ls hl => ?_)
        refine lv_goto (tgt := 2) hx hb d_Model_passesEach_27 (by decide) ?_
        exact (eX2 x1 x2_5 M2).mp hk _ _ _ hP hS (lv_sub hl [1, 2, 0] rfl)
      · have hk := hk.2 c4
        refine lv_iconst (v := 0) hx hb d_Model_passesEach_22 (by decide) ?_
        exact r_zret rfl C hr hlocks hP hS hk d_Model_passesEach_23
theorem d_Model_least_0 : decode b_Model_least 0 = .ok (.aload_n 0, 1) := by decide +kernel
theorem d_Model_least_1 : decode b_Model_least 1 = .ok (.getfield 71, 3) := by decide +kernel
theorem d_Model_least_4 : decode b_Model_least 4 = .ok (.ifCond .ne 6, 3) := by decide +kernel
theorem d_Model_least_7 : decode b_Model_least 7 = .ok (.bipush (-3), 2) := by decide +kernel
theorem d_Model_least_9 : decode b_Model_least 9 = .ok (.ireturn, 1) := by decide +kernel
theorem d_Model_least_10 : decode b_Model_least 10 = .ok (.bipush (-9), 2) := by decide +kernel
theorem d_Model_least_12 : decode b_Model_least 12 = .ok (.istore_n 1, 1) := by decide +kernel
theorem d_Model_least_13 : decode b_Model_least 13 = .ok (.iconst 0, 1) := by decide +kernel
theorem d_Model_least_14 : decode b_Model_least 14 = .ok (.istore_n 2, 1) := by decide +kernel
theorem d_Model_least_15 : decode b_Model_least 15 = .ok (.iload_n 2, 1) := by decide +kernel
theorem d_Model_least_16 : decode b_Model_least 16 = .ok (.bipush 63, 2) := by decide +kernel
theorem d_Model_least_18 : decode b_Model_least 18 = .ok (.if_icmp .gt 36, 3) := by decide +kernel
theorem d_Model_least_21 : decode b_Model_least 21 = .ok (.iload_n 1, 1) := by decide +kernel
theorem d_Model_least_22 : decode b_Model_least 22 = .ok (.bipush (-9), 2) := by decide +kernel
theorem d_Model_least_24 : decode b_Model_least 24 = .ok (.if_icmp .eq 14, 3) := by decide +kernel
theorem d_Model_least_27 : decode b_Model_least 27 = .ok (.iload_n 2, 1) := by decide +kernel
theorem d_Model_least_28 : decode b_Model_least 28 = .ok (.invokestatic 149, 3) := by decide +kernel
theorem d_Model_least_31 : decode b_Model_least 31 = .ok (.iload_n 1, 1) := by decide +kernel
theorem d_Model_least_32 : decode b_Model_least 32 = .ok (.invokestatic 149, 3) := by decide +kernel
theorem d_Model_least_35 : decode b_Model_least 35 = .ok (.if_icmp .ge 13, 3) := by decide +kernel
theorem d_Model_least_38 : decode b_Model_least 38 = .ok (.aload_n 0, 1) := by decide +kernel
theorem d_Model_least_39 : decode b_Model_least 39 = .ok (.iload_n 2, 1) := by decide +kernel
theorem d_Model_least_40 : decode b_Model_least 40 = .ok (.invokevirtual 159, 3) := by decide +kernel
theorem d_Model_least_43 : decode b_Model_least 43 = .ok (.ifCond .eq 5, 3) := by decide +kernel
theorem d_Model_least_46 : decode b_Model_least 46 = .ok (.iload_n 2, 1) := by decide +kernel
theorem d_Model_least_47 : decode b_Model_least 47 = .ok (.istore_n 1, 1) := by decide +kernel
theorem d_Model_least_48 : decode b_Model_least 48 = .ok (.iinc 2 1, 3) := by decide +kernel
theorem d_Model_least_51 : decode b_Model_least 51 = .ok (.goto (-36), 3) := by decide +kernel
theorem d_Model_least_54 : decode b_Model_least 54 = .ok (.iload_n 1, 1) := by decide +kernel
theorem d_Model_least_55 : decode b_Model_least 55 = .ok (.ireturn, 1) := by decide +kernel
set_option maxRecDepth 20000 in
theorem c_Model_least {l : Launch} {g : GG} (hI : WI g) (M : Mem) (R : Int32 → Mem → Prop) (h : wp_Model_least  M R) : Met l y_Model_least (wm y_Model_least b_Model_least 3 (some .int)) (RM 2 48) (PP g M [.ref (g.2.2.2 29)]) (PQ g (RI R)) 0 0 (AW g) := by
  refine m_of (own := N_Model) (by decide) rfl (Nat.le_of_ble_eq_true rfl) ?_
  intro p e s m below meth c ls C hr hlocks hW hP hS hl
  obtain ⟨hx, hb, hml, hown, hts⟩ := id C
  have hl : lv_has ls 3 [(0, .ref (g.2.2.2 29))] := hl
  unfold wp_Model_least at h
  obtain ⟨X15, eX15⟩ : ∃ X : Int32 → Int32 → Mem → Prop, ∀ (x1 : Int32) (x2 : Int32) (M : Mem), X x1 x2 M ↔ (∀ (H : Heap) (locs : List Loc) (ls : Array Slot), WP g M H → va_S (AW g) s.heap H locs → lv_has ls 3 [(0, .ref (g.2.2.2 29)), (1, .int x1), (2, .int x2)] → W p l e (RM 2 48) s m ([.ref (g.2.2.2 29)] : List Value).toArray below meth c H locs 0 0 (MQ below (PQ g (RI R)) ([.ref (g.2.2.2 29)] : List Value).toArray s 0 0 (AW g)) (F0 m 15 ls [])) := ⟨fun x1 x2 M => _, fun _ _ _ => Iff.rfl⟩
  have J48 : ∀ (x1 : Int32) (x2 : Int32) (M : Mem), wp_Model_least_48 X15 R x1 x2 M → ∀ (H : Heap) (locs : List Loc) (ls : Array Slot), WP g M H → va_S (AW g) s.heap H locs → lv_has ls 3 [(0, .ref (g.2.2.2 29)), (1, .int x1), (2, .int x2)] → W p l e (RM 2 48) s m ([.ref (g.2.2.2 29)] : List Value).toArray below meth c H locs 0 0 (MQ below (PQ g (RI R)) ([.ref (g.2.2.2 29)] : List Value).toArray s 0 0 (AW g)) (F0 m 48 ls []) := by
    intro x1 x2 M hk H locs ls hP hS hl
    unfold wp_Model_least_48 at hk
    obtain ⟨x2_11, ex2_11⟩ : ∃ y : Int32, y = x2 + (1 : Int32) := ⟨_, rfl⟩
    have hk := hk x2_11 ex2_11
    refine lv_iinc (v := x2_11) (lv' := [(2, .int x2_11), (0, .ref (g.2.2.2 29)), (1, .int x1)]) hx hb d_Model_least_48 hl (k := 2) rfl (by rw [ex2_11]; rfl) (by decide) rfl (fun ls hl => ?_)
    refine lv_goto (tgt := 15) hx hb d_Model_least_51 (by decide) ?_
    exact (eX15 x1 x2_11 M).mp hk _ _ _ hP hS (lv_sub hl [1, 2, 0] rfl)
  have J38 : ∀ (x1 : Int32) (x2 : Int32) (M : Mem), wp_Model_least_38 X15 R x1 x2 M → ∀ (H : Heap) (locs : List Loc) (ls : Array Slot), WP g M H → va_S (AW g) s.heap H locs → lv_has ls 3 [(0, .ref (g.2.2.2 29)), (1, .int x1), (2, .int x2)] → W p l e (RM 2 48) s m ([.ref (g.2.2.2 29)] : List Value).toArray below meth c H locs 0 0 (MQ below (PQ g (RI R)) ([.ref (g.2.2.2 29)] : List Value).toArray s 0 0 (AW g)) (F0 m 38 ls []) := by
    intro x1 x2 M hk H locs ls hP hS hl
    unfold wp_Model_least_38 at hk
    refine lv_aload_n hx hb d_Model_least_38 rfl (lv_at hl 0 rfl) ?_
    refine lv_iload_n hx hb d_Model_least_39 rfl (lv_at hl 2 rfl) ?_
    refine r_runZ (k_V (As := [.int x2]) (rest := []) C hW hP (c_Model_passesEach hI x2 M _ hk) cb_Model_passesEach ml_Model_159 (io_29 g M) ⟨by decide, by decide⟩ rfl hl.1 rfl (Nat.le_of_ble_eq_true rfl) d_Model_least_40 ⟨by decide, by decide⟩) hS (fun r9 M8 H locs zr9 hk hP hS => ?_)
    refine lv_if_eq (tgt := 48) hx hb d_Model_least_43 (by decide) (fun c10 => ?_) (fun c10 => ?_)
    · have hk := hk.1 c10
      exact J48 x1 x2 M8 hk _ _ _ hP hS (lv_sub hl [0, 1, 2] rfl)
    · have hk := hk.2 c10
      refine lv_iload_n hx hb d_Model_least_46 rfl (lv_at hl 2 rfl) ?_
      refine lv_istore_n (lv' := [(1, .int x2), (0, .ref (g.2.2.2 29)), (2, .int x2)]) hx hb d_Model_least_47 rfl hl (by decide) rfl (fun ls hl => ?_)
      exact J48 x2 x2 M8 hk _ _ _ hP hS (lv_sub hl [1, 0, 2] rfl)
  suffices hcl : (∀ (x1 : Int32) (x2 : Int32) (M : Mem), wp_Model_least_15 X15 R x1 x2 M → X15 x1 x2 M) by
    have hk := h X15 hcl
    refine lv_aload_n hx hb d_Model_least_0 rfl (lv_at hl 0 rfl) ?_
    refine gf_29_5 C hW hP fl_Model_71 d_Model_least_1 ?_
    refine lv_if_ne (tgt := 10) hx hb d_Model_least_4 (by decide) (fun c12 => ?_) (fun c12 => ?_)
    · have hk := hk.1 c12
      refine lv_bipush (v := -9) hx hb d_Model_least_10 (by decide) ?_
      refine lv_istore_n (lv' := [(1, .int (-9 : Int32)), (0, .ref (g.2.2.2 29))]) hx hb d_Model_least_12 rfl hl (by decide) rfl (fun ls hl => ?_)
      refine lv_iconst (v := 0) hx hb d_Model_least_13 (by decide) ?_
      refine lv_istore_n (lv' := [(2, .int (0 : Int32)), (1, .int (-9 : Int32)), (0, .ref (g.2.2.2 29))]) hx hb d_Model_least_14 rfl hl (by decide) rfl (fun ls hl => ?_)
      exact (eX15 (-9 : Int32) (0 : Int32) M).mp hk _ _ _ hP hS (lv_sub hl [2, 1, 0] rfl)
    · have hk := hk.2 c12
      refine lv_bipush (v := -3) hx hb d_Model_least_7 (by decide) ?_
      exact r_iret C hr hlocks hP hS hk d_Model_least_9
  · intro x1 x2 M hk
    refine (eX15 x1 x2 M).mpr ?_
    intro H locs ls hP hS hl
    unfold wp_Model_least_15 at hk
    refine lv_iload_n hx hb d_Model_least_15 rfl (lv_at hl 2 rfl) ?_
    refine lv_bipush (v := 63) hx hb d_Model_least_16 (by decide) ?_
    refine lv_icmp_gt (tgt := 54) hx hb d_Model_least_18 (by decide) (fun c1 => ?_) (fun c1 => ?_)
    · have hk := hk.1 c1
      refine lv_iload_n hx hb d_Model_least_54 rfl (lv_at hl 1 rfl) ?_
      exact r_iret C hr hlocks hP hS hk d_Model_least_55
    · have hk := hk.2 c1
      refine lv_iload_n hx hb d_Model_least_21 rfl (lv_at hl 1 rfl) ?_
      refine lv_bipush (v := -9) hx hb d_Model_least_22 (by decide) ?_
      refine lv_icmp_eq (tgt := 38) hx hb d_Model_least_24 (by decide) (fun c2 => ?_) (fun c2 => ?_)
      · have hk := hk.1 c2
        exact J38 x1 x2 M hk _ _ _ hP hS (lv_sub hl [0, 1, 2] rfl)
      · have hk := hk.2 c2
        refine lv_iload_n hx hb d_Model_least_27 rfl (lv_at hl 2 rfl) ?_
        refine r_runI (k_S (As := [.int x2]) (rest := []) C hW hP (c_Model_size hI x2 M _ hk) cb_Model_size ml_Model_149 ⟨by decide, by decide⟩ rfl hl.1 rfl (Nat.le_of_ble_eq_true rfl) d_Model_least_28 ⟨by decide, by decide⟩) hS (fun r4 M3 H locs hk hP hS => ?_)
        refine lv_iload_n hx hb d_Model_least_31 rfl (lv_at hl 1 rfl) ?_
        refine r_runI (k_S (As := [.int x1]) (rest := [.int r4]) C hW hP (c_Model_size hI x1 M3 _ hk) cb_Model_size ml_Model_149 ⟨by decide, by decide⟩ rfl hl.1 rfl (Nat.le_of_ble_eq_true rfl) d_Model_least_32 ⟨by decide, by decide⟩) hS (fun r6 M5 H locs hk hP hS => ?_)
        refine lv_icmp_ge (tgt := 48) hx hb d_Model_least_35 (by decide) (fun c7 => ?_) (fun c7 => ?_)
        · have hk := hk.1 c7
          exact J48 x1 x2 M5 hk _ _ _ hP hS (lv_sub hl [0, 1, 2] rfl)
        · have hk := hk.2 c7
          exact J38 x1 x2 M5 hk _ _ _ hP hS (lv_sub hl [0, 1, 2] rfl)
theorem d_Model_hard_0 : decode b_Model_hard 0 = .ok (.aload_n 0, 1) := by decide +kernel
theorem d_Model_hard_1 : decode b_Model_hard 1 = .ok (.getfield 71, 3) := by decide +kernel
theorem d_Model_hard_4 : decode b_Model_hard 4 = .ok (.ifCond .ne 6, 3) := by decide +kernel
theorem d_Model_hard_7 : decode b_Model_hard 7 = .ok (.bipush (-3), 2) := by decide +kernel
theorem d_Model_hard_9 : decode b_Model_hard 9 = .ok (.ireturn, 1) := by decide +kernel
theorem d_Model_hard_10 : decode b_Model_hard 10 = .ok (.iconst 0, 1) := by decide +kernel
theorem d_Model_hard_11 : decode b_Model_hard 11 = .ok (.istore_n 1, 1) := by decide +kernel
theorem d_Model_hard_12 : decode b_Model_hard 12 = .ok (.iload_n 1, 1) := by decide +kernel
theorem d_Model_hard_13 : decode b_Model_hard 13 = .ok (.aload_n 0, 1) := by decide +kernel
theorem d_Model_hard_14 : decode b_Model_hard 14 = .ok (.getfield 71, 3) := by decide +kernel
theorem d_Model_hard_17 : decode b_Model_hard 17 = .ok (.if_icmp .ge 24, 3) := by decide +kernel
theorem d_Model_hard_20 : decode b_Model_hard 20 = .ok (.aload_n 0, 1) := by decide +kernel
theorem d_Model_hard_21 : decode b_Model_hard 21 = .ok (.iload_n 1, 1) := by decide +kernel
theorem d_Model_hard_22 : decode b_Model_hard 22 = .ok (.bipush 63, 2) := by decide +kernel
theorem d_Model_hard_24 : decode b_Model_hard 24 = .ok (.iconst 0, 1) := by decide +kernel
theorem d_Model_hard_25 : decode b_Model_hard 25 = .ok (.invokevirtual 130, 3) := by decide +kernel
theorem d_Model_hard_28 : decode b_Model_hard 28 = .ok (.bipush (-9), 2) := by decide +kernel
theorem d_Model_hard_30 : decode b_Model_hard 30 = .ok (.if_icmp .ne 5, 3) := by decide +kernel
theorem d_Model_hard_33 : decode b_Model_hard 33 = .ok (.iload_n 1, 1) := by decide +kernel
theorem d_Model_hard_34 : decode b_Model_hard 34 = .ok (.ireturn, 1) := by decide +kernel
theorem d_Model_hard_35 : decode b_Model_hard 35 = .ok (.iinc 1 1, 3) := by decide +kernel
theorem d_Model_hard_38 : decode b_Model_hard 38 = .ok (.goto (-26), 3) := by decide +kernel
theorem d_Model_hard_41 : decode b_Model_hard 41 = .ok (.bipush (-9), 2) := by decide +kernel
theorem d_Model_hard_43 : decode b_Model_hard 43 = .ok (.ireturn, 1) := by decide +kernel
set_option maxRecDepth 20000 in
theorem c_Model_hard {l : Launch} {g : GG} (hI : WI g) (M : Mem) (R : Int32 → Mem → Prop) (h : wp_Model_hard  M R) : Met l y_Model_hard (wm y_Model_hard b_Model_hard 2 (some .int)) (RM 1 26) (PP g M [.ref (g.2.2.2 29)]) (PQ g (RI R)) 0 0 (AW g) := by
  refine m_of (own := N_Model) (by decide) rfl (Nat.le_of_ble_eq_true rfl) ?_
  intro p e s m below meth c ls C hr hlocks hW hP hS hl
  obtain ⟨hx, hb, hml, hown, hts⟩ := id C
  have hl : lv_has ls 2 [(0, .ref (g.2.2.2 29))] := hl
  unfold wp_Model_hard at h
  obtain ⟨X12, eX12⟩ : ∃ X : Int32 → Mem → Prop, ∀ (x1 : Int32) (M : Mem), X x1 M ↔ (∀ (H : Heap) (locs : List Loc) (ls : Array Slot), WP g M H → va_S (AW g) s.heap H locs → lv_has ls 2 [(0, .ref (g.2.2.2 29)), (1, .int x1)] → W p l e (RM 1 26) s m ([.ref (g.2.2.2 29)] : List Value).toArray below meth c H locs 0 0 (MQ below (PQ g (RI R)) ([.ref (g.2.2.2 29)] : List Value).toArray s 0 0 (AW g)) (F0 m 12 ls [])) := ⟨fun x1 M => _, fun _ _ => Iff.rfl⟩
  suffices hcl : (∀ (x1 : Int32) (M : Mem), wp_Model_hard_12 X12 R x1 M → X12 x1 M) by
    have hk := h X12 hcl
    refine lv_aload_n hx hb d_Model_hard_0 rfl (lv_at hl 0 rfl) ?_
    refine gf_29_5 C hW hP fl_Model_71 d_Model_hard_1 ?_
    refine lv_if_ne (tgt := 10) hx hb d_Model_hard_4 (by decide) (fun c6 => ?_) (fun c6 => ?_)
    · have hk := hk.1 c6
      refine lv_iconst (v := 0) hx hb d_Model_hard_10 (by decide) ?_
      refine lv_istore_n (lv' := [(1, .int (0 : Int32)), (0, .ref (g.2.2.2 29))]) hx hb d_Model_hard_11 rfl hl (by decide) rfl (fun ls hl => ?_)
      exact (eX12 (0 : Int32) M).mp hk _ _ _ hP hS (lv_sub hl [1, 0] rfl)
    · have hk := hk.2 c6
      refine lv_bipush (v := -3) hx hb d_Model_hard_7 (by decide) ?_
      exact r_iret C hr hlocks hP hS hk d_Model_hard_9
  · intro x1 M hk
    refine (eX12 x1 M).mpr ?_
    intro H locs ls hP hS hl
    unfold wp_Model_hard_12 at hk
    refine lv_iload_n hx hb d_Model_hard_12 rfl (lv_at hl 1 rfl) ?_
    refine lv_aload_n hx hb d_Model_hard_13 rfl (lv_at hl 0 rfl) ?_
    refine gf_29_5 C hW hP fl_Model_71 d_Model_hard_14 ?_
    refine lv_icmp_ge (tgt := 41) hx hb d_Model_hard_17 (by decide) (fun c1 => ?_) (fun c1 => ?_)
    · have hk := hk.1 c1
      refine lv_bipush (v := -9) hx hb d_Model_hard_41 (by decide) ?_
      exact r_iret C hr hlocks hP hS hk d_Model_hard_43
    · have hk := hk.2 c1
      refine lv_aload_n hx hb d_Model_hard_20 rfl (lv_at hl 0 rfl) ?_
      refine lv_iload_n hx hb d_Model_hard_21 rfl (lv_at hl 1 rfl) ?_
      refine lv_bipush (v := 63) hx hb d_Model_hard_22 (by decide) ?_
      refine lv_iconst (v := 0) hx hb d_Model_hard_24 (by decide) ?_
      refine r_runI (k_V (As := [.int x1, .int (63 : Int32), .int (0 : Int32)]) (rest := []) C hW hP (c_Model_used hI x1 (63 : Int32) (0 : Int32) M _ hk) cb_Model_used ml_Model_130 (io_29 g M) ⟨by decide, by decide⟩ rfl hl.1 rfl (Nat.le_of_ble_eq_true rfl) d_Model_hard_25 ⟨by decide, by decide⟩) hS (fun r3 M2 H locs hk hP hS => ?_)
      refine lv_bipush (v := -9) hx hb d_Model_hard_28 (by decide) ?_
      refine lv_icmp_ne (tgt := 35) hx hb d_Model_hard_30 (by decide) (fun c4 => ?_) (fun c4 => ?_)
      · have hk := hk.1 c4
        obtain ⟨x1_5, ex1_5⟩ : ∃ y : Int32, y = x1 + (1 : Int32) := ⟨_, rfl⟩
        have hk := hk x1_5 ex1_5
        refine lv_iinc (v := x1_5) (lv' := [(1, .int x1_5), (0, .ref (g.2.2.2 29))]) hx hb d_Model_hard_35 hl (k := 1) rfl (by rw [ex1_5]; rfl) (by decide) rfl (fun ls hl => ?_)
        refine lv_goto (tgt := 12) hx hb d_Model_hard_38 (by decide) ?_
        exact (eX12 x1_5 M2).mp hk _ _ _ hP hS (lv_sub hl [1, 0] rfl)
      · have hk := hk.2 c4
        refine lv_iload_n hx hb d_Model_hard_33 rfl (lv_at hl 1 rfl) ?_
        exact r_iret C hr hlocks hP hS hk d_Model_hard_34
theorem d_Model_beginRows_0 : decode b_Model_beginRows 0 = .ok (.iconst 0, 1) := by decide +kernel
theorem d_Model_beginRows_1 : decode b_Model_beginRows 1 = .ok (.istore_n 1, 1) := by decide +kernel
theorem d_Model_beginRows_2 : decode b_Model_beginRows 2 = .ok (.iload_n 1, 1) := by decide +kernel
theorem d_Model_beginRows_3 : decode b_Model_beginRows 3 = .ok (.aload_n 0, 1) := by decide +kernel
theorem d_Model_beginRows_4 : decode b_Model_beginRows 4 = .ok (.getfield 74, 3) := by decide +kernel
theorem d_Model_beginRows_7 : decode b_Model_beginRows 7 = .ok (.if_icmp .ge 16, 3) := by decide +kernel
theorem d_Model_beginRows_10 : decode b_Model_beginRows 10 = .ok (.aload_n 0, 1) := by decide +kernel
theorem d_Model_beginRows_11 : decode b_Model_beginRows 11 = .ok (.getfield 50, 3) := by decide +kernel
theorem d_Model_beginRows_14 : decode b_Model_beginRows 14 = .ok (.iload_n 1, 1) := by decide +kernel
theorem d_Model_beginRows_15 : decode b_Model_beginRows 15 = .ok (.iload_n 1, 1) := by decide +kernel
theorem d_Model_beginRows_16 : decode b_Model_beginRows 16 = .ok (.iastore, 1) := by decide +kernel
theorem d_Model_beginRows_17 : decode b_Model_beginRows 17 = .ok (.iinc 1 1, 3) := by decide +kernel
theorem d_Model_beginRows_20 : decode b_Model_beginRows 20 = .ok (.goto (-18), 3) := by decide +kernel
theorem d_Model_beginRows_23 : decode b_Model_beginRows 23 = .ok (.return_, 1) := by decide +kernel
set_option maxRecDepth 20000 in
theorem c_Model_beginRows {l : Launch} {g : GG} (hI : WI g) (M : Mem) (R : Mem → Prop) (h : wp_Model_beginRows  M R) : Met l y_Model_beginRows (wm y_Model_beginRows b_Model_beginRows 2 none) (RM 0 0) (PP g M [.ref (g.2.2.2 29)]) (PQ g (RV R)) 0 0 (AW g) := by
  refine m_of (own := N_Model) (by decide) rfl (Nat.le_of_ble_eq_true rfl) ?_
  intro p e s m below meth c ls C hr hlocks hW hP hS hl
  obtain ⟨hx, hb, hml, hown, hts⟩ := id C
  have hl : lv_has ls 2 [(0, .ref (g.2.2.2 29))] := hl
  unfold wp_Model_beginRows at h
  obtain ⟨X2, eX2⟩ : ∃ X : Int32 → Mem → Prop, ∀ (x1 : Int32) (M : Mem), X x1 M ↔ (∀ (H : Heap) (locs : List Loc) (ls : Array Slot), WP g M H → va_S (AW g) s.heap H locs → lv_has ls 2 [(0, .ref (g.2.2.2 29)), (1, .int x1)] → W p l e (RM 0 0) s m ([.ref (g.2.2.2 29)] : List Value).toArray below meth c H locs 0 0 (MQ below (PQ g (RV R)) ([.ref (g.2.2.2 29)] : List Value).toArray s 0 0 (AW g)) (F0 m 2 ls [])) := ⟨fun x1 M => _, fun _ _ => Iff.rfl⟩
  suffices hcl : (∀ (x1 : Int32) (M : Mem), wp_Model_beginRows_2 X2 R x1 M → X2 x1 M) by
    have hk := h X2 hcl
    refine lv_iconst (v := 0) hx hb d_Model_beginRows_0 (by decide) ?_
    refine lv_istore_n (lv' := [(1, .int (0 : Int32)), (0, .ref (g.2.2.2 29))]) hx hb d_Model_beginRows_1 rfl hl (by decide) rfl (fun ls hl => ?_)
    exact (eX2 (0 : Int32) M).mp hk _ _ _ hP hS (lv_sub hl [1, 0] rfl)
  · intro x1 M hk
    refine (eX2 x1 M).mpr ?_
    intro H locs ls hP hS hl
    unfold wp_Model_beginRows_2 at hk
    refine lv_iload_n hx hb d_Model_beginRows_2 rfl (lv_at hl 1 rfl) ?_
    refine lv_aload_n hx hb d_Model_beginRows_3 rfl (lv_at hl 0 rfl) ?_
    refine gf_29_6 C hW hP fl_Model_74 d_Model_beginRows_4 ?_
    refine lv_icmp_ge (tgt := 23) hx hb d_Model_beginRows_7 (by decide) (fun c1 => ?_) (fun c1 => ?_)
    · have hk := hk.1 c1
      exact r_vret C hr hlocks hP hS hk d_Model_beginRows_23
    · have hk := hk.2 c1
      refine lv_aload_n hx hb d_Model_beginRows_10 rfl (lv_at hl 0 rfl) ?_
      refine gf_29_21 C hW hP fl_Model_50 d_Model_beginRows_11 ?_
      refine lv_iload_n hx hb d_Model_beginRows_14 rfl (lv_at hl 1 rfl) ?_
      refine lv_iload_n hx hb d_Model_beginRows_15 rfl (lv_at hl 1 rfl) ?_
      obtain ⟨h2, hk⟩ := hk
      refine as_42 hI C hW hP hS h2 d_Model_beginRows_16 (fun M3 eM3 H locs hP hS => ?_)
      have hk := hk M3 eM3
      obtain ⟨x1_4, ex1_4⟩ : ∃ y : Int32, y = x1 + (1 : Int32) := ⟨_, rfl⟩
      have hk := hk x1_4 ex1_4
      refine lv_iinc (v := x1_4) (lv' := [(1, .int x1_4), (0, .ref (g.2.2.2 29))]) hx hb d_Model_beginRows_17 hl (k := 1) rfl (by rw [ex1_4]; rfl) (by decide) rfl (fun ls hl => ?_)
      refine lv_goto (tgt := 2) hx hb d_Model_beginRows_20 (by decide) ?_
      exact (eX2 x1_4 M3).mp hk _ _ _ hP hS (lv_sub hl [1, 0] rfl)
theorem d_Model_goRow_0 : decode b_Model_goRow 0 = .ok (.aload_n 0, 1) := by decide +kernel
theorem d_Model_goRow_1 : decode b_Model_goRow 1 = .ok (.invokevirtual 142, 3) := by decide +kernel
theorem d_Model_goRow_4 : decode b_Model_goRow 4 = .ok (.iconst 0, 1) := by decide +kernel
theorem d_Model_goRow_5 : decode b_Model_goRow 5 = .ok (.istore_n 1, 1) := by decide +kernel
theorem d_Model_goRow_6 : decode b_Model_goRow 6 = .ok (.iload_n 1, 1) := by decide +kernel
theorem d_Model_goRow_7 : decode b_Model_goRow 7 = .ok (.aload_n 0, 1) := by decide +kernel
theorem d_Model_goRow_8 : decode b_Model_goRow 8 = .ok (.getfield 74, 3) := by decide +kernel
theorem d_Model_goRow_11 : decode b_Model_goRow 11 = .ok (.if_icmp .ge 21, 3) := by decide +kernel
theorem d_Model_goRow_14 : decode b_Model_goRow 14 = .ok (.aload_n 0, 1) := by decide +kernel
theorem d_Model_goRow_15 : decode b_Model_goRow 15 = .ok (.iconst 1, 1) := by decide +kernel
theorem d_Model_goRow_16 : decode b_Model_goRow 16 = .ok (.aload_n 0, 1) := by decide +kernel
theorem d_Model_goRow_17 : decode b_Model_goRow 17 = .ok (.getfield 50, 3) := by decide +kernel
theorem d_Model_goRow_20 : decode b_Model_goRow 20 = .ok (.iload_n 1, 1) := by decide +kernel
theorem d_Model_goRow_21 : decode b_Model_goRow 21 = .ok (.iaload, 1) := by decide +kernel
theorem d_Model_goRow_22 : decode b_Model_goRow 22 = .ok (.ishl, 1) := by decide +kernel
theorem d_Model_goRow_23 : decode b_Model_goRow 23 = .ok (.invokevirtual 145, 3) := by decide +kernel
theorem d_Model_goRow_26 : decode b_Model_goRow 26 = .ok (.iinc 1 1, 3) := by decide +kernel
theorem d_Model_goRow_29 : decode b_Model_goRow 29 = .ok (.goto (-23), 3) := by decide +kernel
theorem d_Model_goRow_32 : decode b_Model_goRow 32 = .ok (.return_, 1) := by decide +kernel
set_option maxRecDepth 20000 in
theorem c_Model_goRow {l : Launch} {g : GG} (hI : WI g) (M : Mem) (R : Mem → Prop) (h : wp_Model_goRow  M R) : Met l y_Model_goRow (wm y_Model_goRow b_Model_goRow 2 none) (RM 3 73) (PP g M [.ref (g.2.2.2 29)]) (PQ g (RV R)) 0 0 (AW g) := by
  refine m_of (own := N_Model) (by decide) rfl (Nat.le_of_ble_eq_true rfl) ?_
  intro p e s m below meth c ls C hr hlocks hW hP hS hl
  obtain ⟨hx, hb, hml, hown, hts⟩ := id C
  have hl : lv_has ls 2 [(0, .ref (g.2.2.2 29))] := hl
  unfold wp_Model_goRow at h
  obtain ⟨X6, eX6⟩ : ∃ X : Int32 → Mem → Prop, ∀ (x1 : Int32) (M : Mem), X x1 M ↔ (∀ (H : Heap) (locs : List Loc) (ls : Array Slot), WP g M H → va_S (AW g) s.heap H locs → lv_has ls 2 [(0, .ref (g.2.2.2 29)), (1, .int x1)] → W p l e (RM 3 73) s m ([.ref (g.2.2.2 29)] : List Value).toArray below meth c H locs 0 0 (MQ below (PQ g (RV R)) ([.ref (g.2.2.2 29)] : List Value).toArray s 0 0 (AW g)) (F0 m 6 ls [])) := ⟨fun x1 M => _, fun _ _ => Iff.rfl⟩
  suffices hcl : (∀ (x1 : Int32) (M : Mem), wp_Model_goRow_6 X6 R x1 M → X6 x1 M) by
    have hk := h X6 hcl
    refine lv_aload_n hx hb d_Model_goRow_0 rfl (lv_at hl 0 rfl) ?_
    refine r_runV (k_V (As := []) (rest := []) C hW hP (c_Model_begin hI M _ hk) cb_Model_begin ml_Model_142 (io_29 g M) ⟨by decide, by decide⟩ rfl hl.1 rfl (Nat.le_of_ble_eq_true rfl) d_Model_goRow_1 ⟨by decide, by decide⟩) hS (fun M5 H locs hk hP hS => ?_)
    refine lv_iconst (v := 0) hx hb d_Model_goRow_4 (by decide) ?_
    refine lv_istore_n (lv' := [(1, .int (0 : Int32)), (0, .ref (g.2.2.2 29))]) hx hb d_Model_goRow_5 rfl hl (by decide) rfl (fun ls hl => ?_)
    exact (eX6 (0 : Int32) M5).mp hk _ _ _ hP hS (lv_sub hl [1, 0] rfl)
  · intro x1 M hk
    refine (eX6 x1 M).mpr ?_
    intro H locs ls hP hS hl
    unfold wp_Model_goRow_6 at hk
    refine lv_iload_n hx hb d_Model_goRow_6 rfl (lv_at hl 1 rfl) ?_
    refine lv_aload_n hx hb d_Model_goRow_7 rfl (lv_at hl 0 rfl) ?_
    refine gf_29_6 C hW hP fl_Model_74 d_Model_goRow_8 ?_
    refine lv_icmp_ge (tgt := 32) hx hb d_Model_goRow_11 (by decide) (fun c1 => ?_) (fun c1 => ?_)
    · have hk := hk.1 c1
      exact r_vret C hr hlocks hP hS hk d_Model_goRow_32
    · have hk := hk.2 c1
      refine lv_aload_n hx hb d_Model_goRow_14 rfl (lv_at hl 0 rfl) ?_
      refine lv_iconst (v := 1) hx hb d_Model_goRow_15 (by decide) ?_
      refine lv_aload_n hx hb d_Model_goRow_16 rfl (lv_at hl 0 rfl) ?_
      refine gf_29_21 C hW hP fl_Model_50 d_Model_goRow_17 ?_
      refine lv_iload_n hx hb d_Model_goRow_20 rfl (lv_at hl 1 rfl) ?_
      obtain ⟨h2, hk⟩ := hk
      refine al_42 C hW hP h2 d_Model_goRow_21 ?_
      refine lv_ishl hx hb d_Model_goRow_22 ?_
      refine r_runV (k_V (As := [.int ((1 : Int32) <<< ((M 42 x1.toNatClampNeg) &&& (31 : Int32)))]) (rest := []) C hW hP (c_Model_goThrough hI ((1 : Int32) <<< ((M 42 x1.toNatClampNeg) &&& (31 : Int32))) M _ hk) cb_Model_goThrough ml_Model_145 (io_29 g M) ⟨by decide, by decide⟩ rfl hl.1 rfl (Nat.le_of_ble_eq_true rfl) d_Model_goRow_23 ⟨by decide, by decide⟩) hS (fun M3 H locs hk hP hS => ?_)
      obtain ⟨x1_4, ex1_4⟩ : ∃ y : Int32, y = x1 + (1 : Int32) := ⟨_, rfl⟩
      have hk := hk x1_4 ex1_4
      refine lv_iinc (v := x1_4) (lv' := [(1, .int x1_4), (0, .ref (g.2.2.2 29))]) hx hb d_Model_goRow_26 hl (k := 1) rfl (by rw [ex1_4]; rfl) (by decide) rfl (fun ls hl => ?_)
      refine lv_goto (tgt := 6) hx hb d_Model_goRow_29 (by decide) ?_
      exact (eX6 x1_4 M3).mp hk _ _ _ hP hS (lv_sub hl [1, 0] rfl)
theorem d_Model_throughNow_0 : decode b_Model_throughNow 0 = .ok (.aload_n 0, 1) := by decide +kernel
theorem d_Model_throughNow_1 : decode b_Model_throughNow 1 = .ok (.getfield 74, 3) := by decide +kernel
theorem d_Model_throughNow_4 : decode b_Model_throughNow 4 = .ok (.aload_n 0, 1) := by decide +kernel
theorem d_Model_throughNow_5 : decode b_Model_throughNow 5 = .ok (.getfield 133, 3) := by decide +kernel
theorem d_Model_throughNow_8 : decode b_Model_throughNow 8 = .ok (.invokestatic 149, 3) := by decide +kernel
theorem d_Model_throughNow_11 : decode b_Model_throughNow 11 = .ok (.isub, 1) := by decide +kernel
theorem d_Model_throughNow_12 : decode b_Model_throughNow 12 = .ok (.ireturn, 1) := by decide +kernel
set_option maxRecDepth 20000 in
theorem c_Model_throughNow {l : Launch} {g : GG} (hI : WI g) (M : Mem) (R : Int32 → Mem → Prop) (h : wp_Model_throughNow  M R) : Met l y_Model_throughNow (wm y_Model_throughNow b_Model_throughNow 1 (some .int)) (RM 1 22) (PP g M [.ref (g.2.2.2 29)]) (PQ g (RI R)) 0 0 (AW g) := by
  refine m_of (own := N_Model) (by decide) rfl (Nat.le_of_ble_eq_true rfl) ?_
  intro p e s m below meth c ls C hr hlocks hW hP hS hl
  obtain ⟨hx, hb, hml, hown, hts⟩ := id C
  have hl : lv_has ls 1 [(0, .ref (g.2.2.2 29))] := hl
  unfold wp_Model_throughNow at h
  have hk := h
  refine lv_aload_n hx hb d_Model_throughNow_0 rfl (lv_at hl 0 rfl) ?_
  refine gf_29_6 C hW hP fl_Model_74 d_Model_throughNow_1 ?_
  refine lv_aload_n hx hb d_Model_throughNow_4 rfl (lv_at hl 0 rfl) ?_
  refine gf_29_18 C hW hP fl_Model_133 d_Model_throughNow_5 ?_
  refine r_runI (k_S (As := [.int (M 29 18)]) (rest := [.int (M 29 6)]) C hW hP (c_Model_size hI (M 29 18) M _ hk) cb_Model_size ml_Model_149 ⟨by decide, by decide⟩ rfl hl.1 rfl (Nat.le_of_ble_eq_true rfl) d_Model_throughNow_8 ⟨by decide, by decide⟩) hS (fun r2 M1 H locs hk hP hS => ?_)
  refine lv_isub hx hb d_Model_throughNow_11 ?_
  exact r_iret C hr hlocks hP hS hk d_Model_throughNow_12
theorem d_Model_swap_0 : decode b_Model_swap 0 = .ok (.aload_n 0, 1) := by decide +kernel
theorem d_Model_swap_1 : decode b_Model_swap 1 = .ok (.getfield 50, 3) := by decide +kernel
theorem d_Model_swap_4 : decode b_Model_swap 4 = .ok (.iload_n 1, 1) := by decide +kernel
theorem d_Model_swap_5 : decode b_Model_swap 5 = .ok (.iaload, 1) := by decide +kernel
theorem d_Model_swap_6 : decode b_Model_swap 6 = .ok (.istore_n 3, 1) := by decide +kernel
theorem d_Model_swap_7 : decode b_Model_swap 7 = .ok (.aload_n 0, 1) := by decide +kernel
theorem d_Model_swap_8 : decode b_Model_swap 8 = .ok (.getfield 50, 3) := by decide +kernel
theorem d_Model_swap_11 : decode b_Model_swap 11 = .ok (.iload_n 1, 1) := by decide +kernel
theorem d_Model_swap_12 : decode b_Model_swap 12 = .ok (.aload_n 0, 1) := by decide +kernel
theorem d_Model_swap_13 : decode b_Model_swap 13 = .ok (.getfield 50, 3) := by decide +kernel
theorem d_Model_swap_16 : decode b_Model_swap 16 = .ok (.iload_n 2, 1) := by decide +kernel
theorem d_Model_swap_17 : decode b_Model_swap 17 = .ok (.iaload, 1) := by decide +kernel
theorem d_Model_swap_18 : decode b_Model_swap 18 = .ok (.iastore, 1) := by decide +kernel
theorem d_Model_swap_19 : decode b_Model_swap 19 = .ok (.aload_n 0, 1) := by decide +kernel
theorem d_Model_swap_20 : decode b_Model_swap 20 = .ok (.getfield 50, 3) := by decide +kernel
theorem d_Model_swap_23 : decode b_Model_swap 23 = .ok (.iload_n 2, 1) := by decide +kernel
theorem d_Model_swap_24 : decode b_Model_swap 24 = .ok (.iload_n 3, 1) := by decide +kernel
theorem d_Model_swap_25 : decode b_Model_swap 25 = .ok (.iastore, 1) := by decide +kernel
theorem d_Model_swap_26 : decode b_Model_swap 26 = .ok (.return_, 1) := by decide +kernel
set_option maxRecDepth 20000 in
theorem c_Model_swap {l : Launch} {g : GG} (hI : WI g) (a1 : Int32) (a2 : Int32) (M : Mem) (R : Mem → Prop) (h : wp_Model_swap a1 a2 M R) : Met l y_Model_swap (wm y_Model_swap b_Model_swap 4 none) (RM 0 0) (PP g M [.ref (g.2.2.2 29), .int a1, .int a2]) (PQ g (RV R)) 0 0 (AW g) := by
  refine m_of (own := N_Model) (by decide) rfl (Nat.le_of_ble_eq_true rfl) ?_
  intro p e s m below meth c ls C hr hlocks hW hP hS hl
  obtain ⟨hx, hb, hml, hown, hts⟩ := id C
  have hl : lv_has ls 4 [(0, .ref (g.2.2.2 29)), (1, .int a1), (2, .int a2)] := hl
  unfold wp_Model_swap at h
  have hk := h
  refine lv_aload_n hx hb d_Model_swap_0 rfl (lv_at hl 0 rfl) ?_
  refine gf_29_21 C hW hP fl_Model_50 d_Model_swap_1 ?_
  refine lv_iload_n hx hb d_Model_swap_4 rfl (lv_at hl 1 rfl) ?_
  obtain ⟨h1, hk⟩ := hk
  refine al_42 C hW hP h1 d_Model_swap_5 ?_
  refine lv_topi (fun x3_2 ex3_2 => ?_)
  have hk := hk x3_2 ex3_2
  refine lv_istore_n (lv' := [(3, .int x3_2), (0, .ref (g.2.2.2 29)), (1, .int a1), (2, .int a2)]) hx hb d_Model_swap_6 rfl hl (by decide) rfl (fun ls hl => ?_)
  refine lv_aload_n hx hb d_Model_swap_7 rfl (lv_at hl 1 rfl) ?_
  refine gf_29_21 C hW hP fl_Model_50 d_Model_swap_8 ?_
  refine lv_iload_n hx hb d_Model_swap_11 rfl (lv_at hl 2 rfl) ?_
  refine lv_aload_n hx hb d_Model_swap_12 rfl (lv_at hl 1 rfl) ?_
  refine gf_29_21 C hW hP fl_Model_50 d_Model_swap_13 ?_
  refine lv_iload_n hx hb d_Model_swap_16 rfl (lv_at hl 3 rfl) ?_
  obtain ⟨h3, hk⟩ := hk
  refine al_42 C hW hP h3 d_Model_swap_17 ?_
  obtain ⟨h4, hk⟩ := hk
  refine as_42 hI C hW hP hS h4 d_Model_swap_18 (fun M5 eM5 H locs hP hS => ?_)
  have hk := hk M5 eM5
  refine lv_aload_n hx hb d_Model_swap_19 rfl (lv_at hl 1 rfl) ?_
  refine gf_29_21 C hW hP fl_Model_50 d_Model_swap_20 ?_
  refine lv_iload_n hx hb d_Model_swap_23 rfl (lv_at hl 3 rfl) ?_
  refine lv_iload_n hx hb d_Model_swap_24 rfl (lv_at hl 0 rfl) ?_
  obtain ⟨h6, hk⟩ := hk
  refine as_42 hI C hW hP hS h6 d_Model_swap_25 (fun M7 eM7 H locs hP hS => ?_)
  have hk := hk M7 eM7
  exact r_vret C hr hlocks hP hS hk d_Model_swap_26
