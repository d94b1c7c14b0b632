theorem d_Orders_isOfMates_0 : decode b_Orders_isOfMates 0 = .ok (.iconst 0, 1) := by decide +kernel
theorem d_Orders_isOfMates_1 : decode b_Orders_isOfMates 1 = .ok (.istore_n 1, 1) := by decide +kernel
theorem d_Orders_isOfMates_2 : decode b_Orders_isOfMates 2 = .ok (.iload_n 1, 1) := by decide +kernel
theorem d_Orders_isOfMates_3 : decode b_Orders_isOfMates 3 = .ok (.aload_n 0, 1) := by decide +kernel
theorem d_Orders_isOfMates_4 : decode b_Orders_isOfMates 4 = .ok (.getfield 15, 3) := by decide +kernel
theorem d_Orders_isOfMates_7 : decode b_Orders_isOfMates 7 = .ok (.if_icmp .ge 26, 3) := by decide +kernel
theorem d_Orders_isOfMates_10 : decode b_Orders_isOfMates 10 = .ok (.aload_n 0, 1) := by decide +kernel
theorem d_Orders_isOfMates_11 : decode b_Orders_isOfMates 11 = .ok (.getfield 9, 3) := by decide +kernel
theorem d_Orders_isOfMates_14 : decode b_Orders_isOfMates 14 = .ok (.aload_n 0, 1) := by decide +kernel
theorem d_Orders_isOfMates_15 : decode b_Orders_isOfMates 15 = .ok (.getfield 9, 3) := by decide +kernel
theorem d_Orders_isOfMates_18 : decode b_Orders_isOfMates 18 = .ok (.iload_n 1, 1) := by decide +kernel
theorem d_Orders_isOfMates_19 : decode b_Orders_isOfMates 19 = .ok (.iaload, 1) := by decide +kernel
theorem d_Orders_isOfMates_20 : decode b_Orders_isOfMates 20 = .ok (.iaload, 1) := by decide +kernel
theorem d_Orders_isOfMates_21 : decode b_Orders_isOfMates 21 = .ok (.iload_n 1, 1) := by decide +kernel
theorem d_Orders_isOfMates_22 : decode b_Orders_isOfMates 22 = .ok (.if_icmp .eq 5, 3) := by decide +kernel
theorem d_Orders_isOfMates_25 : decode b_Orders_isOfMates 25 = .ok (.iconst 0, 1) := by decide +kernel
theorem d_Orders_isOfMates_26 : decode b_Orders_isOfMates 26 = .ok (.ireturn, 1) := by decide +kernel
theorem d_Orders_isOfMates_27 : decode b_Orders_isOfMates 27 = .ok (.iinc 1 1, 3) := by decide +kernel
theorem d_Orders_isOfMates_30 : decode b_Orders_isOfMates 30 = .ok (.goto (-28), 3) := by decide +kernel
theorem d_Orders_isOfMates_33 : decode b_Orders_isOfMates 33 = .ok (.iconst 1, 1) := by decide +kernel
theorem d_Orders_isOfMates_34 : decode b_Orders_isOfMates 34 = .ok (.ireturn, 1) := by decide +kernel
set_option maxRecDepth 20000 in
theorem c_Orders_isOfMates {l : Launch} {g : GG} (hI : WI g) (M : Mem) (R : Int32 → Mem → Prop) (h : wp_Orders_isOfMates  M R) : Met l y_Orders_isOfMates (wm y_Orders_isOfMates b_Orders_isOfMates 2 (some .boolean)) (RM 0 0) (PP g M [.ref (g.2.2.2 22)]) (PQ g (RZ R)) 0 0 (AW g) := by
  refine m_of (own := N_Orders) (by decide) rfl (Nat.le_of_ble_eq_true rfl) ?_
  intro p e s m below meth c ls C hr hlocks hW hP hS hl
  obtain ⟨hx, hb, hml, hown, hts⟩ := id C
  have hl : lv_has ls 2 [(0, .ref (g.2.2.2 22))] := hl
  unfold wp_Orders_isOfMates at h
  obtain ⟨X2, eX2⟩ : ∃ X : Int32 → Mem → Prop, ∀ (x1 : Int32) (M : Mem), X x1 M ↔ (∀ (H : Heap) (locs : List Loc) (ls : Array Slot), WP g M H → va_S (AW g) s.heap H locs → lv_has ls 2 [(0, .ref (g.2.2.2 22)), (1, .int x1)] → W p l e (RM 0 0) s m ([.ref (g.2.2.2 22)] : List Value).toArray below meth c H locs 0 0 (MQ below (PQ g (RZ R)) ([.ref (g.2.2.2 22)] : List Value).toArray s 0 0 (AW g)) (F0 m 2 ls [])) := ⟨fun x1 M => _, fun _ _ => Iff.rfl⟩
  suffices hcl : (∀ (x1 : Int32) (M : Mem), wp_Orders_isOfMates_2 X2 R x1 M → X2 x1 M) by
    have hk := h X2 hcl
    refine lv_iconst (v := 0) hx hb d_Orders_isOfMates_0 (by decide) ?_
    refine lv_istore_n (lv' := [(1, .int (0 : Int32)), (0, .ref (g.2.2.2 22))]) hx hb d_Orders_isOfMates_1 rfl hl (by decide) rfl (fun ls hl => ?_)
    exact (eX2 (0 : Int32) M).mp hk _ _ _ hP hS (lv_sub hl [1, 0] rfl)
  · intro x1 M hk
    refine (eX2 x1 M).mpr ?_
    intro H locs ls hP hS hl
    unfold wp_Orders_isOfMates_2 at hk
    refine lv_iload_n hx hb d_Orders_isOfMates_2 rfl (lv_at hl 1 rfl) ?_
    refine lv_aload_n hx hb d_Orders_isOfMates_3 rfl (lv_at hl 0 rfl) ?_
    refine gf_22_1 C hW hP fl_Orders_15 d_Orders_isOfMates_4 ?_
    refine lv_icmp_ge (tgt := 33) hx hb d_Orders_isOfMates_7 (by decide) (fun c1 => ?_) (fun c1 => ?_)
    · have hk := hk.1 c1
      refine lv_iconst (v := 1) hx hb d_Orders_isOfMates_33 (by decide) ?_
      exact r_zret rfl C hr hlocks hP hS hk d_Orders_isOfMates_34
    · have hk := hk.2 c1
      refine lv_aload_n hx hb d_Orders_isOfMates_10 rfl (lv_at hl 0 rfl) ?_
      refine gf_22_0 C hW hP fl_Orders_9 d_Orders_isOfMates_11 ?_
      refine lv_aload_n hx hb d_Orders_isOfMates_14 rfl (lv_at hl 0 rfl) ?_
      refine gf_22_0 C hW hP fl_Orders_9 d_Orders_isOfMates_15 ?_
      refine lv_iload_n hx hb d_Orders_isOfMates_18 rfl (lv_at hl 1 rfl) ?_
      obtain ⟨h2, hk⟩ := hk
      refine al_23 C hW hP h2 d_Orders_isOfMates_19 ?_
      obtain ⟨h3, hk⟩ := hk
      refine al_23 C hW hP h3 d_Orders_isOfMates_20 ?_
      refine lv_iload_n hx hb d_Orders_isOfMates_21 rfl (lv_at hl 1 rfl) ?_
      refine lv_icmp_eq (tgt := 27) hx hb d_Orders_isOfMates_22 (by decide) (fun c4 => ?_) (fun c4 => ?_)
      · have hk := hk.1 c4
        obtain ⟨x1_5, ex1_5⟩ : ∃ y : Int32, y = x1 + (1 : Int32) := ⟨_, rfl⟩
        have hk := hk x1_5 ex1_5
        refine lv_iinc (v := x1_5) (lv' := [(1, .int x1_5), (0, .ref (g.2.2.2 22))]) hx hb d_Orders_isOfMates_27 hl (k := 1) rfl (by rw [ex1_5]; rfl) (by decide) rfl (fun ls hl => ?_)
        refine lv_goto (tgt := 2) hx hb d_Orders_isOfMates_30 (by decide) ?_
        exact (eX2 x1_5 M).mp hk _ _ _ hP hS (lv_sub hl [1, 0] rfl)
      · have hk := hk.2 c4
        refine lv_iconst (v := 0) hx hb d_Orders_isOfMates_25 (by decide) ?_
        exact r_zret rfl C hr hlocks hP hS hk d_Orders_isOfMates_26
theorem d_Search_judgeMates_0 : decode b_Search_judgeMates 0 = .ok (.iconst 0, 1) := by decide +kernel
theorem d_Search_judgeMates_1 : decode b_Search_judgeMates 1 = .ok (.istore_n 1, 1) := by decide +kernel
theorem d_Search_judgeMates_2 : decode b_Search_judgeMates 2 = .ok (.iconst 0, 1) := by decide +kernel
theorem d_Search_judgeMates_3 : decode b_Search_judgeMates 3 = .ok (.istore_n 2, 1) := by decide +kernel
theorem d_Search_judgeMates_4 : decode b_Search_judgeMates 4 = .ok (.aload_n 0, 1) := by decide +kernel
theorem d_Search_judgeMates_5 : decode b_Search_judgeMates 5 = .ok (.getfield 15, 3) := by decide +kernel
theorem d_Search_judgeMates_8 : decode b_Search_judgeMates 8 = .ok (.invokevirtual 75, 3) := by decide +kernel
theorem d_Search_judgeMates_11 : decode b_Search_judgeMates 11 = .ok (.iconst 0, 1) := by decide +kernel
theorem d_Search_judgeMates_12 : decode b_Search_judgeMates 12 = .ok (.istore_n 3, 1) := by decide +kernel
theorem d_Search_judgeMates_13 : decode b_Search_judgeMates 13 = .ok (.iload_n 3, 1) := by decide +kernel
theorem d_Search_judgeMates_14 : decode b_Search_judgeMates 14 = .ok (.aload_n 0, 1) := by decide +kernel
theorem d_Search_judgeMates_15 : decode b_Search_judgeMates 15 = .ok (.getfield 22, 3) := by decide +kernel
theorem d_Search_judgeMates_18 : decode b_Search_judgeMates 18 = .ok (.getfield 79, 3) := by decide +kernel
theorem d_Search_judgeMates_21 : decode b_Search_judgeMates 21 = .ok (.if_icmp .ge 68, 3) := by decide +kernel
theorem d_Search_judgeMates_24 : decode b_Search_judgeMates 24 = .ok (.aload_n 0, 1) := by decide +kernel
theorem d_Search_judgeMates_25 : decode b_Search_judgeMates 25 = .ok (.getfield 22, 3) := by decide +kernel
theorem d_Search_judgeMates_28 : decode b_Search_judgeMates 28 = .ok (.getfield 82, 3) := by decide +kernel
theorem d_Search_judgeMates_31 : decode b_Search_judgeMates 31 = .ok (.iload_n 3, 1) := by decide +kernel
theorem d_Search_judgeMates_32 : decode b_Search_judgeMates 32 = .ok (.iaload, 1) := by decide +kernel
theorem d_Search_judgeMates_33 : decode b_Search_judgeMates 33 = .ok (.iload_n 3, 1) := by decide +kernel
theorem d_Search_judgeMates_34 : decode b_Search_judgeMates 34 = .ok (.if_icmp .lt 49, 3) := by decide +kernel
theorem d_Search_judgeMates_37 : decode b_Search_judgeMates 37 = .ok (.iconst 1, 1) := by decide +kernel
theorem d_Search_judgeMates_38 : decode b_Search_judgeMates 38 = .ok (.iload_n 3, 1) := by decide +kernel
theorem d_Search_judgeMates_39 : decode b_Search_judgeMates 39 = .ok (.ishl, 1) := by decide +kernel
theorem d_Search_judgeMates_40 : decode b_Search_judgeMates 40 = .ok (.iconst 1, 1) := by decide +kernel
theorem d_Search_judgeMates_41 : decode b_Search_judgeMates 41 = .ok (.aload_n 0, 1) := by decide +kernel
theorem d_Search_judgeMates_42 : decode b_Search_judgeMates 42 = .ok (.getfield 22, 3) := by decide +kernel
theorem d_Search_judgeMates_45 : decode b_Search_judgeMates 45 = .ok (.getfield 82, 3) := by decide +kernel
theorem d_Search_judgeMates_48 : decode b_Search_judgeMates 48 = .ok (.iload_n 3, 1) := by decide +kernel
theorem d_Search_judgeMates_49 : decode b_Search_judgeMates 49 = .ok (.iaload, 1) := by decide +kernel
theorem d_Search_judgeMates_50 : decode b_Search_judgeMates 50 = .ok (.ishl, 1) := by decide +kernel
theorem d_Search_judgeMates_51 : decode b_Search_judgeMates 51 = .ok (.ior, 1) := by decide +kernel
theorem d_Search_judgeMates_52 : decode b_Search_judgeMates 52 = .ok (.istore 4, 2) := by decide +kernel
theorem d_Search_judgeMates_54 : decode b_Search_judgeMates 54 = .ok (.iinc 2 1, 3) := by decide +kernel
theorem d_Search_judgeMates_57 : decode b_Search_judgeMates 57 = .ok (.iload_n 1, 1) := by decide +kernel
theorem d_Search_judgeMates_58 : decode b_Search_judgeMates 58 = .ok (.aload_n 0, 1) := by decide +kernel
theorem d_Search_judgeMates_59 : decode b_Search_judgeMates 59 = .ok (.getfield 15, 3) := by decide +kernel
theorem d_Search_judgeMates_62 : decode b_Search_judgeMates 62 = .ok (.iload 4, 2) := by decide +kernel
theorem d_Search_judgeMates_64 : decode b_Search_judgeMates 64 = .ok (.invokevirtual 91, 3) := by decide +kernel
theorem d_Search_judgeMates_67 : decode b_Search_judgeMates 67 = .ok (.bipush (-9), 2) := by decide +kernel
theorem d_Search_judgeMates_69 : decode b_Search_judgeMates 69 = .ok (.if_icmp .ne 11, 3) := by decide +kernel
theorem d_Search_judgeMates_72 : decode b_Search_judgeMates 72 = .ok (.iload 4, 2) := by decide +kernel
theorem d_Search_judgeMates_74 : decode b_Search_judgeMates 74 = .ok (.invokestatic 56, 3) := by decide +kernel
theorem d_Search_judgeMates_77 : decode b_Search_judgeMates 77 = .ok (.goto 4, 3) := by decide +kernel
theorem d_Search_judgeMates_80 : decode b_Search_judgeMates 80 = .ok (.iconst 0, 1) := by decide +kernel
theorem d_Search_judgeMates_81 : decode b_Search_judgeMates 81 = .ok (.iadd, 1) := by decide +kernel
theorem d_Search_judgeMates_82 : decode b_Search_judgeMates 82 = .ok (.istore_n 1, 1) := by decide +kernel
theorem d_Search_judgeMates_83 : decode b_Search_judgeMates 83 = .ok (.iinc 3 1, 3) := by decide +kernel
theorem d_Search_judgeMates_86 : decode b_Search_judgeMates 86 = .ok (.goto (-73), 3) := by decide +kernel
theorem d_Search_judgeMates_89 : decode b_Search_judgeMates 89 = .ok (.iload_n 1, 1) := by decide +kernel
theorem d_Search_judgeMates_90 : decode b_Search_judgeMates 90 = .ok (.aload_n 0, 1) := by decide +kernel
theorem d_Search_judgeMates_91 : decode b_Search_judgeMates 91 = .ok (.getfield 30, 3) := by decide +kernel
theorem d_Search_judgeMates_94 : decode b_Search_judgeMates 94 = .ok (.if_icmp .gt 19, 3) := by decide +kernel
theorem d_Search_judgeMates_97 : decode b_Search_judgeMates 97 = .ok (.iload_n 1, 1) := by decide +kernel
theorem d_Search_judgeMates_98 : decode b_Search_judgeMates 98 = .ok (.aload_n 0, 1) := by decide +kernel
theorem d_Search_judgeMates_99 : decode b_Search_judgeMates 99 = .ok (.getfield 30, 3) := by decide +kernel
theorem d_Search_judgeMates_102 : decode b_Search_judgeMates 102 = .ok (.if_icmp .ne 21, 3) := by decide +kernel
theorem d_Search_judgeMates_105 : decode b_Search_judgeMates 105 = .ok (.iload_n 2, 1) := by decide +kernel
theorem d_Search_judgeMates_106 : decode b_Search_judgeMates 106 = .ok (.aload_n 0, 1) := by decide +kernel
theorem d_Search_judgeMates_107 : decode b_Search_judgeMates 107 = .ok (.getfield 34, 3) := by decide +kernel
theorem d_Search_judgeMates_110 : decode b_Search_judgeMates 110 = .ok (.if_icmp .ge 13, 3) := by decide +kernel
theorem d_Search_judgeMates_113 : decode b_Search_judgeMates 113 = .ok (.aload_n 0, 1) := by decide +kernel
theorem d_Search_judgeMates_114 : decode b_Search_judgeMates 114 = .ok (.iload_n 1, 1) := by decide +kernel
theorem d_Search_judgeMates_115 : decode b_Search_judgeMates 115 = .ok (.invokevirtual 61, 3) := by decide +kernel
theorem d_Search_judgeMates_118 : decode b_Search_judgeMates 118 = .ok (.aload_n 0, 1) := by decide +kernel
theorem d_Search_judgeMates_119 : decode b_Search_judgeMates 119 = .ok (.iload_n 2, 1) := by decide +kernel
theorem d_Search_judgeMates_120 : decode b_Search_judgeMates 120 = .ok (.putfield 34, 3) := by decide +kernel
theorem d_Search_judgeMates_123 : decode b_Search_judgeMates 123 = .ok (.return_, 1) := by decide +kernel
set_option maxRecDepth 20000 in
theorem c_Search_judgeMates {l : Launch} {g : GG} (hI : WI g) (M : Mem) (R : Mem → Prop) (h : wp_Search_judgeMates  M R) : Met l y_Search_judgeMates (wm y_Search_judgeMates b_Search_judgeMates 5 none) (RM 3 73) (PP g M [.ref (g.2.2.2 21)]) (PQ g (RV R)) 0 0 (AW g) := by
  refine m_of (own := N_Search) (by decide) rfl (Nat.le_of_ble_eq_true rfl) ?_
  intro p e s m below meth c ls C hr hlocks hW hP hS hl
  obtain ⟨hx, hb, hml, hown, hts⟩ := id C
  have hl : lv_has ls 5 [(0, .ref (g.2.2.2 21))] := hl
  unfold wp_Search_judgeMates at h
  obtain ⟨X13, eX13⟩ : ∃ X : Int32 → Int32 → Int32 → Mem → Prop, ∀ (x1 : Int32) (x2 : Int32) (x3 : Int32) (M : Mem), X x1 x2 x3 M ↔ (∀ (H : Heap) (locs : List Loc) (ls : Array Slot), WP g M H → va_S (AW g) s.heap H locs → lv_has ls 5 [(0, .ref (g.2.2.2 21)), (1, .int x1), (2, .int x2), (3, .int x3)] → W p l e (RM 3 73) s m ([.ref (g.2.2.2 21)] : List Value).toArray below meth c H locs 0 0 (MQ below (PQ g (RV R)) ([.ref (g.2.2.2 21)] : List Value).toArray s 0 0 (AW g)) (F0 m 13 ls [])) := ⟨fun x1 x2 x3 M => _, fun _ _ _ _ => Iff.rfl⟩
  have J113 : ∀ (x1 : Int32) (x2 : Int32) (M : Mem), wp_Search_judgeMates_113 X13 R x1 x2 M → ∀ (H : Heap) (locs : List Loc) (ls : Array Slot), WP g M H → va_S (AW g) s.heap H locs → lv_has ls 5 [(0, .ref (g.2.2.2 21)), (1, .int x1), (2, .int x2)] → W p l e (RM 3 73) s m ([.ref (g.2.2.2 21)] : List Value).toArray below meth c H locs 0 0 (MQ below (PQ g (RV R)) ([.ref (g.2.2.2 21)] : List Value).toArray s 0 0 (AW g)) (F0 m 113 ls []) := by
    intro x1 x2 M hk H locs ls hP hS hl
    unfold wp_Search_judgeMates_113 at hk
    refine lv_aload_n hx hb d_Search_judgeMates_113 rfl (lv_at hl 0 rfl) ?_
    refine lv_iload_n hx hb d_Search_judgeMates_114 rfl (lv_at hl 1 rfl) ?_
    refine r_runV (k_V (As := [.int x1]) (rest := []) C hW hP (c_Search_keep hI x1 M _ hk) cb_Search_keep ml_Search_61 (io_21 g M) ⟨by decide, by decide⟩ rfl hl.1 rfl (Nat.le_of_ble_eq_true rfl) d_Search_judgeMates_115 ⟨by decide, by decide⟩) hS (fun M17 H locs hk hP hS => ?_)
    refine lv_aload_n hx hb d_Search_judgeMates_118 rfl (lv_at hl 0 rfl) ?_
    refine lv_iload_n hx hb d_Search_judgeMates_119 rfl (lv_at hl 2 rfl) ?_
    refine pf_21_5 hI C hW hP hS fl_Search_34 d_Search_judgeMates_120 (fun M18 eM18 H locs hP hS => ?_)
    have hk := hk M18 eM18
    exact r_vret C hr hlocks hP hS hk d_Search_judgeMates_123
  have J83 : ∀ (x1 : Int32) (x2 : Int32) (x3 : Int32) (M : Mem), wp_Search_judgeMates_83 X13 R x1 x2 x3 M → ∀ (H : Heap) (locs : List Loc) (ls : Array Slot), WP g M H → va_S (AW g) s.heap H locs → lv_has ls 5 [(0, .ref (g.2.2.2 21)), (1, .int x1), (2, .int x2), (3, .int x3)] → W p l e (RM 3 73) s m ([.ref (g.2.2.2 21)] : List Value).toArray below meth c H locs 0 0 (MQ below (PQ g (RV R)) ([.ref (g.2.2.2 21)] : List Value).toArray s 0 0 (AW g)) (F0 m 83 ls []) := by
    intro x1 x2 x3 M hk H locs ls hP hS hl
    unfold wp_Search_judgeMates_83 at hk
    obtain ⟨x3_16, ex3_16⟩ : ∃ y : Int32, y = x3 + (1 : Int32) := ⟨_, rfl⟩
    have hk := hk x3_16 ex3_16
    refine lv_iinc (v := x3_16) (lv' := [(3, .int x3_16), (0, .ref (g.2.2.2 21)), (1, .int x1), (2, .int x2)]) hx hb d_Search_judgeMates_83 hl (k := 3) rfl (by rw [ex3_16]; rfl) (by decide) rfl (fun ls hl => ?_)
    refine lv_goto (tgt := 13) hx hb d_Search_judgeMates_86 (by decide) ?_
    exact (eX13 x1 x2 x3_16 M).mp hk _ _ _ hP hS (lv_sub hl [1, 2, 3, 0] rfl)
  have J81 : ∀ (x2 : Int32) (x3 : Int32) (s0 : Int32) (s1 : Int32) (M : Mem), wp_Search_judgeMates_81 X13 R x2 x3 s0 s1 M → ∀ (H : Heap) (locs : List Loc) (ls : Array Slot), WP g M H → va_S (AW g) s.heap H locs → lv_has ls 5 [(0, .ref (g.2.2.2 21)), (2, .int x2), (3, .int x3)] → W p l e (RM 3 73) s m ([.ref (g.2.2.2 21)] : List Value).toArray below meth c H locs 0 0 (MQ below (PQ g (RV R)) ([.ref (g.2.2.2 21)] : List Value).toArray s 0 0 (AW g)) (F0 m 81 ls [.int s1, .int s0]) := by
    intro x2 x3 s0 s1 M hk H locs ls hP hS hl
    unfold wp_Search_judgeMates_81 at hk
    refine lv_iadd hx hb d_Search_judgeMates_81 ?_
    refine lv_topi (fun x1_15 ex1_15 => ?_)
    have hk := hk x1_15 ex1_15
    refine lv_istore_n (lv' := [(1, .int x1_15), (0, .ref (g.2.2.2 21)), (2, .int x2), (3, .int x3)]) hx hb d_Search_judgeMates_82 rfl hl (by decide) rfl (fun ls hl => ?_)
    exact J83 x1_15 x2 x3 M hk _ _ _ hP hS (lv_sub hl [1, 0, 2, 3] rfl)
  suffices hcl : (∀ (x1 : Int32) (x2 : Int32) (x3 : Int32) (M : Mem), wp_Search_judgeMates_13 X13 R x1 x2 x3 M → X13 x1 x2 x3 M) by
    have hk := h X13 hcl
    refine lv_iconst (v := 0) hx hb d_Search_judgeMates_0 (by decide) ?_
    refine lv_istore_n (lv' := [(1, .int (0 : Int32)), (0, .ref (g.2.2.2 21))]) hx hb d_Search_judgeMates_1 rfl hl (by decide) rfl (fun ls hl => ?_)
    refine lv_iconst (v := 0) hx hb d_Search_judgeMates_2 (by decide) ?_
    refine lv_istore_n (lv' := [(2, .int (0 : Int32)), (1, .int (0 : Int32)), (0, .ref (g.2.2.2 21))]) hx hb d_Search_judgeMates_3 rfl hl (by decide) rfl (fun ls hl => ?_)
    refine lv_aload_n hx hb d_Search_judgeMates_4 rfl (lv_at hl 2 rfl) ?_
    refine gf_21_1 C hW hP fl_Search_15 d_Search_judgeMates_5 ?_
    refine r_runV (k_V (As := []) (rest := []) C hW hP (c_Walk_begin hI M _ hk) cb_Walk_begin ml_Search_75 (io_18 g M) ⟨by decide, by decide⟩ rfl hl.1 rfl (Nat.le_of_ble_eq_true rfl) d_Search_judgeMates_8 ⟨by decide, by decide⟩) hS (fun M19 H locs hk hP hS => ?_)
    refine lv_iconst (v := 0) hx hb d_Search_judgeMates_11 (by decide) ?_
    refine lv_istore_n (lv' := [(3, .int (0 : Int32)), (2, .int (0 : Int32)), (1, .int (0 : Int32)), (0, .ref (g.2.2.2 21))]) hx hb d_Search_judgeMates_12 rfl hl (by decide) rfl (fun ls hl => ?_)
    exact (eX13 (0 : Int32) (0 : Int32) (0 : Int32) M19).mp hk _ _ _ hP hS (lv_sub hl [3, 2, 1, 0] rfl)
  · intro x1 x2 x3 M hk
    refine (eX13 x1 x2 x3 M).mpr ?_
    intro H locs ls hP hS hl
    unfold wp_Search_judgeMates_13 at hk
    refine lv_iload_n hx hb d_Search_judgeMates_13 rfl (lv_at hl 3 rfl) ?_
    refine lv_aload_n hx hb d_Search_judgeMates_14 rfl (lv_at hl 0 rfl) ?_
    refine gf_21_2 C hW hP fl_Search_22 d_Search_judgeMates_15 ?_
    refine gf_22_1 C hW hP fl_Search_79 d_Search_judgeMates_18 ?_
    refine lv_icmp_ge (tgt := 89) hx hb d_Search_judgeMates_21 (by decide) (fun c1 => ?_) (fun c1 => ?_)
    · have hk := hk.1 c1
      refine lv_iload_n hx hb d_Search_judgeMates_89 rfl (lv_at hl 1 rfl) ?_
      refine lv_aload_n hx hb d_Search_judgeMates_90 rfl (lv_at hl 0 rfl) ?_
      refine gf_21_4 C hW hP fl_Search_30 d_Search_judgeMates_91 ?_
      refine lv_icmp_gt (tgt := 113) hx hb d_Search_judgeMates_94 (by decide) (fun c2 => ?_) (fun c2 => ?_)
      · have hk := hk.1 c2
        exact J113 x1 x2 M hk _ _ _ hP hS (lv_sub hl [0, 1, 2] rfl)
      · have hk := hk.2 c2
        refine lv_iload_n hx hb d_Search_judgeMates_97 rfl (lv_at hl 1 rfl) ?_
        refine lv_aload_n hx hb d_Search_judgeMates_98 rfl (lv_at hl 0 rfl) ?_
        refine gf_21_4 C hW hP fl_Search_30 d_Search_judgeMates_99 ?_
        refine lv_icmp_ne (tgt := 123) hx hb d_Search_judgeMates_102 (by decide) (fun c3 => ?_) (fun c3 => ?_)
        · have hk := hk.1 c3
          exact r_vret C hr hlocks hP hS hk d_Search_judgeMates_123
        · have hk := hk.2 c3
          refine lv_iload_n hx hb d_Search_judgeMates_105 rfl (lv_at hl 2 rfl) ?_
          refine lv_aload_n hx hb d_Search_judgeMates_106 rfl (lv_at hl 0 rfl) ?_
          refine gf_21_5 C hW hP fl_Search_34 d_Search_judgeMates_107 ?_
          refine lv_icmp_ge (tgt := 123) hx hb d_Search_judgeMates_110 (by decide) (fun c4 => ?_) (fun c4 => ?_)
          · have hk := hk.1 c4
            exact r_vret C hr hlocks hP hS hk d_Search_judgeMates_123
          · have hk := hk.2 c4
            exact J113 x1 x2 M hk _ _ _ hP hS (lv_sub hl [0, 1, 2] rfl)
    · have hk := hk.2 c1
      refine lv_aload_n hx hb d_Search_judgeMates_24 rfl (lv_at hl 0 rfl) ?_
      refine gf_21_2 C hW hP fl_Search_22 d_Search_judgeMates_25 ?_
      refine gf_22_0 C hW hP fl_Search_82 d_Search_judgeMates_28 ?_
      refine lv_iload_n hx hb d_Search_judgeMates_31 rfl (lv_at hl 3 rfl) ?_
      obtain ⟨h5, hk⟩ := hk
      refine al_23 C hW hP h5 d_Search_judgeMates_32 ?_
      refine lv_iload_n hx hb d_Search_judgeMates_33 rfl (lv_at hl 3 rfl) ?_
      refine lv_icmp_lt (tgt := 83) hx hb d_Search_judgeMates_34 (by decide) (fun c6 => ?_) (fun c6 => ?_)
      · have hk := hk.1 c6
        exact J83 x1 x2 x3 M hk _ _ _ hP hS (lv_sub hl [0, 1, 2, 3] rfl)
      · have hk := hk.2 c6
        refine lv_iconst (v := 1) hx hb d_Search_judgeMates_37 (by decide) ?_
        refine lv_iload_n hx hb d_Search_judgeMates_38 rfl (lv_at hl 3 rfl) ?_
        refine lv_ishl hx hb d_Search_judgeMates_39 ?_
        refine lv_iconst (v := 1) hx hb d_Search_judgeMates_40 (by decide) ?_
        refine lv_aload_n hx hb d_Search_judgeMates_41 rfl (lv_at hl 0 rfl) ?_
        refine gf_21_2 C hW hP fl_Search_22 d_Search_judgeMates_42 ?_
        refine gf_22_0 C hW hP fl_Search_82 d_Search_judgeMates_45 ?_
        refine lv_iload_n hx hb d_Search_judgeMates_48 rfl (lv_at hl 3 rfl) ?_
        obtain ⟨h7, hk⟩ := hk
        refine al_23 C hW hP h7 d_Search_judgeMates_49 ?_
        refine lv_ishl hx hb d_Search_judgeMates_50 ?_
        refine lv_ior hx hb d_Search_judgeMates_51 ?_
        refine lv_topi (fun x4_8 ex4_8 => ?_)
        have hk := hk x4_8 ex4_8
        refine lv_istore (lv' := [(4, .int x4_8), (0, .ref (g.2.2.2 21)), (1, .int x1), (2, .int x2), (3, .int x3)]) hx hb d_Search_judgeMates_52 hl (by decide) rfl (fun ls hl => ?_)
        obtain ⟨x2_9, ex2_9⟩ : ∃ y : Int32, y = x2 + (1 : Int32) := ⟨_, rfl⟩
        have hk := hk x2_9 ex2_9
        refine lv_iinc (v := x2_9) (lv' := [(2, .int x2_9), (4, .int x4_8), (0, .ref (g.2.2.2 21)), (1, .int x1), (3, .int x3)]) hx hb d_Search_judgeMates_54 hl (k := 3) rfl (by rw [ex2_9]; rfl) (by decide) rfl (fun ls hl => ?_)
        refine lv_iload_n hx hb d_Search_judgeMates_57 rfl (lv_at hl 3 rfl) ?_
        refine lv_aload_n hx hb d_Search_judgeMates_58 rfl (lv_at hl 2 rfl) ?_
        refine gf_21_1 C hW hP fl_Search_15 d_Search_judgeMates_59 ?_
        refine lv_iload hx hb d_Search_judgeMates_62 (lv_at hl 1 rfl) ?_
        refine r_runI (k_V (As := [.int x4_8]) (rest := [.int x1]) C hW hP (c_Walk_send hI x4_8 M _ hk) cb_Walk_send ml_Search_91 (io_18 g M) ⟨by decide, by decide⟩ rfl hl.1 rfl (Nat.le_of_ble_eq_true rfl) d_Search_judgeMates_64 ⟨by decide, by decide⟩) hS (fun r11 M10 H locs hk hP hS => ?_)
        refine lv_bipush (v := -9) hx hb d_Search_judgeMates_67 (by decide) ?_
        refine lv_icmp_ne (tgt := 80) hx hb d_Search_judgeMates_69 (by decide) (fun c12 => ?_) (fun c12 => ?_)
        · have hk := hk.1 c12
          refine lv_iconst (v := 0) hx hb d_Search_judgeMates_80 (by decide) ?_
          exact J81 x2_9 x3 x1 (0 : Int32) M10 hk _ _ _ hP hS (lv_sub hl [2, 0, 4] rfl)
        · have hk := hk.2 c12
          refine lv_iload hx hb d_Search_judgeMates_72 (lv_at hl 1 rfl) ?_
          refine r_runI (k_S (As := [.int x4_8]) (rest := [.int x1]) C hW hP (c_Int_bitCount hI x4_8 M10 _ hk) cb_Int_bitCount ml_Search_56 ⟨by decide, by decide⟩ rfl hl.1 rfl (Nat.le_of_ble_eq_true rfl) d_Search_judgeMates_74 ⟨by decide, by decide⟩) hS (fun r14 M13 H locs hk hP hS => ?_)
          refine lv_goto (tgt := 81) hx hb d_Search_judgeMates_77 (by decide) ?_
          exact J81 x2_9 x3 x1 r14 M13 hk _ _ _ hP hS (lv_sub hl [2, 0, 4] rfl)
theorem d_Search_findTwos_0 : decode b_Search_findTwos 0 = .ok (.aload_n 0, 1) := by decide +kernel
theorem d_Search_findTwos_1 : decode b_Search_findTwos 1 = .ok (.iconst (-1), 1) := by decide +kernel
theorem d_Search_findTwos_2 : decode b_Search_findTwos 2 = .ok (.putfield 30, 3) := by decide +kernel
theorem d_Search_findTwos_5 : decode b_Search_findTwos 5 = .ok (.aload_n 0, 1) := by decide +kernel
theorem d_Search_findTwos_6 : decode b_Search_findTwos 6 = .ok (.iconst 0, 1) := by decide +kernel
theorem d_Search_findTwos_7 : decode b_Search_findTwos 7 = .ok (.putfield 34, 3) := by decide +kernel
theorem d_Search_findTwos_10 : decode b_Search_findTwos 10 = .ok (.aload_n 0, 1) := by decide +kernel
theorem d_Search_findTwos_11 : decode b_Search_findTwos 11 = .ok (.getfield 22, 3) := by decide +kernel
theorem d_Search_findTwos_14 : decode b_Search_findTwos 14 = .ok (.aload_n 0, 1) := by decide +kernel
theorem d_Search_findTwos_15 : decode b_Search_findTwos 15 = .ok (.getfield 9, 3) := by decide +kernel
theorem d_Search_findTwos_18 : decode b_Search_findTwos 18 = .ok (.getfield 43, 3) := by decide +kernel
theorem d_Search_findTwos_21 : decode b_Search_findTwos 21 = .ok (.invokevirtual 48, 3) := by decide +kernel
theorem d_Search_findTwos_24 : decode b_Search_findTwos 24 = .ok (.istore_n 1, 1) := by decide +kernel
theorem d_Search_findTwos_25 : decode b_Search_findTwos 25 = .ok (.iconst 0, 1) := by decide +kernel
theorem d_Search_findTwos_26 : decode b_Search_findTwos 26 = .ok (.istore_n 2, 1) := by decide +kernel
theorem d_Search_findTwos_27 : decode b_Search_findTwos 27 = .ok (.iload_n 2, 1) := by decide +kernel
theorem d_Search_findTwos_28 : decode b_Search_findTwos 28 = .ok (.iload_n 1, 1) := by decide +kernel
theorem d_Search_findTwos_29 : decode b_Search_findTwos 29 = .ok (.if_icmp .ge 30, 3) := by decide +kernel
theorem d_Search_findTwos_32 : decode b_Search_findTwos 32 = .ok (.aload_n 0, 1) := by decide +kernel
theorem d_Search_findTwos_33 : decode b_Search_findTwos 33 = .ok (.getfield 22, 3) := by decide +kernel
theorem d_Search_findTwos_36 : decode b_Search_findTwos 36 = .ok (.invokevirtual 68, 3) := by decide +kernel
theorem d_Search_findTwos_39 : decode b_Search_findTwos 39 = .ok (.ifCond .eq 7, 3) := by decide +kernel
theorem d_Search_findTwos_42 : decode b_Search_findTwos 42 = .ok (.aload_n 0, 1) := by decide +kernel
theorem d_Search_findTwos_43 : decode b_Search_findTwos 43 = .ok (.invokevirtual 72, 3) := by decide +kernel
theorem d_Search_findTwos_46 : decode b_Search_findTwos 46 = .ok (.aload_n 0, 1) := by decide +kernel
theorem d_Search_findTwos_47 : decode b_Search_findTwos 47 = .ok (.getfield 22, 3) := by decide +kernel
theorem d_Search_findTwos_50 : decode b_Search_findTwos 50 = .ok (.invokevirtual 65, 3) := by decide +kernel
theorem d_Search_findTwos_53 : decode b_Search_findTwos 53 = .ok (.iinc 2 1, 3) := by decide +kernel
theorem d_Search_findTwos_56 : decode b_Search_findTwos 56 = .ok (.goto (-29), 3) := by decide +kernel
theorem d_Search_findTwos_59 : decode b_Search_findTwos 59 = .ok (.return_, 1) := by decide +kernel
set_option maxRecDepth 20000 in
theorem c_Search_findTwos {l : Launch} {g : GG} (hI : WI g) (M : Mem) (R : Mem → Prop) (h : wp_Search_findTwos  M R) : Met l y_Search_findTwos (wm y_Search_findTwos b_Search_findTwos 3 none) (RM 4 97) (PP g M [.ref (g.2.2.2 21)]) (PQ g (RV R)) 0 0 (AW g) := by
  refine m_of (own := N_Search) (by decide) rfl (Nat.le_of_ble_eq_true rfl) ?_
  intro p e s m below meth c ls C hr hlocks hW hP hS hl
  obtain ⟨hx, hb, hml, hown, hts⟩ := id C
  have hl : lv_has ls 3 [(0, .ref (g.2.2.2 21))] := hl
  unfold wp_Search_findTwos at h
  obtain ⟨X27, eX27⟩ : ∃ X : Int32 → Int32 → Mem → Prop, ∀ (x1 : Int32) (x2 : Int32) (M : Mem), X x1 x2 M ↔ (∀ (H : Heap) (locs : List Loc) (ls : Array Slot), WP g M H → va_S (AW g) s.heap H locs → lv_has ls 3 [(0, .ref (g.2.2.2 21)), (1, .int x1), (2, .int x2)] → W p l e (RM 4 97) s m ([.ref (g.2.2.2 21)] : List Value).toArray below meth c H locs 0 0 (MQ below (PQ g (RV R)) ([.ref (g.2.2.2 21)] : List Value).toArray s 0 0 (AW g)) (F0 m 27 ls [])) := ⟨fun x1 x2 M => _, fun _ _ _ => Iff.rfl⟩
  have J46 : ∀ (x1 : Int32) (x2 : Int32) (M : Mem), wp_Search_findTwos_46 X27 R x1 x2 M → ∀ (H : Heap) (locs : List Loc) (ls : Array Slot), WP g M H → va_S (AW g) s.heap H locs → lv_has ls 3 [(0, .ref (g.2.2.2 21)), (1, .int x1), (2, .int x2)] → W p l e (RM 4 97) s m ([.ref (g.2.2.2 21)] : List Value).toArray below meth c H locs 0 0 (MQ below (PQ g (RV R)) ([.ref (g.2.2.2 21)] : List Value).toArray s 0 0 (AW g)) (F0 m 46 ls []) := by
    intro x1 x2 M hk H locs ls hP hS hl
    unfold wp_Search_findTwos_46 at hk
    refine lv_aload_n hx hb d_Search_findTwos_46 rfl (lv_at hl 0 rfl) ?_
    refine gf_21_2 C hW hP fl_Search_22 d_Search_findTwos_47 ?_
    refine r_runV (k_V (As := []) (rest := []) C hW hP (c_Orders_next hI M _ hk) cb_Orders_next ml_Search_65 (io_22 g M) ⟨by decide, by decide⟩ rfl hl.1 rfl (Nat.le_of_ble_eq_true rfl) d_Search_findTwos_50 ⟨by decide, by decide⟩) hS (fun M6 H locs hk hP hS => ?_)
    obtain ⟨x2_7, ex2_7⟩ : ∃ y : Int32, y = x2 + (1 : Int32) := ⟨_, rfl⟩
    have hk := hk x2_7 ex2_7
    refine lv_iinc (v := x2_7) (lv' := [(2, .int x2_7), (0, .ref (g.2.2.2 21)), (1, .int x1)]) hx hb d_Search_findTwos_53 hl (k := 2) rfl (by rw [ex2_7]; rfl) (by decide) rfl (fun ls hl => ?_)
    refine lv_goto (tgt := 27) hx hb d_Search_findTwos_56 (by decide) ?_
    exact (eX27 x1 x2_7 M6).mp hk _ _ _ hP hS (lv_sub hl [1, 2, 0] rfl)
  suffices hcl : (∀ (x1 : Int32) (x2 : Int32) (M : Mem), wp_Search_findTwos_27 X27 R x1 x2 M → X27 x1 x2 M) by
    have hk := h X27 hcl
    refine lv_aload_n hx hb d_Search_findTwos_0 rfl (lv_at hl 0 rfl) ?_
    refine lv_iconst (v := -1) hx hb d_Search_findTwos_1 (by decide) ?_
    refine pf_21_4 hI C hW hP hS fl_Search_30 d_Search_findTwos_2 (fun M8 eM8 H locs hP hS => ?_)
    have hk := hk M8 eM8
    refine lv_aload_n hx hb d_Search_findTwos_5 rfl (lv_at hl 0 rfl) ?_
    refine lv_iconst (v := 0) hx hb d_Search_findTwos_6 (by decide) ?_
    refine pf_21_5 hI C hW hP hS fl_Search_34 d_Search_findTwos_7 (fun M9 eM9 H locs hP hS => ?_)
    have hk := hk M9 eM9
    refine lv_aload_n hx hb d_Search_findTwos_10 rfl (lv_at hl 0 rfl) ?_
    refine gf_21_2 C hW hP fl_Search_22 d_Search_findTwos_11 ?_
    refine lv_aload_n hx hb d_Search_findTwos_14 rfl (lv_at hl 0 rfl) ?_
    refine gf_21_0 C hW hP fl_Search_9 d_Search_findTwos_15 ?_
    refine gf_12_6 C hW hP fl_Search_43 d_Search_findTwos_18 ?_
    refine r_runI (k_V (As := [.int (M9 12 6)]) (rest := []) C hW hP (c_Orders_begin hI (M9 12 6) M9 _ hk) cb_Orders_begin ml_Search_48 (io_22 g M9) ⟨by decide, by decide⟩ rfl hl.1 rfl (Nat.le_of_ble_eq_true rfl) d_Search_findTwos_21 ⟨by decide, by decide⟩) hS (fun r11 M10 H locs hk hP hS => ?_)
    refine lv_istore_n (lv' := [(1, .int r11), (0, .ref (g.2.2.2 21))]) hx hb d_Search_findTwos_24 rfl hl (by decide) rfl (fun ls hl => ?_)
    refine lv_iconst (v := 0) hx hb d_Search_findTwos_25 (by decide) ?_
    refine lv_istore_n (lv' := [(2, .int (0 : Int32)), (1, .int r11), (0, .ref (g.2.2.2 21))]) hx hb d_Search_findTwos_26 rfl hl (by decide) rfl (fun ls hl => ?_)
    exact (eX27 r11 (0 : Int32) M10).mp hk _ _ _ hP hS (lv_sub hl [2, 1, 0] rfl)
  · intro x1 x2 M hk
    refine (eX27 x1 x2 M).mpr ?_
    intro H locs ls hP hS hl
    unfold wp_Search_findTwos_27 at hk
    refine lv_iload_n hx hb d_Search_findTwos_27 rfl (lv_at hl 2 rfl) ?_
    refine lv_iload_n hx hb d_Search_findTwos_28 rfl (lv_at hl 1 rfl) ?_
    refine lv_icmp_ge (tgt := 59) hx hb d_Search_findTwos_29 (by decide) (fun c1 => ?_) (fun c1 => ?_)
    · have hk := hk.1 c1
      exact r_vret C hr hlocks hP hS hk d_Search_findTwos_59
    · have hk := hk.2 c1
      refine lv_aload_n hx hb d_Search_findTwos_32 rfl (lv_at hl 0 rfl) ?_
      refine gf_21_2 C hW hP fl_Search_22 d_Search_findTwos_33 ?_
      refine r_runZ (k_V (As := []) (rest := []) C hW hP (c_Orders_isOfMates hI M _ hk) cb_Orders_isOfMates ml_Search_68 (io_22 g M) ⟨by decide, by decide⟩ rfl hl.1 rfl (Nat.le_of_ble_eq_true rfl) d_Search_findTwos_36 ⟨by decide, by decide⟩) hS (fun r3 M2 H locs zr3 hk hP hS => ?_)
      refine lv_if_eq (tgt := 46) hx hb d_Search_findTwos_39 (by decide) (fun c4 => ?_) (fun c4 => ?_)
      · have hk := hk.1 c4
        exact J46 x1 x2 M2 hk _ _ _ hP hS (lv_sub hl [0, 1, 2] rfl)
      · have hk := hk.2 c4
        refine lv_aload_n hx hb d_Search_findTwos_42 rfl (lv_at hl 0 rfl) ?_
        refine r_runV (k_V (As := []) (rest := []) C hW hP (c_Search_judgeMates hI M2 _ hk) cb_Search_judgeMates ml_Search_72 (io_21 g M2) ⟨by decide, by decide⟩ rfl hl.1 rfl (Nat.le_of_ble_eq_true rfl) d_Search_findTwos_43 ⟨by decide, by decide⟩) hS (fun M5 H locs hk hP hS => ?_)
        exact J46 x1 x2 M5 hk _ _ _ hP hS (lv_sub hl [0, 1, 2] rfl)
theorem d_Main_twos_0 : decode b_Main_twos 0 = .ok (.iload_n 1, 1) := by decide +kernel
theorem d_Main_twos_1 : decode b_Main_twos 1 = .ok (.iconst (-1), 1) := by decide +kernel
theorem d_Main_twos_2 : decode b_Main_twos 2 = .ok (.if_icmp .eq 16, 3) := by decide +kernel
theorem d_Main_twos_5 : decode b_Main_twos 5 = .ok (.aload_n 0, 1) := by decide +kernel
theorem d_Main_twos_6 : decode b_Main_twos 6 = .ok (.getfield 28, 3) := by decide +kernel
theorem d_Main_twos_9 : decode b_Main_twos 9 = .ok (.iload_n 1, 1) := by decide +kernel
theorem d_Main_twos_10 : decode b_Main_twos 10 = .ok (.invokevirtual 122, 3) := by decide +kernel
theorem d_Main_twos_13 : decode b_Main_twos 13 = .ok (.ifCond .ne 5, 3) := by decide +kernel
theorem d_Main_twos_16 : decode b_Main_twos 16 = .ok (.iconst (-1), 1) := by decide +kernel
theorem d_Main_twos_17 : decode b_Main_twos 17 = .ok (.ireturn, 1) := by decide +kernel
theorem d_Main_twos_18 : decode b_Main_twos 18 = .ok (.aload_n 0, 1) := by decide +kernel
theorem d_Main_twos_19 : decode b_Main_twos 19 = .ok (.getfield 28, 3) := by decide +kernel
theorem d_Main_twos_22 : decode b_Main_twos 22 = .ok (.invokevirtual 131, 3) := by decide +kernel
theorem d_Main_twos_25 : decode b_Main_twos 25 = .ok (.ifCond .ne 6, 3) := by decide +kernel
theorem d_Main_twos_28 : decode b_Main_twos 28 = .ok (.bipush (-3), 2) := by decide +kernel
theorem d_Main_twos_30 : decode b_Main_twos 30 = .ok (.ireturn, 1) := by decide +kernel
theorem d_Main_twos_31 : decode b_Main_twos 31 = .ok (.aload_n 0, 1) := by decide +kernel
theorem d_Main_twos_32 : decode b_Main_twos 32 = .ok (.getfield 46, 3) := by decide +kernel
theorem d_Main_twos_35 : decode b_Main_twos 35 = .ok (.invokevirtual 184, 3) := by decide +kernel
theorem d_Main_twos_38 : decode b_Main_twos 38 = .ok (.iload_n 1, 1) := by decide +kernel
theorem d_Main_twos_39 : decode b_Main_twos 39 = .ok (.ifCond .ge 13, 3) := by decide +kernel
theorem d_Main_twos_42 : decode b_Main_twos 42 = .ok (.aload_n 0, 1) := by decide +kernel
theorem d_Main_twos_43 : decode b_Main_twos 43 = .ok (.getfield 46, 3) := by decide +kernel
theorem d_Main_twos_46 : decode b_Main_twos 46 = .ok (.getfield 178, 3) := by decide +kernel
theorem d_Main_twos_49 : decode b_Main_twos 49 = .ok (.goto 12, 3) := by decide +kernel
theorem d_Main_twos_52 : decode b_Main_twos 52 = .ok (.aload_n 0, 1) := by decide +kernel
theorem d_Main_twos_53 : decode b_Main_twos 53 = .ok (.getfield 46, 3) := by decide +kernel
theorem d_Main_twos_56 : decode b_Main_twos 56 = .ok (.getfield 181, 3) := by decide +kernel
theorem d_Main_twos_59 : decode b_Main_twos 59 = .ok (.iload_n 1, 1) := by decide +kernel
theorem d_Main_twos_60 : decode b_Main_twos 60 = .ok (.iaload, 1) := by decide +kernel
theorem d_Main_twos_61 : decode b_Main_twos 61 = .ok (.ireturn, 1) := by decide +kernel
set_option maxRecDepth 20000 in
theorem c_Main_twos {l : Launch} {g : GG} (hI : WI g) (a1 : Int32) (M : Mem) (R : Int32 → Mem → Prop) (h : wp_Main_twos a1 M R) : Met l y_Main_twos (wm y_Main_twos b_Main_twos 2 (some .int)) (RM 5 119) (PP g M [.ref (g.2.2.2 0), .int a1]) (PQ g (RI R)) 0 0 (AW g) := by
  refine m_of (own := N_Main) (by decide) rfl (Nat.le_of_ble_eq_true rfl) ?_
  intro p e s m below meth c ls C hr hlocks hW hP hS hl
  obtain ⟨hx, hb, hml, hown, hts⟩ := id C
  have hl : lv_has ls 2 [(0, .ref (g.2.2.2 0)), (1, .int a1)] := hl
  unfold wp_Main_twos at h
  have J18 : ∀ (x1 : Int32) (M : Mem), wp_Main_twos_18  R x1 M → ∀ (H : Heap) (locs : List Loc) (ls : Array Slot), WP g M H → va_S (AW g) s.heap H locs → lv_has ls 2 [(0, .ref (g.2.2.2 0)), (1, .int x1)] → W p l e (RM 5 119) s m ([.ref (g.2.2.2 0), .int a1] : List Value).toArray below meth c H locs 0 0 (MQ below (PQ g (RI R)) ([.ref (g.2.2.2 0), .int a1] : List Value).toArray s 0 0 (AW g)) (F0 m 18 ls []) := by
    intro x1 M hk H locs ls hP hS hl
    unfold wp_Main_twos_18 at hk
    refine lv_aload_n hx hb d_Main_twos_18 rfl (lv_at hl 0 rfl) ?_
    refine gf_0_2 C hW hP fl_Main_28 d_Main_twos_19 ?_
    refine r_runZ (k_V (As := []) (rest := []) C hW hP (c_Way_isTold hI M _ hk) cb_Way_isTold ml_Main_131 (io_12 g M) ⟨by decide, by decide⟩ rfl hl.1 rfl (Nat.le_of_ble_eq_true rfl) d_Main_twos_22 ⟨by decide, by decide⟩) hS (fun r2 M1 H locs zr2 hk hP hS => ?_)
    refine lv_if_ne (tgt := 31) hx hb d_Main_twos_25 (by decide) (fun c3 => ?_) (fun c3 => ?_)
    · have hk := hk.1 c3
      refine lv_aload_n hx hb d_Main_twos_31 rfl (lv_at hl 0 rfl) ?_
      refine gf_0_4 C hW hP fl_Main_46 d_Main_twos_32 ?_
      refine r_runV (k_V (As := []) (rest := []) C hW hP (c_Search_findTwos hI M1 _ hk) cb_Search_findTwos ml_Main_184 (io_21 g M1) ⟨by decide, by decide⟩ rfl hl.1 rfl (Nat.le_of_ble_eq_true rfl) d_Main_twos_35 ⟨by decide, by decide⟩) hS (fun M4 H locs hk hP hS => ?_)
      refine lv_iload_n hx hb d_Main_twos_38 rfl (lv_at hl 1 rfl) ?_
      refine lv_if_ge (tgt := 52) hx hb d_Main_twos_39 (by decide) (fun c5 => ?_) (fun c5 => ?_)
      · have hk := hk.1 c5
        refine lv_aload_n hx hb d_Main_twos_52 rfl (lv_at hl 0 rfl) ?_
        refine gf_0_4 C hW hP fl_Main_46 d_Main_twos_53 ?_
        refine gf_21_3 C hW hP fl_Main_181 d_Main_twos_56 ?_
        refine lv_iload_n hx hb d_Main_twos_59 rfl (lv_at hl 1 rfl) ?_
        obtain ⟨h6, hk⟩ := hk
        refine al_24 C hW hP h6 d_Main_twos_60 ?_
        exact r_iret C hr hlocks hP hS hk d_Main_twos_61
      · have hk := hk.2 c5
        refine lv_aload_n hx hb d_Main_twos_42 rfl (lv_at hl 0 rfl) ?_
        refine gf_0_4 C hW hP fl_Main_46 d_Main_twos_43 ?_
        refine gf_21_4 C hW hP fl_Main_178 d_Main_twos_46 ?_
        refine lv_goto (tgt := 61) hx hb d_Main_twos_49 (by decide) ?_
        exact r_iret C hr hlocks hP hS hk d_Main_twos_61
    · have hk := hk.2 c3
      refine lv_bipush (v := -3) hx hb d_Main_twos_28 (by decide) ?_
      exact r_iret C hr hlocks hP hS hk d_Main_twos_30
  have hk := h
  refine lv_iload_n hx hb d_Main_twos_0 rfl (lv_at hl 1 rfl) ?_
  refine lv_iconst (v := -1) hx hb d_Main_twos_1 (by decide) ?_
  refine lv_icmp_eq (tgt := 18) hx hb d_Main_twos_2 (by decide) (fun c7 => ?_) (fun c7 => ?_)
  · have hk := hk.1 c7
    exact J18 a1 M hk _ _ _ hP hS (lv_sub hl [0, 1] rfl)
  · have hk := hk.2 c7
    refine lv_aload_n hx hb d_Main_twos_5 rfl (lv_at hl 0 rfl) ?_
    refine gf_0_2 C hW hP fl_Main_28 d_Main_twos_6 ?_
    refine lv_iload_n hx hb d_Main_twos_9 rfl (lv_at hl 1 rfl) ?_
    refine r_runZ (k_V (As := [.int a1]) (rest := []) C hW hP (c_Way_hasGuest hI a1 M _ hk) cb_Way_hasGuest ml_Main_122 (io_12 g M) ⟨by decide, by decide⟩ rfl hl.1 rfl (Nat.le_of_ble_eq_true rfl) d_Main_twos_10 ⟨by decide, by decide⟩) hS (fun r9 M8 H locs zr9 hk hP hS => ?_)
    refine lv_if_ne (tgt := 18) hx hb d_Main_twos_13 (by decide) (fun c10 => ?_) (fun c10 => ?_)
    · have hk := hk.1 c10
      exact J18 a1 M8 hk _ _ _ hP hS (lv_sub hl [0, 1] rfl)
    · have hk := hk.2 c10
      refine lv_iconst (v := -1) hx hb d_Main_twos_16 (by decide) ?_
      exact r_iret C hr hlocks hP hS hk d_Main_twos_17
theorem d_Walk_goByNumbers_0 : decode b_Walk_goByNumbers 0 = .ok (.aload_n 0, 1) := by decide +kernel
theorem d_Walk_goByNumbers_1 : decode b_Walk_goByNumbers 1 = .ok (.invokevirtual 54, 3) := by decide +kernel
theorem d_Walk_goByNumbers_4 : decode b_Walk_goByNumbers 4 = .ok (.iconst 0, 1) := by decide +kernel
theorem d_Walk_goByNumbers_5 : decode b_Walk_goByNumbers 5 = .ok (.istore_n 1, 1) := by decide +kernel
theorem d_Walk_goByNumbers_6 : decode b_Walk_goByNumbers 6 = .ok (.iload_n 1, 1) := by decide +kernel
theorem d_Walk_goByNumbers_7 : decode b_Walk_goByNumbers 7 = .ok (.aload_n 0, 1) := by decide +kernel
theorem d_Walk_goByNumbers_8 : decode b_Walk_goByNumbers 8 = .ok (.getfield 9, 3) := by decide +kernel
theorem d_Walk_goByNumbers_11 : decode b_Walk_goByNumbers 11 = .ok (.getfield 57, 3) := by decide +kernel
theorem d_Walk_goByNumbers_14 : decode b_Walk_goByNumbers 14 = .ok (.if_icmp .ge 14, 3) := by decide +kernel
theorem d_Walk_goByNumbers_17 : decode b_Walk_goByNumbers 17 = .ok (.aload_n 0, 1) := by decide +kernel
theorem d_Walk_goByNumbers_18 : decode b_Walk_goByNumbers 18 = .ok (.iload_n 1, 1) := by decide +kernel
theorem d_Walk_goByNumbers_19 : decode b_Walk_goByNumbers 19 = .ok (.invokevirtual 60, 3) := by decide +kernel
theorem d_Walk_goByNumbers_22 : decode b_Walk_goByNumbers 22 = .ok (.iinc 1 1, 3) := by decide +kernel
theorem d_Walk_goByNumbers_25 : decode b_Walk_goByNumbers 25 = .ok (.goto (-19), 3) := by decide +kernel
theorem d_Walk_goByNumbers_28 : decode b_Walk_goByNumbers 28 = .ok (.aload_n 0, 1) := by decide +kernel
theorem d_Walk_goByNumbers_29 : decode b_Walk_goByNumbers 29 = .ok (.getfield 22, 3) := by decide +kernel
theorem d_Walk_goByNumbers_32 : decode b_Walk_goByNumbers 32 = .ok (.invokestatic 64, 3) := by decide +kernel
theorem d_Walk_goByNumbers_35 : decode b_Walk_goByNumbers 35 = .ok (.ireturn, 1) := by decide +kernel
set_option maxRecDepth 20000 in
theorem c_Walk_goByNumbers {l : Launch} {g : GG} (hI : WI g) (M : Mem) (R : Int32 → Mem → Prop) (h : wp_Walk_goByNumbers  M R) : Met l y_Walk_goByNumbers (wm y_Walk_goByNumbers b_Walk_goByNumbers 2 (some .int)) (RM 4 94) (PP g M [.ref (g.2.2.2 18)]) (PQ g (RI R)) 0 0 (AW g) := by
  refine m_of (own := N_Walk) (by decide) rfl (Nat.le_of_ble_eq_true rfl) ?_
  intro p e s m below meth c ls C hr hlocks hW hP hS hl
  obtain ⟨hx, hb, hml, hown, hts⟩ := id C
  have hl : lv_has ls 2 [(0, .ref (g.2.2.2 18))] := hl
  unfold wp_Walk_goByNumbers at h
  obtain ⟨X6, eX6⟩ : ∃ X : Int32 → Mem → Prop, ∀ (x1 : Int32) (M : Mem), X x1 M ↔ (∀ (H : Heap) (locs : List Loc) (ls : Array Slot), WP g M H → va_S (AW g) s.heap H locs → lv_has ls 2 [(0, .ref (g.2.2.2 18)), (1, .int x1)] → W p l e (RM 4 94) s m ([.ref (g.2.2.2 18)] : List Value).toArray below meth c H locs 0 0 (MQ below (PQ g (RI R)) ([.ref (g.2.2.2 18)] : List Value).toArray s 0 0 (AW g)) (F0 m 6 ls [])) := ⟨fun x1 M => _, fun _ _ => Iff.rfl⟩
  suffices hcl : (∀ (x1 : Int32) (M : Mem), wp_Walk_goByNumbers_6 X6 R x1 M → X6 x1 M) by
    have hk := h X6 hcl
    refine lv_aload_n hx hb d_Walk_goByNumbers_0 rfl (lv_at hl 0 rfl) ?_
    refine r_runV (k_V (As := []) (rest := []) C hW hP (c_Walk_begin hI M _ hk) cb_Walk_begin ml_Walk_54 (io_18 g M) ⟨by decide, by decide⟩ rfl hl.1 rfl (Nat.le_of_ble_eq_true rfl) d_Walk_goByNumbers_1 ⟨by decide, by decide⟩) hS (fun M6 H locs hk hP hS => ?_)
    refine lv_iconst (v := 0) hx hb d_Walk_goByNumbers_4 (by decide) ?_
    refine lv_istore_n (lv' := [(1, .int (0 : Int32)), (0, .ref (g.2.2.2 18))]) hx hb d_Walk_goByNumbers_5 rfl hl (by decide) rfl (fun ls hl => ?_)
    exact (eX6 (0 : Int32) M6).mp hk _ _ _ hP hS (lv_sub hl [1, 0] rfl)
  · intro x1 M hk
    refine (eX6 x1 M).mpr ?_
    intro H locs ls hP hS hl
    unfold wp_Walk_goByNumbers_6 at hk
    refine lv_iload_n hx hb d_Walk_goByNumbers_6 rfl (lv_at hl 1 rfl) ?_
    refine lv_aload_n hx hb d_Walk_goByNumbers_7 rfl (lv_at hl 0 rfl) ?_
    refine gf_18_0 C hW hP fl_Walk_9 d_Walk_goByNumbers_8 ?_
    refine gf_12_6 C hW hP fl_Walk_57 d_Walk_goByNumbers_11 ?_
    refine lv_icmp_ge (tgt := 28) hx hb d_Walk_goByNumbers_14 (by decide) (fun c1 => ?_) (fun c1 => ?_)
    · have hk := hk.1 c1
      refine lv_aload_n hx hb d_Walk_goByNumbers_28 rfl (lv_at hl 0 rfl) ?_
      refine gf_18_3 C hW hP fl_Walk_22 d_Walk_goByNumbers_29 ?_
      refine r_runI (k_S (As := [.int (M 18 3)]) (rest := []) C hW hP (c_Int_bitCount hI (M 18 3) M _ hk) cb_Int_bitCount ml_Walk_64 ⟨by decide, by decide⟩ rfl hl.1 rfl (Nat.le_of_ble_eq_true rfl) d_Walk_goByNumbers_32 ⟨by decide, by decide⟩) hS (fun r3 M2 H locs hk hP hS => ?_)
      exact r_iret C hr hlocks hP hS hk d_Walk_goByNumbers_35
    · have hk := hk.2 c1
      refine lv_aload_n hx hb d_Walk_goByNumbers_17 rfl (lv_at hl 0 rfl) ?_
      refine lv_iload_n hx hb d_Walk_goByNumbers_18 rfl (lv_at hl 1 rfl) ?_
      refine r_runV (k_V (As := [.int x1]) (rest := []) C hW hP (c_Walk_goAlone hI x1 M _ hk) cb_Walk_goAlone ml_Walk_60 (io_18 g M) ⟨by decide, by decide⟩ rfl hl.1 rfl (Nat.le_of_ble_eq_true rfl) d_Walk_goByNumbers_19 ⟨by decide, by decide⟩) hS (fun M4 H locs hk hP hS => ?_)
      obtain ⟨x1_5, ex1_5⟩ : ∃ y : Int32, y = x1 + (1 : Int32) := ⟨_, rfl⟩
      have hk := hk x1_5 ex1_5
      refine lv_iinc (v := x1_5) (lv' := [(1, .int x1_5), (0, .ref (g.2.2.2 18))]) hx hb d_Walk_goByNumbers_22 hl (k := 1) rfl (by rw [ex1_5]; rfl) (by decide) rfl (fun ls hl => ?_)
      refine lv_goto (tgt := 6) hx hb d_Walk_goByNumbers_25 (by decide) ?_
      exact (eX6 x1_5 M4).mp hk _ _ _ hP hS (lv_sub hl [1, 0] rfl)
theorem d_Trials_findGift_0 : decode b_Trials_findGift 0 = .ok (.aload_n 0, 1) := by decide +kernel
theorem d_Trials_findGift_1 : decode b_Trials_findGift 1 = .ok (.bipush (-9), 2) := by decide +kernel
theorem d_Trials_findGift_3 : decode b_Trials_findGift 3 = .ok (.putfield 19, 3) := by decide +kernel
theorem d_Trials_findGift_6 : decode b_Trials_findGift 6 = .ok (.aload_n 0, 1) := by decide +kernel
theorem d_Trials_findGift_7 : decode b_Trials_findGift 7 = .ok (.aload_n 0, 1) := by decide +kernel
theorem d_Trials_findGift_8 : decode b_Trials_findGift 8 = .ok (.getfield 15, 3) := by decide +kernel
theorem d_Trials_findGift_11 : decode b_Trials_findGift 11 = .ok (.invokevirtual 26, 3) := by decide +kernel
theorem d_Trials_findGift_14 : decode b_Trials_findGift 14 = .ok (.putfield 23, 3) := by decide +kernel
theorem d_Trials_findGift_17 : decode b_Trials_findGift 17 = .ok (.iconst 0, 1) := by decide +kernel
theorem d_Trials_findGift_18 : decode b_Trials_findGift 18 = .ok (.istore_n 1, 1) := by decide +kernel
theorem d_Trials_findGift_19 : decode b_Trials_findGift 19 = .ok (.iload_n 1, 1) := by decide +kernel
theorem d_Trials_findGift_20 : decode b_Trials_findGift 20 = .ok (.aload_n 0, 1) := by decide +kernel
theorem d_Trials_findGift_21 : decode b_Trials_findGift 21 = .ok (.getfield 9, 3) := by decide +kernel
theorem d_Trials_findGift_24 : decode b_Trials_findGift 24 = .ok (.getfield 32, 3) := by decide +kernel
theorem d_Trials_findGift_27 : decode b_Trials_findGift 27 = .ok (.if_icmp .ge 91, 3) := by decide +kernel
theorem d_Trials_findGift_30 : decode b_Trials_findGift 30 = .ok (.aload_n 0, 1) := by decide +kernel
theorem d_Trials_findGift_31 : decode b_Trials_findGift 31 = .ok (.getfield 9, 3) := by decide +kernel
theorem d_Trials_findGift_34 : decode b_Trials_findGift 34 = .ok (.getfield 37, 3) := by decide +kernel
theorem d_Trials_findGift_37 : decode b_Trials_findGift 37 = .ok (.iload_n 1, 1) := by decide +kernel
theorem d_Trials_findGift_38 : decode b_Trials_findGift 38 = .ok (.iaload, 1) := by decide +kernel
theorem d_Trials_findGift_39 : decode b_Trials_findGift 39 = .ok (.istore_n 2, 1) := by decide +kernel
theorem d_Trials_findGift_40 : decode b_Trials_findGift 40 = .ok (.iconst 0, 1) := by decide +kernel
theorem d_Trials_findGift_41 : decode b_Trials_findGift 41 = .ok (.istore_n 3, 1) := by decide +kernel
theorem d_Trials_findGift_42 : decode b_Trials_findGift 42 = .ok (.iload_n 3, 1) := by decide +kernel
theorem d_Trials_findGift_43 : decode b_Trials_findGift 43 = .ok (.bipush 6, 2) := by decide +kernel
theorem d_Trials_findGift_45 : decode b_Trials_findGift 45 = .ok (.if_icmp .ge 57, 3) := by decide +kernel
theorem d_Trials_findGift_48 : decode b_Trials_findGift 48 = .ok (.aload_n 0, 1) := by decide +kernel
theorem d_Trials_findGift_49 : decode b_Trials_findGift 49 = .ok (.getfield 9, 3) := by decide +kernel
theorem d_Trials_findGift_52 : decode b_Trials_findGift 52 = .ok (.getfield 37, 3) := by decide +kernel
theorem d_Trials_findGift_55 : decode b_Trials_findGift 55 = .ok (.iload_n 1, 1) := by decide +kernel
theorem d_Trials_findGift_56 : decode b_Trials_findGift 56 = .ok (.iload_n 2, 1) := by decide +kernel
theorem d_Trials_findGift_57 : decode b_Trials_findGift 57 = .ok (.iconst 1, 1) := by decide +kernel
theorem d_Trials_findGift_58 : decode b_Trials_findGift 58 = .ok (.iload_n 3, 1) := by decide +kernel
theorem d_Trials_findGift_59 : decode b_Trials_findGift 59 = .ok (.ishl, 1) := by decide +kernel
theorem d_Trials_findGift_60 : decode b_Trials_findGift 60 = .ok (.ior, 1) := by decide +kernel
theorem d_Trials_findGift_61 : decode b_Trials_findGift 61 = .ok (.iastore, 1) := by decide +kernel
theorem d_Trials_findGift_62 : decode b_Trials_findGift 62 = .ok (.aload_n 0, 1) := by decide +kernel
theorem d_Trials_findGift_63 : decode b_Trials_findGift 63 = .ok (.getfield 15, 3) := by decide +kernel
theorem d_Trials_findGift_66 : decode b_Trials_findGift 66 = .ok (.invokevirtual 26, 3) := by decide +kernel
theorem d_Trials_findGift_69 : decode b_Trials_findGift 69 = .ok (.istore 4, 2) := by decide +kernel
theorem d_Trials_findGift_71 : decode b_Trials_findGift 71 = .ok (.iload 4, 2) := by decide +kernel
theorem d_Trials_findGift_73 : decode b_Trials_findGift 73 = .ok (.aload_n 0, 1) := by decide +kernel
theorem d_Trials_findGift_74 : decode b_Trials_findGift 74 = .ok (.getfield 23, 3) := by decide +kernel
theorem d_Trials_findGift_77 : decode b_Trials_findGift 77 = .ok (.if_icmp .le 19, 3) := by decide +kernel
theorem d_Trials_findGift_80 : decode b_Trials_findGift 80 = .ok (.aload_n 0, 1) := by decide +kernel
theorem d_Trials_findGift_81 : decode b_Trials_findGift 81 = .ok (.iload 4, 2) := by decide +kernel
theorem d_Trials_findGift_83 : decode b_Trials_findGift 83 = .ok (.putfield 23, 3) := by decide +kernel
theorem d_Trials_findGift_86 : decode b_Trials_findGift 86 = .ok (.aload_n 0, 1) := by decide +kernel
theorem d_Trials_findGift_87 : decode b_Trials_findGift 87 = .ok (.bipush 10, 2) := by decide +kernel
theorem d_Trials_findGift_89 : decode b_Trials_findGift 89 = .ok (.iload_n 1, 1) := by decide +kernel
theorem d_Trials_findGift_90 : decode b_Trials_findGift 90 = .ok (.imul, 1) := by decide +kernel
theorem d_Trials_findGift_91 : decode b_Trials_findGift 91 = .ok (.iload_n 3, 1) := by decide +kernel
theorem d_Trials_findGift_92 : decode b_Trials_findGift 92 = .ok (.iadd, 1) := by decide +kernel
theorem d_Trials_findGift_93 : decode b_Trials_findGift 93 = .ok (.putfield 19, 3) := by decide +kernel
theorem d_Trials_findGift_96 : decode b_Trials_findGift 96 = .ok (.iinc 3 1, 3) := by decide +kernel
theorem d_Trials_findGift_99 : decode b_Trials_findGift 99 = .ok (.goto (-57), 3) := by decide +kernel
theorem d_Trials_findGift_102 : decode b_Trials_findGift 102 = .ok (.aload_n 0, 1) := by decide +kernel
theorem d_Trials_findGift_103 : decode b_Trials_findGift 103 = .ok (.getfield 9, 3) := by decide +kernel
theorem d_Trials_findGift_106 : decode b_Trials_findGift 106 = .ok (.getfield 37, 3) := by decide +kernel
theorem d_Trials_findGift_109 : decode b_Trials_findGift 109 = .ok (.iload_n 1, 1) := by decide +kernel
theorem d_Trials_findGift_110 : decode b_Trials_findGift 110 = .ok (.iload_n 2, 1) := by decide +kernel
theorem d_Trials_findGift_111 : decode b_Trials_findGift 111 = .ok (.iastore, 1) := by decide +kernel
theorem d_Trials_findGift_112 : decode b_Trials_findGift 112 = .ok (.iinc 1 1, 3) := by decide +kernel
theorem d_Trials_findGift_115 : decode b_Trials_findGift 115 = .ok (.goto (-96), 3) := by decide +kernel
theorem d_Trials_findGift_118 : decode b_Trials_findGift 118 = .ok (.return_, 1) := by decide +kernel
set_option maxRecDepth 20000 in
theorem c_Trials_findGift {l : Launch} {g : GG} (hI : WI g) (M : Mem) (R : Mem → Prop) (h : wp_Trials_findGift  M R) : Met l y_Trials_findGift (wm y_Trials_findGift b_Trials_findGift 5 none) (RM 5 115) (PP g M [.ref (g.2.2.2 25)]) (PQ g (RV R)) 0 0 (AW g) := by
  refine m_of (own := N_Trials) (by decide) rfl (Nat.le_of_ble_eq_true rfl) ?_
  intro p e s m below meth c ls C hr hlocks hW hP hS hl
  obtain ⟨hx, hb, hml, hown, hts⟩ := id C
  have hl : lv_has ls 5 [(0, .ref (g.2.2.2 25))] := hl
  unfold wp_Trials_findGift at h
  obtain ⟨X19, eX19⟩ : ∃ X : Int32 → Mem → Prop, ∀ (x1 : Int32) (M : Mem), X x1 M ↔ (∀ (H : Heap) (locs : List Loc) (ls : Array Slot), WP g M H → va_S (AW g) s.heap H locs → lv_has ls 5 [(0, .ref (g.2.2.2 25)), (1, .int x1)] → W p l e (RM 5 115) s m ([.ref (g.2.2.2 25)] : List Value).toArray below meth c H locs 0 0 (MQ below (PQ g (RV R)) ([.ref (g.2.2.2 25)] : List Value).toArray s 0 0 (AW g)) (F0 m 19 ls [])) := ⟨fun x1 M => _, fun _ _ => Iff.rfl⟩
  obtain ⟨X42, eX42⟩ : ∃ X : Int32 → Int32 → Int32 → Mem → Prop, ∀ (x1 : Int32) (x2 : Int32) (x3 : Int32) (M : Mem), X x1 x2 x3 M ↔ (∀ (H : Heap) (locs : List Loc) (ls : Array Slot), WP g M H → va_S (AW g) s.heap H locs → lv_has ls 5 [(0, .ref (g.2.2.2 25)), (1, .int x1), (2, .int x2), (3, .int x3)] → W p l e (RM 5 115) s m ([.ref (g.2.2.2 25)] : List Value).toArray below meth c H locs 0 0 (MQ below (PQ g (RV R)) ([.ref (g.2.2.2 25)] : List Value).toArray s 0 0 (AW g)) (F0 m 42 ls [])) := ⟨fun x1 x2 x3 M => _, fun _ _ _ _ => Iff.rfl⟩
  have J96 : ∀ (x1 : Int32) (x2 : Int32) (x3 : Int32) (M : Mem), wp_Trials_findGift_96 X19 X42 R x1 x2 x3 M → ∀ (H : Heap) (locs : List Loc) (ls : Array Slot), WP g M H → va_S (AW g) s.heap H locs → lv_has ls 5 [(0, .ref (g.2.2.2 25)), (1, .int x1), (2, .int x2), (3, .int x3)] → W p l e (RM 5 115) s m ([.ref (g.2.2.2 25)] : List Value).toArray below meth c H locs 0 0 (MQ below (PQ g (RV R)) ([.ref (g.2.2.2 25)] : List Value).toArray s 0 0 (AW g)) (F0 m 96 ls []) := by
    intro x1 x2 x3 M hk H locs ls hP hS hl
    unfold wp_Trials_findGift_96 at hk
    obtain ⟨x3_15, ex3_15⟩ : ∃ y : Int32, y = x3 + (1 : Int32) := ⟨_, rfl⟩
    have hk := hk x3_15 ex3_15
    refine lv_iinc (v := x3_15) (lv' := [(3, .int x3_15), (0, .ref (g.2.2.2 25)), (1, .int x1), (2, .int x2)]) hx hb d_Trials_findGift_96 hl (k := 3) rfl (by rw [ex3_15]; rfl) (by decide) rfl (fun ls hl => ?_)
    refine lv_goto (tgt := 42) hx hb d_Trials_findGift_99 (by decide) ?_
    exact (eX42 x1 x2 x3_15 M).mp hk _ _ _ hP hS (lv_sub hl [1, 2, 3, 0] rfl)
  suffices hcl : (∀ (x1 : Int32) (M : Mem), wp_Trials_findGift_19 X19 X42 R x1 M → X19 x1 M) ∧ (∀ (x1 : Int32) (x2 : Int32) (x3 : Int32) (M : Mem), wp_Trials_findGift_42 X19 X42 R x1 x2 x3 M → X42 x1 x2 x3 M) by
    have hk := h X19 X42 (hcl.1) (hcl.2)
    refine lv_aload_n hx hb d_Trials_findGift_0 rfl (lv_at hl 0 rfl) ?_
    refine lv_bipush (v := -9) hx hb d_Trials_findGift_1 (by decide) ?_
    refine pf_25_2 hI C hW hP hS fl_Trials_19 d_Trials_findGift_3 (fun M16 eM16 H locs hP hS => ?_)
    have hk := hk M16 eM16
    refine lv_aload_n hx hb d_Trials_findGift_6 rfl (lv_at hl 0 rfl) ?_
    refine lv_aload_n hx hb d_Trials_findGift_7 rfl (lv_at hl 0 rfl) ?_
    refine gf_25_1 C hW hP fl_Trials_15 d_Trials_findGift_8 ?_
    refine r_runI (k_V (As := []) (rest := [.ref (g.2.2.2 25)]) C hW hP (c_Walk_goByNumbers hI M16 _ hk) cb_Walk_goByNumbers ml_Trials_26 (io_18 g M16) ⟨by decide, by decide⟩ rfl hl.1 rfl (Nat.le_of_ble_eq_true rfl) d_Trials_findGift_11 ⟨by decide, by decide⟩) hS (fun r18 M17 H locs hk hP hS => ?_)
    refine pf_25_3 hI C hW hP hS fl_Trials_23 d_Trials_findGift_14 (fun M19 eM19 H locs hP hS => ?_)
    have hk := hk M19 eM19
    refine lv_iconst (v := 0) hx hb d_Trials_findGift_17 (by decide) ?_
    refine lv_istore_n (lv' := [(1, .int (0 : Int32)), (0, .ref (g.2.2.2 25))]) hx hb d_Trials_findGift_18 rfl hl (by decide) rfl (fun ls hl => ?_)
    exact (eX19 (0 : Int32) M19).mp hk _ _ _ hP hS (lv_sub hl [1, 0] rfl)
  refine ⟨?_, ?_⟩
  · intro x1 M hk
    refine (eX19 x1 M).mpr ?_
    intro H locs ls hP hS hl
    unfold wp_Trials_findGift_19 at hk
    refine lv_iload_n hx hb d_Trials_findGift_19 rfl (lv_at hl 1 rfl) ?_
    refine lv_aload_n hx hb d_Trials_findGift_20 rfl (lv_at hl 0 rfl) ?_
    refine gf_25_0 C hW hP fl_Trials_9 d_Trials_findGift_21 ?_
    refine gf_12_6 C hW hP fl_Trials_32 d_Trials_findGift_24 ?_
    refine lv_icmp_ge (tgt := 118) hx hb d_Trials_findGift_27 (by decide) (fun c1 => ?_) (fun c1 => ?_)
    · have hk := hk.1 c1
      exact r_vret C hr hlocks hP hS hk d_Trials_findGift_118
    · have hk := hk.2 c1
      refine lv_aload_n hx hb d_Trials_findGift_30 rfl (lv_at hl 0 rfl) ?_
      refine gf_25_0 C hW hP fl_Trials_9 d_Trials_findGift_31 ?_
      refine gf_12_4 C hW hP fl_Trials_37 d_Trials_findGift_34 ?_
      refine lv_iload_n hx hb d_Trials_findGift_37 rfl (lv_at hl 1 rfl) ?_
      obtain ⟨h2, hk⟩ := hk
      refine al_17 C hW hP h2 d_Trials_findGift_38 ?_
      refine lv_topi (fun x2_3 ex2_3 => ?_)
      have hk := hk x2_3 ex2_3
      refine lv_istore_n (lv' := [(2, .int x2_3), (0, .ref (g.2.2.2 25)), (1, .int x1)]) hx hb d_Trials_findGift_39 rfl hl (by decide) rfl (fun ls hl => ?_)
      refine lv_iconst (v := 0) hx hb d_Trials_findGift_40 (by decide) ?_
      refine lv_istore_n (lv' := [(3, .int (0 : Int32)), (2, .int x2_3), (0, .ref (g.2.2.2 25)), (1, .int x1)]) hx hb d_Trials_findGift_41 rfl hl (by decide) rfl (fun ls hl => ?_)
      exact (eX42 x1 x2_3 (0 : Int32) M).mp hk _ _ _ hP hS (lv_sub hl [2, 3, 1, 0] rfl)
  · intro x1 x2 x3 M hk
    refine (eX42 x1 x2 x3 M).mpr ?_
    intro H locs ls hP hS hl
    unfold wp_Trials_findGift_42 at hk
    refine lv_iload_n hx hb d_Trials_findGift_42 rfl (lv_at hl 3 rfl) ?_
    refine lv_bipush (v := 6) hx hb d_Trials_findGift_43 (by decide) ?_
    refine lv_icmp_ge (tgt := 102) hx hb d_Trials_findGift_45 (by decide) (fun c4 => ?_) (fun c4 => ?_)
    · have hk := hk.1 c4
      refine lv_aload_n hx hb d_Trials_findGift_102 rfl (lv_at hl 0 rfl) ?_
      refine gf_25_0 C hW hP fl_Trials_9 d_Trials_findGift_103 ?_
      refine gf_12_4 C hW hP fl_Trials_37 d_Trials_findGift_106 ?_
      refine lv_iload_n hx hb d_Trials_findGift_109 rfl (lv_at hl 1 rfl) ?_
      refine lv_iload_n hx hb d_Trials_findGift_110 rfl (lv_at hl 2 rfl) ?_
      obtain ⟨h5, hk⟩ := hk
      refine as_17 hI C hW hP hS h5 d_Trials_findGift_111 (fun M6 eM6 H locs hP hS => ?_)
      have hk := hk M6 eM6
      obtain ⟨x1_7, ex1_7⟩ : ∃ y : Int32, y = x1 + (1 : Int32) := ⟨_, rfl⟩
      have hk := hk x1_7 ex1_7
      refine lv_iinc (v := x1_7) (lv' := [(1, .int x1_7), (0, .ref (g.2.2.2 25)), (2, .int x2), (3, .int x3)]) hx hb d_Trials_findGift_112 hl (k := 1) rfl (by rw [ex1_7]; rfl) (by decide) rfl (fun ls hl => ?_)
      refine lv_goto (tgt := 19) hx hb d_Trials_findGift_115 (by decide) ?_
      exact (eX19 x1_7 M6).mp hk _ _ _ hP hS (lv_sub hl [1, 0] rfl)
    · have hk := hk.2 c4
      refine lv_aload_n hx hb d_Trials_findGift_48 rfl (lv_at hl 0 rfl) ?_
      refine gf_25_0 C hW hP fl_Trials_9 d_Trials_findGift_49 ?_
      refine gf_12_4 C hW hP fl_Trials_37 d_Trials_findGift_52 ?_
      refine lv_iload_n hx hb d_Trials_findGift_55 rfl (lv_at hl 1 rfl) ?_
      refine lv_iload_n hx hb d_Trials_findGift_56 rfl (lv_at hl 2 rfl) ?_
      refine lv_iconst (v := 1) hx hb d_Trials_findGift_57 (by decide) ?_
      refine lv_iload_n hx hb d_Trials_findGift_58 rfl (lv_at hl 3 rfl) ?_
      refine lv_ishl hx hb d_Trials_findGift_59 ?_
      refine lv_ior hx hb d_Trials_findGift_60 ?_
      obtain ⟨h8, hk⟩ := hk
      refine as_17 hI C hW hP hS h8 d_Trials_findGift_61 (fun M9 eM9 H locs hP hS => ?_)
      have hk := hk M9 eM9
      refine lv_aload_n hx hb d_Trials_findGift_62 rfl (lv_at hl 0 rfl) ?_
      refine gf_25_1 C hW hP fl_Trials_15 d_Trials_findGift_63 ?_
      refine r_runI (k_V (As := []) (rest := []) C hW hP (c_Walk_goByNumbers hI M9 _ hk) cb_Walk_goByNumbers ml_Trials_26 (io_18 g M9) ⟨by decide, by decide⟩ rfl hl.1 rfl (Nat.le_of_ble_eq_true rfl) d_Trials_findGift_66 ⟨by decide, by decide⟩) hS (fun r11 M10 H locs hk hP hS => ?_)
      refine lv_istore (lv' := [(4, .int r11), (0, .ref (g.2.2.2 25)), (1, .int x1), (2, .int x2), (3, .int x3)]) hx hb d_Trials_findGift_69 hl (by decide) rfl (fun ls hl => ?_)
      refine lv_iload hx hb d_Trials_findGift_71 (lv_at hl 0 rfl) ?_
      refine lv_aload_n hx hb d_Trials_findGift_73 rfl (lv_at hl 1 rfl) ?_
      refine gf_25_3 C hW hP fl_Trials_23 d_Trials_findGift_74 ?_
      refine lv_icmp_le (tgt := 96) hx hb d_Trials_findGift_77 (by decide) (fun c12 => ?_) (fun c12 => ?_)
      · have hk := hk.1 c12
        exact J96 x1 x2 x3 M10 hk _ _ _ hP hS (lv_sub hl [1, 2, 3, 4] rfl)
      · have hk := hk.2 c12
        refine lv_aload_n hx hb d_Trials_findGift_80 rfl (lv_at hl 1 rfl) ?_
        refine lv_iload hx hb d_Trials_findGift_81 (lv_at hl 0 rfl) ?_
        refine pf_25_3 hI C hW hP hS fl_Trials_23 d_Trials_findGift_83 (fun M13 eM13 H locs hP hS => ?_)
        have hk := hk M13 eM13
        refine lv_aload_n hx hb d_Trials_findGift_86 rfl (lv_at hl 1 rfl) ?_
        refine lv_bipush (v := 10) hx hb d_Trials_findGift_87 (by decide) ?_
        refine lv_iload_n hx hb d_Trials_findGift_89 rfl (lv_at hl 2 rfl) ?_
        refine lv_imul hx hb d_Trials_findGift_90 ?_
        refine lv_iload_n hx hb d_Trials_findGift_91 rfl (lv_at hl 4 rfl) ?_
        refine lv_iadd hx hb d_Trials_findGift_92 ?_
        refine pf_25_2 hI C hW hP hS fl_Trials_19 d_Trials_findGift_93 (fun M14 eM14 H locs hP hS => ?_)
        have hk := hk M14 eM14
        exact J96 x1 x2 x3 M14 hk _ _ _ hP hS (lv_sub hl [1, 2, 3, 4] rfl)
theorem d_Main_gift_0 : decode b_Main_gift 0 = .ok (.iload_n 1, 1) := by decide +kernel
theorem d_Main_gift_1 : decode b_Main_gift 1 = .ok (.iconst 2, 1) := by decide +kernel
theorem d_Main_gift_2 : decode b_Main_gift 2 = .ok (.invokestatic 75, 3) := by decide +kernel
theorem d_Main_gift_5 : decode b_Main_gift 5 = .ok (.ifCond .ne 6, 3) := by decide +kernel
theorem d_Main_gift_8 : decode b_Main_gift 8 = .ok (.bipush (-2), 2) := by decide +kernel
theorem d_Main_gift_10 : decode b_Main_gift 10 = .ok (.ireturn, 1) := by decide +kernel
theorem d_Main_gift_11 : decode b_Main_gift 11 = .ok (.aload_n 0, 1) := by decide +kernel
theorem d_Main_gift_12 : decode b_Main_gift 12 = .ok (.getfield 28, 3) := by decide +kernel
theorem d_Main_gift_15 : decode b_Main_gift 15 = .ok (.invokevirtual 131, 3) := by decide +kernel
theorem d_Main_gift_18 : decode b_Main_gift 18 = .ok (.ifCond .ne 6, 3) := by decide +kernel
theorem d_Main_gift_21 : decode b_Main_gift 21 = .ok (.bipush (-3), 2) := by decide +kernel
theorem d_Main_gift_23 : decode b_Main_gift 23 = .ok (.ireturn, 1) := by decide +kernel
theorem d_Main_gift_24 : decode b_Main_gift 24 = .ok (.aload_n 0, 1) := by decide +kernel
theorem d_Main_gift_25 : decode b_Main_gift 25 = .ok (.getfield 53, 3) := by decide +kernel
theorem d_Main_gift_28 : decode b_Main_gift 28 = .ok (.invokevirtual 187, 3) := by decide +kernel
theorem d_Main_gift_31 : decode b_Main_gift 31 = .ok (.iload_n 1, 1) := by decide +kernel
theorem d_Main_gift_32 : decode b_Main_gift 32 = .ok (.ifCond .ne 13, 3) := by decide +kernel
theorem d_Main_gift_35 : decode b_Main_gift 35 = .ok (.aload_n 0, 1) := by decide +kernel
theorem d_Main_gift_36 : decode b_Main_gift 36 = .ok (.getfield 53, 3) := by decide +kernel
theorem d_Main_gift_39 : decode b_Main_gift 39 = .ok (.getfield 190, 3) := by decide +kernel
theorem d_Main_gift_42 : decode b_Main_gift 42 = .ok (.goto 10, 3) := by decide +kernel
theorem d_Main_gift_45 : decode b_Main_gift 45 = .ok (.aload_n 0, 1) := by decide +kernel
theorem d_Main_gift_46 : decode b_Main_gift 46 = .ok (.getfield 53, 3) := by decide +kernel
theorem d_Main_gift_49 : decode b_Main_gift 49 = .ok (.getfield 192, 3) := by decide +kernel
theorem d_Main_gift_52 : decode b_Main_gift 52 = .ok (.ireturn, 1) := by decide +kernel
set_option maxRecDepth 20000 in
theorem c_Main_gift {l : Launch} {g : GG} (hI : WI g) (a1 : Int32) (M : Mem) (R : Int32 → Mem → Prop) (h : wp_Main_gift a1 M R) : Met l y_Main_gift (wm y_Main_gift b_Main_gift 2 (some .int)) (RM 6 139) (PP g M [.ref (g.2.2.2 0), .int a1]) (PQ g (RI R)) 0 0 (AW g) := by
  refine m_of (own := N_Main) (by decide) rfl (Nat.le_of_ble_eq_true rfl) ?_
  intro p e s m below meth c ls C hr hlocks hW hP hS hl
  obtain ⟨hx, hb, hml, hown, hts⟩ := id C
  have hl : lv_has ls 2 [(0, .ref (g.2.2.2 0)), (1, .int a1)] := hl
  unfold wp_Main_gift at h
  have hk := h
  refine lv_iload_n hx hb d_Main_gift_0 rfl (lv_at hl 1 rfl) ?_
  refine lv_iconst (v := 2) hx hb d_Main_gift_1 (by decide) ?_
  refine r_runZ (k_S (As := [.int a1, .int (2 : Int32)]) (rest := []) C hW hP (c_Main_isBelow hI a1 (2 : Int32) M _ hk) cb_Main_isBelow ml_Main_75 ⟨by decide, by decide⟩ rfl hl.1 rfl (Nat.le_of_ble_eq_true rfl) d_Main_gift_2 ⟨by decide, by decide⟩) hS (fun r2 M1 H locs zr2 hk hP hS => ?_)
  refine lv_if_ne (tgt := 11) hx hb d_Main_gift_5 (by decide) (fun c3 => ?_) (fun c3 => ?_)
  · have hk := hk.1 c3
    refine lv_aload_n hx hb d_Main_gift_11 rfl (lv_at hl 0 rfl) ?_
    refine gf_0_2 C hW hP fl_Main_28 d_Main_gift_12 ?_
    refine r_runZ (k_V (As := []) (rest := []) C hW hP (c_Way_isTold hI M1 _ hk) cb_Way_isTold ml_Main_131 (io_12 g M1) ⟨by decide, by decide⟩ rfl hl.1 rfl (Nat.le_of_ble_eq_true rfl) d_Main_gift_15 ⟨by decide, by decide⟩) hS (fun r5 M4 H locs zr5 hk hP hS => ?_)
    refine lv_if_ne (tgt := 24) hx hb d_Main_gift_18 (by decide) (fun c6 => ?_) (fun c6 => ?_)
    · have hk := hk.1 c6
      refine lv_aload_n hx hb d_Main_gift_24 rfl (lv_at hl 0 rfl) ?_
      refine gf_0_5 C hW hP fl_Main_53 d_Main_gift_25 ?_
      refine r_runV (k_V (As := []) (rest := []) C hW hP (c_Trials_findGift hI M4 _ hk) cb_Trials_findGift ml_Main_187 (io_25 g M4) ⟨by decide, by decide⟩ rfl hl.1 rfl (Nat.le_of_ble_eq_true rfl) d_Main_gift_28 ⟨by decide, by decide⟩) hS (fun M7 H locs hk hP hS => ?_)
      refine lv_iload_n hx hb d_Main_gift_31 rfl (lv_at hl 1 rfl) ?_
      refine lv_if_ne (tgt := 45) hx hb d_Main_gift_32 (by decide) (fun c8 => ?_) (fun c8 => ?_)
      · have hk := hk.1 c8
        refine lv_aload_n hx hb d_Main_gift_45 rfl (lv_at hl 0 rfl) ?_
        refine gf_0_5 C hW hP fl_Main_53 d_Main_gift_46 ?_
        refine gf_25_3 C hW hP fl_Main_192 d_Main_gift_49 ?_
        exact r_iret C hr hlocks hP hS hk d_Main_gift_52
      · have hk := hk.2 c8
        refine lv_aload_n hx hb d_Main_gift_35 rfl (lv_at hl 0 rfl) ?_
        refine gf_0_5 C hW hP fl_Main_53 d_Main_gift_36 ?_
        refine gf_25_2 C hW hP fl_Main_190 d_Main_gift_39 ?_
        refine lv_goto (tgt := 52) hx hb d_Main_gift_42 (by decide) ?_
        exact r_iret C hr hlocks hP hS hk d_Main_gift_52
    · have hk := hk.2 c6
      refine lv_bipush (v := -3) hx hb d_Main_gift_21 (by decide) ?_
      exact r_iret C hr hlocks hP hS hk d_Main_gift_23
  · have hk := hk.2 c3
    refine lv_bipush (v := -2) hx hb d_Main_gift_8 (by decide) ?_
    exact r_iret C hr hlocks hP hS hk d_Main_gift_10
theorem d_Trials_findWorst_0 : decode b_Trials_findWorst 0 = .ok (.aload_n 0, 1) := by decide +kernel
theorem d_Trials_findWorst_1 : decode b_Trials_findWorst 1 = .ok (.bipush (-9), 2) := by decide +kernel
theorem d_Trials_findWorst_3 : decode b_Trials_findWorst 3 = .ok (.putfield 19, 3) := by decide +kernel
theorem d_Trials_findWorst_6 : decode b_Trials_findWorst 6 = .ok (.aload_n 0, 1) := by decide +kernel
theorem d_Trials_findWorst_7 : decode b_Trials_findWorst 7 = .ok (.bipush 6, 2) := by decide +kernel
theorem d_Trials_findWorst_9 : decode b_Trials_findWorst 9 = .ok (.putfield 23, 3) := by decide +kernel
theorem d_Trials_findWorst_12 : decode b_Trials_findWorst 12 = .ok (.iconst 0, 1) := by decide +kernel
theorem d_Trials_findWorst_13 : decode b_Trials_findWorst 13 = .ok (.istore_n 1, 1) := by decide +kernel
theorem d_Trials_findWorst_14 : decode b_Trials_findWorst 14 = .ok (.iload_n 1, 1) := by decide +kernel
theorem d_Trials_findWorst_15 : decode b_Trials_findWorst 15 = .ok (.bipush 6, 2) := by decide +kernel
theorem d_Trials_findWorst_17 : decode b_Trials_findWorst 17 = .ok (.if_icmp .ge 43, 3) := by decide +kernel
theorem d_Trials_findWorst_20 : decode b_Trials_findWorst 20 = .ok (.aload_n 0, 1) := by decide +kernel
theorem d_Trials_findWorst_21 : decode b_Trials_findWorst 21 = .ok (.getfield 9, 3) := by decide +kernel
theorem d_Trials_findWorst_24 : decode b_Trials_findWorst 24 = .ok (.iload_n 1, 1) := by decide +kernel
theorem d_Trials_findWorst_25 : decode b_Trials_findWorst 25 = .ok (.putfield 41, 3) := by decide +kernel
theorem d_Trials_findWorst_28 : decode b_Trials_findWorst 28 = .ok (.aload_n 0, 1) := by decide +kernel
theorem d_Trials_findWorst_29 : decode b_Trials_findWorst 29 = .ok (.getfield 15, 3) := by decide +kernel
theorem d_Trials_findWorst_32 : decode b_Trials_findWorst 32 = .ok (.invokevirtual 26, 3) := by decide +kernel
theorem d_Trials_findWorst_35 : decode b_Trials_findWorst 35 = .ok (.istore_n 2, 1) := by decide +kernel
theorem d_Trials_findWorst_36 : decode b_Trials_findWorst 36 = .ok (.iload_n 2, 1) := by decide +kernel
theorem d_Trials_findWorst_37 : decode b_Trials_findWorst 37 = .ok (.aload_n 0, 1) := by decide +kernel
theorem d_Trials_findWorst_38 : decode b_Trials_findWorst 38 = .ok (.getfield 23, 3) := by decide +kernel
theorem d_Trials_findWorst_41 : decode b_Trials_findWorst 41 = .ok (.if_icmp .ge 13, 3) := by decide +kernel
theorem d_Trials_findWorst_44 : decode b_Trials_findWorst 44 = .ok (.aload_n 0, 1) := by decide +kernel
theorem d_Trials_findWorst_45 : decode b_Trials_findWorst 45 = .ok (.iload_n 2, 1) := by decide +kernel
theorem d_Trials_findWorst_46 : decode b_Trials_findWorst 46 = .ok (.putfield 23, 3) := by decide +kernel
theorem d_Trials_findWorst_49 : decode b_Trials_findWorst 49 = .ok (.aload_n 0, 1) := by decide +kernel
theorem d_Trials_findWorst_50 : decode b_Trials_findWorst 50 = .ok (.iload_n 1, 1) := by decide +kernel
theorem d_Trials_findWorst_51 : decode b_Trials_findWorst 51 = .ok (.putfield 19, 3) := by decide +kernel
theorem d_Trials_findWorst_54 : decode b_Trials_findWorst 54 = .ok (.iinc 1 1, 3) := by decide +kernel
theorem d_Trials_findWorst_57 : decode b_Trials_findWorst 57 = .ok (.goto (-43), 3) := by decide +kernel
theorem d_Trials_findWorst_60 : decode b_Trials_findWorst 60 = .ok (.aload_n 0, 1) := by decide +kernel
theorem d_Trials_findWorst_61 : decode b_Trials_findWorst 61 = .ok (.getfield 9, 3) := by decide +kernel
theorem d_Trials_findWorst_64 : decode b_Trials_findWorst 64 = .ok (.bipush 6, 2) := by decide +kernel
theorem d_Trials_findWorst_66 : decode b_Trials_findWorst 66 = .ok (.putfield 41, 3) := by decide +kernel
theorem d_Trials_findWorst_69 : decode b_Trials_findWorst 69 = .ok (.return_, 1) := by decide +kernel
set_option maxRecDepth 20000 in
theorem c_Trials_findWorst {l : Launch} {g : GG} (hI : WI g) (M : Mem) (R : Mem → Prop) (h : wp_Trials_findWorst  M R) : Met l y_Trials_findWorst (wm y_Trials_findWorst b_Trials_findWorst 3 none) (RM 5 115) (PP g M [.ref (g.2.2.2 25)]) (PQ g (RV R)) 0 0 (AW g) := by
  refine m_of (own := N_Trials) (by decide) rfl (Nat.le_of_ble_eq_true rfl) ?_
  intro p e s m below meth c ls C hr hlocks hW hP hS hl
  obtain ⟨hx, hb, hml, hown, hts⟩ := id C
  have hl : lv_has ls 3 [(0, .ref (g.2.2.2 25))] := hl
  unfold wp_Trials_findWorst at h
  obtain ⟨X14, eX14⟩ : ∃ X : Int32 → Mem → Prop, ∀ (x1 : Int32) (M : Mem), X x1 M ↔ (∀ (H : Heap) (locs : List Loc) (ls : Array Slot), WP g M H → va_S (AW g) s.heap H locs → lv_has ls 3 [(0, .ref (g.2.2.2 25)), (1, .int x1)] → W p l e (RM 5 115) s m ([.ref (g.2.2.2 25)] : List Value).toArray below meth c H locs 0 0 (MQ below (PQ g (RV R)) ([.ref (g.2.2.2 25)] : List Value).toArray s 0 0 (AW g)) (F0 m 14 ls [])) := ⟨fun x1 M => _, fun _ _ => Iff.rfl⟩
  have J54 : ∀ (x1 : Int32) (M : Mem), wp_Trials_findWorst_54 X14 R x1 M → ∀ (H : Heap) (locs : List Loc) (ls : Array Slot), WP g M H → va_S (AW g) s.heap H locs → lv_has ls 3 [(0, .ref (g.2.2.2 25)), (1, .int x1)] → W p l e (RM 5 115) s m ([.ref (g.2.2.2 25)] : List Value).toArray below meth c H locs 0 0 (MQ below (PQ g (RV R)) ([.ref (g.2.2.2 25)] : List Value).toArray s 0 0 (AW g)) (F0 m 54 ls []) := by
    intro x1 M hk H locs ls hP hS hl
    unfold wp_Trials_findWorst_54 at hk
    obtain ⟨x1_9, ex1_9⟩ : ∃ y : Int32, y = x1 + (1 : Int32) := ⟨_, rfl⟩
    have hk := hk x1_9 ex1_9
    refine lv_iinc (v := x1_9) (lv' := [(1, .int x1_9), (0, .ref (g.2.2.2 25))]) hx hb d_Trials_findWorst_54 hl (k := 1) rfl (by rw [ex1_9]; rfl) (by decide) rfl (fun ls hl => ?_)
    refine lv_goto (tgt := 14) hx hb d_Trials_findWorst_57 (by decide) ?_
    exact (eX14 x1_9 M).mp hk _ _ _ hP hS (lv_sub hl [1, 0] rfl)
  suffices hcl : (∀ (x1 : Int32) (M : Mem), wp_Trials_findWorst_14 X14 R x1 M → X14 x1 M) by
    have hk := h X14 hcl
    refine lv_aload_n hx hb d_Trials_findWorst_0 rfl (lv_at hl 0 rfl) ?_
    refine lv_bipush (v := -9) hx hb d_Trials_findWorst_1 (by decide) ?_
    refine pf_25_2 hI C hW hP hS fl_Trials_19 d_Trials_findWorst_3 (fun M10 eM10 H locs hP hS => ?_)
    have hk := hk M10 eM10
    refine lv_aload_n hx hb d_Trials_findWorst_6 rfl (lv_at hl 0 rfl) ?_
    refine lv_bipush (v := 6) hx hb d_Trials_findWorst_7 (by decide) ?_
    refine pf_25_3 hI C hW hP hS fl_Trials_23 d_Trials_findWorst_9 (fun M11 eM11 H locs hP hS => ?_)
    have hk := hk M11 eM11
    refine lv_iconst (v := 0) hx hb d_Trials_findWorst_12 (by decide) ?_
    refine lv_istore_n (lv' := [(1, .int (0 : Int32)), (0, .ref (g.2.2.2 25))]) hx hb d_Trials_findWorst_13 rfl hl (by decide) rfl (fun ls hl => ?_)
    exact (eX14 (0 : Int32) M11).mp hk _ _ _ hP hS (lv_sub hl [1, 0] rfl)
  · intro x1 M hk
    refine (eX14 x1 M).mpr ?_
    intro H locs ls hP hS hl
    unfold wp_Trials_findWorst_14 at hk
    refine lv_iload_n hx hb d_Trials_findWorst_14 rfl (lv_at hl 1 rfl) ?_
    refine lv_bipush (v := 6) hx hb d_Trials_findWorst_15 (by decide) ?_
    refine lv_icmp_ge (tgt := 60) hx hb d_Trials_findWorst_17 (by decide) (fun c1 => ?_) (fun c1 => ?_)
    · have hk := hk.1 c1
      refine lv_aload_n hx hb d_Trials_findWorst_60 rfl (lv_at hl 0 rfl) ?_
      refine gf_25_0 C hW hP fl_Trials_9 d_Trials_findWorst_61 ?_
      refine lv_bipush (v := 6) hx hb d_Trials_findWorst_64 (by decide) ?_
      refine pf_12_7 hI C hW hP hS fl_Trials_41 d_Trials_findWorst_66 (fun M2 eM2 H locs hP hS => ?_)
      have hk := hk M2 eM2
      exact r_vret C hr hlocks hP hS hk d_Trials_findWorst_69
    · have hk := hk.2 c1
      refine lv_aload_n hx hb d_Trials_findWorst_20 rfl (lv_at hl 0 rfl) ?_
      refine gf_25_0 C hW hP fl_Trials_9 d_Trials_findWorst_21 ?_
      refine lv_iload_n hx hb d_Trials_findWorst_24 rfl (lv_at hl 1 rfl) ?_
      refine pf_12_7 hI C hW hP hS fl_Trials_41 d_Trials_findWorst_25 (fun M3 eM3 H locs hP hS => ?_)
      have hk := hk M3 eM3
      refine lv_aload_n hx hb d_Trials_findWorst_28 rfl (lv_at hl 0 rfl) ?_
      refine gf_25_1 C hW hP fl_Trials_15 d_Trials_findWorst_29 ?_
      refine r_runI (k_V (As := []) (rest := []) C hW hP (c_Walk_goByNumbers hI M3 _ hk) cb_Walk_goByNumbers ml_Trials_26 (io_18 g M3) ⟨by decide, by decide⟩ rfl hl.1 rfl (Nat.le_of_ble_eq_true rfl) d_Trials_findWorst_32 ⟨by decide, by decide⟩) hS (fun r5 M4 H locs hk hP hS => ?_)
      refine lv_istore_n (lv' := [(2, .int r5), (0, .ref (g.2.2.2 25)), (1, .int x1)]) hx hb d_Trials_findWorst_35 rfl hl (by decide) rfl (fun ls hl => ?_)
      refine lv_iload_n hx hb d_Trials_findWorst_36 rfl (lv_at hl 0 rfl) ?_
      refine lv_aload_n hx hb d_Trials_findWorst_37 rfl (lv_at hl 1 rfl) ?_
      refine gf_25_3 C hW hP fl_Trials_23 d_Trials_findWorst_38 ?_
      refine lv_icmp_ge (tgt := 54) hx hb d_Trials_findWorst_41 (by decide) (fun c6 => ?_) (fun c6 => ?_)
      · have hk := hk.1 c6
        exact J54 x1 M4 hk _ _ _ hP hS (lv_sub hl [1, 2] rfl)
      · have hk := hk.2 c6
        refine lv_aload_n hx hb d_Trials_findWorst_44 rfl (lv_at hl 1 rfl) ?_
        refine lv_iload_n hx hb d_Trials_findWorst_45 rfl (lv_at hl 0 rfl) ?_
        refine pf_25_3 hI C hW hP hS fl_Trials_23 d_Trials_findWorst_46 (fun M7 eM7 H locs hP hS => ?_)
        have hk := hk M7 eM7
        refine lv_aload_n hx hb d_Trials_findWorst_49 rfl (lv_at hl 1 rfl) ?_
        refine lv_iload_n hx hb d_Trials_findWorst_50 rfl (lv_at hl 2 rfl) ?_
        refine pf_25_2 hI C hW hP hS fl_Trials_19 d_Trials_findWorst_51 (fun M8 eM8 H locs hP hS => ?_)
        have hk := hk M8 eM8
        exact J54 x1 M8 hk _ _ _ hP hS (lv_sub hl [1, 2] rfl)
theorem d_Main_worst_0 : decode b_Main_worst 0 = .ok (.iload_n 1, 1) := by decide +kernel
theorem d_Main_worst_1 : decode b_Main_worst 1 = .ok (.iconst 2, 1) := by decide +kernel
theorem d_Main_worst_2 : decode b_Main_worst 2 = .ok (.invokestatic 75, 3) := by decide +kernel
theorem d_Main_worst_5 : decode b_Main_worst 5 = .ok (.ifCond .ne 6, 3) := by decide +kernel
theorem d_Main_worst_8 : decode b_Main_worst 8 = .ok (.bipush (-2), 2) := by decide +kernel
theorem d_Main_worst_10 : decode b_Main_worst 10 = .ok (.ireturn, 1) := by decide +kernel
theorem d_Main_worst_11 : decode b_Main_worst 11 = .ok (.aload_n 0, 1) := by decide +kernel
theorem d_Main_worst_12 : decode b_Main_worst 12 = .ok (.getfield 28, 3) := by decide +kernel
theorem d_Main_worst_15 : decode b_Main_worst 15 = .ok (.invokevirtual 131, 3) := by decide +kernel
theorem d_Main_worst_18 : decode b_Main_worst 18 = .ok (.ifCond .ne 6, 3) := by decide +kernel
theorem d_Main_worst_21 : decode b_Main_worst 21 = .ok (.bipush (-3), 2) := by decide +kernel
theorem d_Main_worst_23 : decode b_Main_worst 23 = .ok (.ireturn, 1) := by decide +kernel
theorem d_Main_worst_24 : decode b_Main_worst 24 = .ok (.aload_n 0, 1) := by decide +kernel
theorem d_Main_worst_25 : decode b_Main_worst 25 = .ok (.getfield 53, 3) := by decide +kernel
theorem d_Main_worst_28 : decode b_Main_worst 28 = .ok (.invokevirtual 195, 3) := by decide +kernel
theorem d_Main_worst_31 : decode b_Main_worst 31 = .ok (.iload_n 1, 1) := by decide +kernel
theorem d_Main_worst_32 : decode b_Main_worst 32 = .ok (.ifCond .ne 13, 3) := by decide +kernel
theorem d_Main_worst_35 : decode b_Main_worst 35 = .ok (.aload_n 0, 1) := by decide +kernel
theorem d_Main_worst_36 : decode b_Main_worst 36 = .ok (.getfield 53, 3) := by decide +kernel
theorem d_Main_worst_39 : decode b_Main_worst 39 = .ok (.getfield 190, 3) := by decide +kernel
theorem d_Main_worst_42 : decode b_Main_worst 42 = .ok (.goto 10, 3) := by decide +kernel
theorem d_Main_worst_45 : decode b_Main_worst 45 = .ok (.aload_n 0, 1) := by decide +kernel
theorem d_Main_worst_46 : decode b_Main_worst 46 = .ok (.getfield 53, 3) := by decide +kernel
theorem d_Main_worst_49 : decode b_Main_worst 49 = .ok (.getfield 192, 3) := by decide +kernel
theorem d_Main_worst_52 : decode b_Main_worst 52 = .ok (.ireturn, 1) := by decide +kernel
set_option maxRecDepth 20000 in
theorem c_Main_worst {l : Launch} {g : GG} (hI : WI g) (a1 : Int32) (M : Mem) (R : Int32 → Mem → Prop) (h : wp_Main_worst a1 M R) : Met l y_Main_worst (wm y_Main_worst b_Main_worst 2 (some .int)) (RM 6 137) (PP g M [.ref (g.2.2.2 0), .int a1]) (PQ g (RI R)) 0 0 (AW g) := by
  refine m_of (own := N_Main) (by decide) rfl (Nat.le_of_ble_eq_true rfl) ?_
  intro p e s m below meth c ls C hr hlocks hW hP hS hl
  obtain ⟨hx, hb, hml, hown, hts⟩ := id C
  have hl : lv_has ls 2 [(0, .ref (g.2.2.2 0)), (1, .int a1)] := hl
  unfold wp_Main_worst at h
  have hk := h
  refine lv_iload_n hx hb d_Main_worst_0 rfl (lv_at hl 1 rfl) ?_
  refine lv_iconst (v := 2) hx hb d_Main_worst_1 (by decide) ?_
  refine r_runZ (k_S (As := [.int a1, .int (2 : Int32)]) (rest := []) C hW hP (c_Main_isBelow hI a1 (2 : Int32) M _ hk) cb_Main_isBelow ml_Main_75 ⟨by decide, by decide⟩ rfl hl.1 rfl (Nat.le_of_ble_eq_true rfl) d_Main_worst_2 ⟨by decide, by decide⟩) hS (fun r2 M1 H locs zr2 hk hP hS => ?_)
  refine lv_if_ne (tgt := 11) hx hb d_Main_worst_5 (by decide) (fun c3 => ?_) (fun c3 => ?_)
  · have hk := hk.1 c3
    refine lv_aload_n hx hb d_Main_worst_11 rfl (lv_at hl 0 rfl) ?_
    refine gf_0_2 C hW hP fl_Main_28 d_Main_worst_12 ?_
    refine r_runZ (k_V (As := []) (rest := []) C hW hP (c_Way_isTold hI M1 _ hk) cb_Way_isTold ml_Main_131 (io_12 g M1) ⟨by decide, by decide⟩ rfl hl.1 rfl (Nat.le_of_ble_eq_true rfl) d_Main_worst_15 ⟨by decide, by decide⟩) hS (fun r5 M4 H locs zr5 hk hP hS => ?_)
    refine lv_if_ne (tgt := 24) hx hb d_Main_worst_18 (by decide) (fun c6 => ?_) (fun c6 => ?_)
    · have hk := hk.1 c6
      refine lv_aload_n hx hb d_Main_worst_24 rfl (lv_at hl 0 rfl) ?_
      refine gf_0_5 C hW hP fl_Main_53 d_Main_worst_25 ?_
      refine r_runV (k_V (As := []) (rest := []) C hW hP (c_Trials_findWorst hI M4 _ hk) cb_Trials_findWorst ml_Main_195 (io_25 g M4) ⟨by decide, by decide⟩ rfl hl.1 rfl (Nat.le_of_ble_eq_true rfl) d_Main_worst_28 ⟨by decide, by decide⟩) hS (fun M7 H locs hk hP hS => ?_)
      refine lv_iload_n hx hb d_Main_worst_31 rfl (lv_at hl 1 rfl) ?_
      refine lv_if_ne (tgt := 45) hx hb d_Main_worst_32 (by decide) (fun c8 => ?_) (fun c8 => ?_)
      · have hk := hk.1 c8
        refine lv_aload_n hx hb d_Main_worst_45 rfl (lv_at hl 0 rfl) ?_
        refine gf_0_5 C hW hP fl_Main_53 d_Main_worst_46 ?_
        refine gf_25_3 C hW hP fl_Main_192 d_Main_worst_49 ?_
        exact r_iret C hr hlocks hP hS hk d_Main_worst_52
      · have hk := hk.2 c8
        refine lv_aload_n hx hb d_Main_worst_35 rfl (lv_at hl 0 rfl) ?_
        refine gf_0_5 C hW hP fl_Main_53 d_Main_worst_36 ?_
        refine gf_25_2 C hW hP fl_Main_190 d_Main_worst_39 ?_
        refine lv_goto (tgt := 52) hx hb d_Main_worst_42 (by decide) ?_
        exact r_iret C hr hlocks hP hS hk d_Main_worst_52
    · have hk := hk.2 c6
      refine lv_bipush (v := -3) hx hb d_Main_worst_21 (by decide) ?_
      exact r_iret C hr hlocks hP hS hk d_Main_worst_23
  · have hk := hk.2 c3
    refine lv_bipush (v := -2) hx hb d_Main_worst_8 (by decide) ?_
    exact r_iret C hr hlocks hP hS hk d_Main_worst_10
theorem d_Readings_isFull_0 : decode b_Readings_isFull 0 = .ok (.aload_n 0, 1) := by decide +kernel
theorem d_Readings_isFull_1 : decode b_Readings_isFull 1 = .ok (.getfield 26, 3) := by decide +kernel
theorem d_Readings_isFull_4 : decode b_Readings_isFull 4 = .ok (.bipush 8, 2) := by decide +kernel
theorem d_Readings_isFull_6 : decode b_Readings_isFull 6 = .ok (.if_icmp .lt 7, 3) := by decide +kernel
theorem d_Readings_isFull_9 : decode b_Readings_isFull 9 = .ok (.iconst 1, 1) := by decide +kernel
theorem d_Readings_isFull_10 : decode b_Readings_isFull 10 = .ok (.goto 4, 3) := by decide +kernel
theorem d_Readings_isFull_13 : decode b_Readings_isFull 13 = .ok (.iconst 0, 1) := by decide +kernel
theorem d_Readings_isFull_14 : decode b_Readings_isFull 14 = .ok (.ireturn, 1) := by decide +kernel
set_option maxRecDepth 20000 in
theorem c_Readings_isFull {l : Launch} {g : GG} (hI : WI g) (M : Mem) (R : Int32 → Mem → Prop) (h : wp_Readings_isFull  M R) : Met l y_Readings_isFull (wm y_Readings_isFull b_Readings_isFull 1 (some .boolean)) (RM 0 0) (PP g M [.ref (g.2.2.2 26)]) (PQ g (RZ R)) 0 0 (AW g) := by
  refine m_of (own := N_Readings) (by decide) rfl (Nat.le_of_ble_eq_true rfl) ?_
  intro p e s m below meth c ls C hr hlocks hW hP hS hl
  obtain ⟨hx, hb, hml, hown, hts⟩ := id C
  have hl : lv_has ls 1 [(0, .ref (g.2.2.2 26))] := hl
  unfold wp_Readings_isFull at h
  have hk := h
  refine lv_aload_n hx hb d_Readings_isFull_0 rfl (lv_at hl 0 rfl) ?_
  refine gf_26_4 C hW hP fl_Readings_26 d_Readings_isFull_1 ?_
  refine lv_bipush (v := 8) hx hb d_Readings_isFull_4 (by decide) ?_
  refine lv_icmp_lt (tgt := 13) hx hb d_Readings_isFull_6 (by decide) (fun c1 => ?_) (fun c1 => ?_)
  · have hk := hk.1 c1
    refine lv_iconst (v := 0) hx hb d_Readings_isFull_13 (by decide) ?_
    exact r_zret rfl C hr hlocks hP hS hk d_Readings_isFull_14
  · have hk := hk.2 c1
    refine lv_iconst (v := 1) hx hb d_Readings_isFull_9 (by decide) ?_
    refine lv_goto (tgt := 14) hx hb d_Readings_isFull_10 (by decide) ?_
    exact r_zret rfl C hr hlocks hP hS hk d_Readings_isFull_14
theorem d_Readings_add_0 : decode b_Readings_add 0 = .ok (.aload_n 0, 1) := by decide +kernel
theorem d_Readings_add_1 : decode b_Readings_add 1 = .ok (.getfield 19, 3) := by decide +kernel
theorem d_Readings_add_4 : decode b_Readings_add 4 = .ok (.aload_n 0, 1) := by decide +kernel
theorem d_Readings_add_5 : decode b_Readings_add 5 = .ok (.getfield 26, 3) := by decide +kernel
theorem d_Readings_add_8 : decode b_Readings_add 8 = .ok (.iload_n 1, 1) := by decide +kernel
theorem d_Readings_add_9 : decode b_Readings_add 9 = .ok (.iastore, 1) := by decide +kernel
theorem d_Readings_add_10 : decode b_Readings_add 10 = .ok (.aload_n 0, 1) := by decide +kernel
theorem d_Readings_add_11 : decode b_Readings_add 11 = .ok (.getfield 23, 3) := by decide +kernel
theorem d_Readings_add_14 : decode b_Readings_add 14 = .ok (.aload_n 0, 1) := by decide +kernel
theorem d_Readings_add_15 : decode b_Readings_add 15 = .ok (.getfield 26, 3) := by decide +kernel
theorem d_Readings_add_18 : decode b_Readings_add 18 = .ok (.iload_n 2, 1) := by decide +kernel
theorem d_Readings_add_19 : decode b_Readings_add 19 = .ok (.iastore, 1) := by decide +kernel
theorem d_Readings_add_20 : decode b_Readings_add 20 = .ok (.aload_n 0, 1) := by decide +kernel
theorem d_Readings_add_21 : decode b_Readings_add 21 = .ok (.dup, 1) := by decide +kernel
theorem d_Readings_add_22 : decode b_Readings_add 22 = .ok (.getfield 26, 3) := by decide +kernel
theorem d_Readings_add_25 : decode b_Readings_add 25 = .ok (.iconst 1, 1) := by decide +kernel
theorem d_Readings_add_26 : decode b_Readings_add 26 = .ok (.iadd, 1) := by decide +kernel
theorem d_Readings_add_27 : decode b_Readings_add 27 = .ok (.putfield 26, 3) := by decide +kernel
theorem d_Readings_add_30 : decode b_Readings_add 30 = .ok (.aload_n 0, 1) := by decide +kernel
theorem d_Readings_add_31 : decode b_Readings_add 31 = .ok (.getfield 26, 3) := by decide +kernel
theorem d_Readings_add_34 : decode b_Readings_add 34 = .ok (.iconst 1, 1) := by decide +kernel
theorem d_Readings_add_35 : decode b_Readings_add 35 = .ok (.isub, 1) := by decide +kernel
theorem d_Readings_add_36 : decode b_Readings_add 36 = .ok (.ireturn, 1) := by decide +kernel
set_option maxRecDepth 20000 in
theorem c_Readings_add {l : Launch} {g : GG} (hI : WI g) (a1 : Int32) (a2 : Int32) (M : Mem) (R : Int32 → Mem → Prop) (h : wp_Readings_add a1 a2 M R) : Met l y_Readings_add (wm y_Readings_add b_Readings_add 3 (some .int)) (RM 0 0) (PP g M [.ref (g.2.2.2 26), .int a1, .int a2]) (PQ g (RI R)) 0 0 (AW g) := by
  refine m_of (own := N_Readings) (by decide) rfl (Nat.le_of_ble_eq_true rfl) ?_
  intro p e s m below meth c ls C hr hlocks hW hP hS hl
  obtain ⟨hx, hb, hml, hown, hts⟩ := id C
  have hl : lv_has ls 3 [(0, .ref (g.2.2.2 26)), (1, .int a1), (2, .int a2)] := hl
  unfold wp_Readings_add at h
  have hk := h
  refine lv_aload_n hx hb d_Readings_add_0 rfl (lv_at hl 0 rfl) ?_
  refine gf_26_2 C hW hP fl_Readings_19 d_Readings_add_1 ?_
  refine lv_aload_n hx hb d_Readings_add_4 rfl (lv_at hl 0 rfl) ?_
  refine gf_26_4 C hW hP fl_Readings_26 d_Readings_add_5 ?_
  refine lv_iload_n hx hb d_Readings_add_8 rfl (lv_at hl 1 rfl) ?_
  obtain ⟨h1, hk⟩ := hk
  refine as_27 hI C hW hP hS h1 d_Readings_add_9 (fun M2 eM2 H locs hP hS => ?_)
  have hk := hk M2 eM2
  refine lv_aload_n hx hb d_Readings_add_10 rfl (lv_at hl 0 rfl) ?_
  refine gf_26_3 C hW hP fl_Readings_23 d_Readings_add_11 ?_
  refine lv_aload_n hx hb d_Readings_add_14 rfl (lv_at hl 0 rfl) ?_
  refine gf_26_4 C hW hP fl_Readings_26 d_Readings_add_15 ?_
  refine lv_iload_n hx hb d_Readings_add_18 rfl (lv_at hl 2 rfl) ?_
  obtain ⟨h3, hk⟩ := hk
  refine as_28 hI C hW hP hS h3 d_Readings_add_19 (fun M4 eM4 H locs hP hS => ?_)
  have hk := hk M4 eM4
  refine lv_aload_n hx hb d_Readings_add_20 rfl (lv_at hl 0 rfl) ?_
  refine lv_dup hx hb d_Readings_add_21 rfl ?_
  refine gf_26_4 C hW hP fl_Readings_26 d_Readings_add_22 ?_
  refine lv_iconst (v := 1) hx hb d_Readings_add_25 (by decide) ?_
  refine lv_iadd hx hb d_Readings_add_26 ?_
  refine pf_26_4 hI C hW hP hS fl_Readings_26 d_Readings_add_27 (fun M5 eM5 H locs hP hS => ?_)
  have hk := hk M5 eM5
  refine lv_aload_n hx hb d_Readings_add_30 rfl (lv_at hl 0 rfl) ?_
  refine gf_26_4 C hW hP fl_Readings_26 d_Readings_add_31 ?_
  refine lv_iconst (v := 1) hx hb d_Readings_add_34 (by decide) ?_
  refine lv_isub hx hb d_Readings_add_35 ?_
  exact r_iret C hr hlocks hP hS hk d_Readings_add_36
theorem d_Main_reading_0 : decode b_Main_reading 0 = .ok (.aload_n 0, 1) := by decide +kernel
theorem d_Main_reading_1 : decode b_Main_reading 1 = .ok (.getfield 28, 3) := by decide +kernel
theorem d_Main_reading_4 : decode b_Main_reading 4 = .ok (.iload_n 1, 1) := by decide +kernel
theorem d_Main_reading_5 : decode b_Main_reading 5 = .ok (.invokevirtual 122, 3) := by decide +kernel
theorem d_Main_reading_8 : decode b_Main_reading 8 = .ok (.ifCond .eq 20, 3) := by decide +kernel
theorem d_Main_reading_11 : decode b_Main_reading 11 = .ok (.iload_n 2, 1) := by decide +kernel
theorem d_Main_reading_12 : decode b_Main_reading 12 = .ok (.bipush (-9), 2) := by decide +kernel
theorem d_Main_reading_14 : decode b_Main_reading 14 = .ok (.if_icmp .eq 16, 3) := by decide +kernel
theorem d_Main_reading_17 : decode b_Main_reading 17 = .ok (.aload_n 0, 1) := by decide +kernel
theorem d_Main_reading_18 : decode b_Main_reading 18 = .ok (.getfield 28, 3) := by decide +kernel
theorem d_Main_reading_21 : decode b_Main_reading 21 = .ok (.iload_n 2, 1) := by decide +kernel
theorem d_Main_reading_22 : decode b_Main_reading 22 = .ok (.invokevirtual 105, 3) := by decide +kernel
theorem d_Main_reading_25 : decode b_Main_reading 25 = .ok (.ifCond .ne 5, 3) := by decide +kernel
theorem d_Main_reading_28 : decode b_Main_reading 28 = .ok (.iconst (-1), 1) := by decide +kernel
theorem d_Main_reading_29 : decode b_Main_reading 29 = .ok (.ireturn, 1) := by decide +kernel
theorem d_Main_reading_30 : decode b_Main_reading 30 = .ok (.aload_n 0, 1) := by decide +kernel
theorem d_Main_reading_31 : decode b_Main_reading 31 = .ok (.getfield 60, 3) := by decide +kernel
theorem d_Main_reading_34 : decode b_Main_reading 34 = .ok (.invokevirtual 198, 3) := by decide +kernel
theorem d_Main_reading_37 : decode b_Main_reading 37 = .ok (.ifCond .eq 8, 3) := by decide +kernel
theorem d_Main_reading_40 : decode b_Main_reading 40 = .ok (.bipush (-4), 2) := by decide +kernel
theorem d_Main_reading_42 : decode b_Main_reading 42 = .ok (.goto 12, 3) := by decide +kernel
theorem d_Main_reading_45 : decode b_Main_reading 45 = .ok (.aload_n 0, 1) := by decide +kernel
theorem d_Main_reading_46 : decode b_Main_reading 46 = .ok (.getfield 60, 3) := by decide +kernel
theorem d_Main_reading_49 : decode b_Main_reading 49 = .ok (.iload_n 1, 1) := by decide +kernel
theorem d_Main_reading_50 : decode b_Main_reading 50 = .ok (.iload_n 2, 1) := by decide +kernel
theorem d_Main_reading_51 : decode b_Main_reading 51 = .ok (.invokevirtual 201, 3) := by decide +kernel
theorem d_Main_reading_54 : decode b_Main_reading 54 = .ok (.ireturn, 1) := by decide +kernel
set_option maxRecDepth 20000 in
theorem c_Main_reading {l : Launch} {g : GG} (hI : WI g) (a1 : Int32) (a2 : Int32) (M : Mem) (R : Int32 → Mem → Prop) (h : wp_Main_reading a1 a2 M R) : Met l y_Main_reading (wm y_Main_reading b_Main_reading 3 (some .int)) (RM 2 42) (PP g M [.ref (g.2.2.2 0), .int a1, .int a2]) (PQ g (RI R)) 0 0 (AW g) := by
  refine m_of (own := N_Main) (by decide) rfl (Nat.le_of_ble_eq_true rfl) ?_
  intro p e s m below meth c ls C hr hlocks hW hP hS hl
  obtain ⟨hx, hb, hml, hown, hts⟩ := id C
  have hl : lv_has ls 3 [(0, .ref (g.2.2.2 0)), (1, .int a1), (2, .int a2)] := hl
  unfold wp_Main_reading at h
  have J30 : ∀ (x1 : Int32) (x2 : Int32) (M : Mem), wp_Main_reading_30  R x1 x2 M → ∀ (H : Heap) (locs : List Loc) (ls : Array Slot), WP g M H → va_S (AW g) s.heap H locs → lv_has ls 3 [(0, .ref (g.2.2.2 0)), (1, .int x1), (2, .int x2)] → W p l e (RM 2 42) s m ([.ref (g.2.2.2 0), .int a1, .int a2] : List Value).toArray below meth c H locs 0 0 (MQ below (PQ g (RI R)) ([.ref (g.2.2.2 0), .int a1, .int a2] : List Value).toArray s 0 0 (AW g)) (F0 m 30 ls []) := by
    intro x1 x2 M hk H locs ls hP hS hl
    unfold wp_Main_reading_30 at hk
    refine lv_aload_n hx hb d_Main_reading_30 rfl (lv_at hl 0 rfl) ?_
    refine gf_0_6 C hW hP fl_Main_60 d_Main_reading_31 ?_
    refine r_runZ (k_V (As := []) (rest := []) C hW hP (c_Readings_isFull hI M _ hk) cb_Readings_isFull ml_Main_198 (io_26 g M) ⟨by decide, by decide⟩ rfl hl.1 rfl (Nat.le_of_ble_eq_true rfl) d_Main_reading_34 ⟨by decide, by decide⟩) hS (fun r2 M1 H locs zr2 hk hP hS => ?_)
    refine lv_if_eq (tgt := 45) hx hb d_Main_reading_37 (by decide) (fun c3 => ?_) (fun c3 => ?_)
    · have hk := hk.1 c3
      refine lv_aload_n hx hb d_Main_reading_45 rfl (lv_at hl 0 rfl) ?_
      refine gf_0_6 C hW hP fl_Main_60 d_Main_reading_46 ?_
      refine lv_iload_n hx hb d_Main_reading_49 rfl (lv_at hl 1 rfl) ?_
      refine lv_iload_n hx hb d_Main_reading_50 rfl (lv_at hl 2 rfl) ?_
      refine r_runI (k_V (As := [.int x1, .int x2]) (rest := []) C hW hP (c_Readings_add hI x1 x2 M1 _ hk) cb_Readings_add ml_Main_201 (io_26 g M1) ⟨by decide, by decide⟩ rfl hl.1 rfl (Nat.le_of_ble_eq_true rfl) d_Main_reading_51 ⟨by decide, by decide⟩) hS (fun r5 M4 H locs hk hP hS => ?_)
      exact r_iret C hr hlocks hP hS hk d_Main_reading_54
    · have hk := hk.2 c3
      refine lv_bipush (v := -4) hx hb d_Main_reading_40 (by decide) ?_
      refine lv_goto (tgt := 54) hx hb d_Main_reading_42 (by decide) ?_
      exact r_iret C hr hlocks hP hS hk d_Main_reading_54
  have hk := h
  refine lv_aload_n hx hb d_Main_reading_0 rfl (lv_at hl 0 rfl) ?_
  refine gf_0_2 C hW hP fl_Main_28 d_Main_reading_1 ?_
  refine lv_iload_n hx hb d_Main_reading_4 rfl (lv_at hl 1 rfl) ?_
  refine r_runZ (k_V (As := [.int a1]) (rest := []) C hW hP (c_Way_hasGuest hI a1 M _ hk) cb_Way_hasGuest ml_Main_122 (io_12 g M) ⟨by decide, by decide⟩ rfl hl.1 rfl (Nat.le_of_ble_eq_true rfl) d_Main_reading_5 ⟨by decide, by decide⟩) hS (fun r7 M6 H locs zr7 hk hP hS => ?_)
  refine lv_if_eq (tgt := 28) hx hb d_Main_reading_8 (by decide) (fun c8 => ?_) (fun c8 => ?_)
  · have hk := hk.1 c8
    refine lv_iconst (v := -1) hx hb d_Main_reading_28 (by decide) ?_
    exact r_iret C hr hlocks hP hS hk d_Main_reading_29
  · have hk := hk.2 c8
    refine lv_iload_n hx hb d_Main_reading_11 rfl (lv_at hl 2 rfl) ?_
    refine lv_bipush (v := -9) hx hb d_Main_reading_12 (by decide) ?_
    refine lv_icmp_eq (tgt := 30) hx hb d_Main_reading_14 (by decide) (fun c9 => ?_) (fun c9 => ?_)
    · have hk := hk.1 c9
      exact J30 a1 a2 M6 hk _ _ _ hP hS (lv_sub hl [0, 1, 2] rfl)
    · have hk := hk.2 c9
      refine lv_aload_n hx hb d_Main_reading_17 rfl (lv_at hl 0 rfl) ?_
      refine gf_0_2 C hW hP fl_Main_28 d_Main_reading_18 ?_
      refine lv_iload_n hx hb d_Main_reading_21 rfl (lv_at hl 2 rfl) ?_
      refine r_runZ (k_V (As := [.int a2]) (rest := []) C hW hP (c_Way_hasHouse hI a2 M6 _ hk) cb_Way_hasHouse ml_Main_105 (io_12 g M6) ⟨by decide, by decide⟩ rfl hl.1 rfl (Nat.le_of_ble_eq_true rfl) d_Main_reading_22 ⟨by decide, by decide⟩) hS (fun r11 M10 H locs zr11 hk hP hS => ?_)
      refine lv_if_ne (tgt := 30) hx hb d_Main_reading_25 (by decide) (fun c12 => ?_) (fun c12 => ?_)
      · have hk := hk.1 c12
        exact J30 a1 a2 M10 hk _ _ _ hP hS (lv_sub hl [0, 1, 2] rfl)
      · have hk := hk.2 c12
        refine lv_iconst (v := -1) hx hb d_Main_reading_28 (by decide) ?_
        exact r_iret C hr hlocks hP hS hk d_Main_reading_29
theorem d_Main_back_0 : decode b_Main_back 0 = .ok (.iload_n 1, 1) := by decide +kernel
theorem d_Main_back_1 : decode b_Main_back 1 = .ok (.aload_n 0, 1) := by decide +kernel
theorem d_Main_back_2 : decode b_Main_back 2 = .ok (.getfield 60, 3) := by decide +kernel
theorem d_Main_back_5 : decode b_Main_back 5 = .ok (.getfield 99, 3) := by decide +kernel
theorem d_Main_back_8 : decode b_Main_back 8 = .ok (.iconst 1, 1) := by decide +kernel
theorem d_Main_back_9 : decode b_Main_back 9 = .ok (.iadd, 1) := by decide +kernel
theorem d_Main_back_10 : decode b_Main_back 10 = .ok (.invokestatic 75, 3) := by decide +kernel
theorem d_Main_back_13 : decode b_Main_back 13 = .ok (.ifCond .ne 6, 3) := by decide +kernel
theorem d_Main_back_16 : decode b_Main_back 16 = .ok (.bipush (-2), 2) := by decide +kernel
theorem d_Main_back_18 : decode b_Main_back 18 = .ok (.ireturn, 1) := by decide +kernel
theorem d_Main_back_19 : decode b_Main_back 19 = .ok (.aload_n 0, 1) := by decide +kernel
theorem d_Main_back_20 : decode b_Main_back 20 = .ok (.getfield 60, 3) := by decide +kernel
theorem d_Main_back_23 : decode b_Main_back 23 = .ok (.dup, 1) := by decide +kernel
theorem d_Main_back_24 : decode b_Main_back 24 = .ok (.getfield 99, 3) := by decide +kernel
theorem d_Main_back_27 : decode b_Main_back 27 = .ok (.iload_n 1, 1) := by decide +kernel
theorem d_Main_back_28 : decode b_Main_back 28 = .ok (.isub, 1) := by decide +kernel
theorem d_Main_back_29 : decode b_Main_back 29 = .ok (.putfield 99, 3) := by decide +kernel
theorem d_Main_back_32 : decode b_Main_back 32 = .ok (.aload_n 0, 1) := by decide +kernel
theorem d_Main_back_33 : decode b_Main_back 33 = .ok (.getfield 60, 3) := by decide +kernel
theorem d_Main_back_36 : decode b_Main_back 36 = .ok (.getfield 99, 3) := by decide +kernel
theorem d_Main_back_39 : decode b_Main_back 39 = .ok (.ireturn, 1) := by decide +kernel
set_option maxRecDepth 20000 in
theorem c_Main_back {l : Launch} {g : GG} (hI : WI g) (a1 : Int32) (M : Mem) (R : Int32 → Mem → Prop) (h : wp_Main_back a1 M R) : Met l y_Main_back (wm y_Main_back b_Main_back 2 (some .int)) (RM 1 21) (PP g M [.ref (g.2.2.2 0), .int a1]) (PQ g (RI R)) 0 0 (AW g) := by
  refine m_of (own := N_Main) (by decide) rfl (Nat.le_of_ble_eq_true rfl) ?_
  intro p e s m below meth c ls C hr hlocks hW hP hS hl
  obtain ⟨hx, hb, hml, hown, hts⟩ := id C
  have hl : lv_has ls 2 [(0, .ref (g.2.2.2 0)), (1, .int a1)] := hl
  unfold wp_Main_back at h
  have hk := h
  refine lv_iload_n hx hb d_Main_back_0 rfl (lv_at hl 1 rfl) ?_
  refine lv_aload_n hx hb d_Main_back_1 rfl (lv_at hl 0 rfl) ?_
  refine gf_0_6 C hW hP fl_Main_60 d_Main_back_2 ?_
  refine gf_26_4 C hW hP fl_Main_99 d_Main_back_5 ?_
  refine lv_iconst (v := 1) hx hb d_Main_back_8 (by decide) ?_
  refine lv_iadd hx hb d_Main_back_9 ?_
  refine r_runZ (k_S (As := [.int a1, .int ((M 26 4) + (1 : Int32))]) (rest := []) C hW hP (c_Main_isBelow hI a1 ((M 26 4) + (1 : Int32)) M _ hk) cb_Main_isBelow ml_Main_75 ⟨by decide, by decide⟩ rfl hl.1 rfl (Nat.le_of_ble_eq_true rfl) d_Main_back_10 ⟨by decide, by decide⟩) hS (fun r2 M1 H locs zr2 hk hP hS => ?_)
  refine lv_if_ne (tgt := 19) hx hb d_Main_back_13 (by decide) (fun c3 => ?_) (fun c3 => ?_)
  · have hk := hk.1 c3
    refine lv_aload_n hx hb d_Main_back_19 rfl (lv_at hl 0 rfl) ?_
    refine gf_0_6 C hW hP fl_Main_60 d_Main_back_20 ?_
    refine lv_dup hx hb d_Main_back_23 rfl ?_
    refine gf_26_4 C hW hP fl_Main_99 d_Main_back_24 ?_
    refine lv_iload_n hx hb d_Main_back_27 rfl (lv_at hl 1 rfl) ?_
    refine lv_isub hx hb d_Main_back_28 ?_
    refine pf_26_4 hI C hW hP hS fl_Main_99 d_Main_back_29 (fun M4 eM4 H locs hP hS => ?_)
    have hk := hk M4 eM4
    refine lv_aload_n hx hb d_Main_back_32 rfl (lv_at hl 0 rfl) ?_
    refine gf_0_6 C hW hP fl_Main_60 d_Main_back_33 ?_
    refine gf_26_4 C hW hP fl_Main_99 d_Main_back_36 ?_
    exact r_iret C hr hlocks hP hS hk d_Main_back_39
  · have hk := hk.2 c3
    refine lv_bipush (v := -2) hx hb d_Main_back_16 (by decide) ?_
    exact r_iret C hr hlocks hP hS hk d_Main_back_18
theorem d_Readings_allAreSo_0 : decode b_Readings_allAreSo 0 = .ok (.iconst 0, 1) := by decide +kernel
theorem d_Readings_allAreSo_1 : decode b_Readings_allAreSo 1 = .ok (.istore_n 1, 1) := by decide +kernel
theorem d_Readings_allAreSo_2 : decode b_Readings_allAreSo 2 = .ok (.iload_n 1, 1) := by decide +kernel
theorem d_Readings_allAreSo_3 : decode b_Readings_allAreSo 3 = .ok (.aload_n 0, 1) := by decide +kernel
theorem d_Readings_allAreSo_4 : decode b_Readings_allAreSo 4 = .ok (.getfield 26, 3) := by decide +kernel
theorem d_Readings_allAreSo_7 : decode b_Readings_allAreSo 7 = .ok (.if_icmp .ge 34, 3) := by decide +kernel
theorem d_Readings_allAreSo_10 : decode b_Readings_allAreSo 10 = .ok (.aload_n 0, 1) := by decide +kernel
theorem d_Readings_allAreSo_11 : decode b_Readings_allAreSo 11 = .ok (.getfield 15, 3) := by decide +kernel
theorem d_Readings_allAreSo_14 : decode b_Readings_allAreSo 14 = .ok (.getfield 54, 3) := by decide +kernel
theorem d_Readings_allAreSo_17 : decode b_Readings_allAreSo 17 = .ok (.aload_n 0, 1) := by decide +kernel
theorem d_Readings_allAreSo_18 : decode b_Readings_allAreSo 18 = .ok (.getfield 19, 3) := by decide +kernel
theorem d_Readings_allAreSo_21 : decode b_Readings_allAreSo 21 = .ok (.iload_n 1, 1) := by decide +kernel
theorem d_Readings_allAreSo_22 : decode b_Readings_allAreSo 22 = .ok (.iaload, 1) := by decide +kernel
theorem d_Readings_allAreSo_23 : decode b_Readings_allAreSo 23 = .ok (.iaload, 1) := by decide +kernel
theorem d_Readings_allAreSo_24 : decode b_Readings_allAreSo 24 = .ok (.aload_n 0, 1) := by decide +kernel
theorem d_Readings_allAreSo_25 : decode b_Readings_allAreSo 25 = .ok (.getfield 23, 3) := by decide +kernel
theorem d_Readings_allAreSo_28 : decode b_Readings_allAreSo 28 = .ok (.iload_n 1, 1) := by decide +kernel
theorem d_Readings_allAreSo_29 : decode b_Readings_allAreSo 29 = .ok (.iaload, 1) := by decide +kernel
theorem d_Readings_allAreSo_30 : decode b_Readings_allAreSo 30 = .ok (.if_icmp .eq 5, 3) := by decide +kernel
theorem d_Readings_allAreSo_33 : decode b_Readings_allAreSo 33 = .ok (.iconst 0, 1) := by decide +kernel
theorem d_Readings_allAreSo_34 : decode b_Readings_allAreSo 34 = .ok (.ireturn, 1) := by decide +kernel
theorem d_Readings_allAreSo_35 : decode b_Readings_allAreSo 35 = .ok (.iinc 1 1, 3) := by decide +kernel
theorem d_Readings_allAreSo_38 : decode b_Readings_allAreSo 38 = .ok (.goto (-36), 3) := by decide +kernel
theorem d_Readings_allAreSo_41 : decode b_Readings_allAreSo 41 = .ok (.iconst 1, 1) := by decide +kernel
theorem d_Readings_allAreSo_42 : decode b_Readings_allAreSo 42 = .ok (.ireturn, 1) := by decide +kernel
set_option maxRecDepth 20000 in
theorem c_Readings_allAreSo {l : Launch} {g : GG} (hI : WI g) (M : Mem) (R : Int32 → Mem → Prop) (h : wp_Readings_allAreSo  M R) : Met l y_Readings_allAreSo (wm y_Readings_allAreSo b_Readings_allAreSo 2 (some .boolean)) (RM 0 0) (PP g M [.ref (g.2.2.2 26)]) (PQ g (RZ R)) 0 0 (AW g) := by
  refine m_of (own := N_Readings) (by decide) rfl (Nat.le_of_ble_eq_true rfl) ?_
  intro p e s m below meth c ls C hr hlocks hW hP hS hl
  obtain ⟨hx, hb, hml, hown, hts⟩ := id C
  have hl : lv_has ls 2 [(0, .ref (g.2.2.2 26))] := hl
  unfold wp_Readings_allAreSo at h
  obtain ⟨X2, eX2⟩ : ∃ X : Int32 → Mem → Prop, ∀ (x1 : Int32) (M : Mem), X x1 M ↔ (∀ (H : Heap) (locs : List Loc) (ls : Array Slot), WP g M H → va_S (AW g) s.heap H locs → lv_has ls 2 [(0, .ref (g.2.2.2 26)), (1, .int x1)] → W p l e (RM 0 0) s m ([.ref (g.2.2.2 26)] : List Value).toArray below meth c H locs 0 0 (MQ below (PQ g (RZ R)) ([.ref (g.2.2.2 26)] : List Value).toArray s 0 0 (AW g)) (F0 m 2 ls [])) := ⟨fun x1 M => _, fun _ _ => Iff.rfl⟩
  suffices hcl : (∀ (x1 : Int32) (M : Mem), wp_Readings_allAreSo_2 X2 R x1 M → X2 x1 M) by
    have hk := h X2 hcl
    refine lv_iconst (v := 0) hx hb d_Readings_allAreSo_0 (by decide) ?_
    refine lv_istore_n (lv' := [(1, .int (0 : Int32)), (0, .ref (g.2.2.2 26))]) hx hb d_Readings_allAreSo_1 rfl hl (by decide) rfl (fun ls hl => ?_)
    exact (eX2 (0 : Int32) M).mp hk _ _ _ hP hS (lv_sub hl [1, 0] rfl)
  · intro x1 M hk
    refine (eX2 x1 M).mpr ?_
    intro H locs ls hP hS hl
    unfold wp_Readings_allAreSo_2 at hk
    refine lv_iload_n hx hb d_Readings_allAreSo_2 rfl (lv_at hl 1 rfl) ?_
    refine lv_aload_n hx hb d_Readings_allAreSo_3 rfl (lv_at hl 0 rfl) ?_
    refine gf_26_4 C hW hP fl_Readings_26 d_Readings_allAreSo_4 ?_
    refine lv_icmp_ge (tgt := 41) hx hb d_Readings_allAreSo_7 (by decide) (fun c1 => ?_) (fun c1 => ?_)
    · have hk := hk.1 c1
      refine lv_iconst (v := 1) hx hb d_Readings_allAreSo_41 (by decide) ?_
      exact r_zret rfl C hr hlocks hP hS hk d_Readings_allAreSo_42
    · have hk := hk.2 c1
      refine lv_aload_n hx hb d_Readings_allAreSo_10 rfl (lv_at hl 0 rfl) ?_
      refine gf_26_1 C hW hP fl_Readings_15 d_Readings_allAreSo_11 ?_
      refine gf_18_2 C hW hP fl_Readings_54 d_Readings_allAreSo_14 ?_
      refine lv_aload_n hx hb d_Readings_allAreSo_17 rfl (lv_at hl 0 rfl) ?_
      refine gf_26_2 C hW hP fl_Readings_19 d_Readings_allAreSo_18 ?_
      refine lv_iload_n hx hb d_Readings_allAreSo_21 rfl (lv_at hl 1 rfl) ?_
      obtain ⟨h2, hk⟩ := hk
      refine al_27 C hW hP h2 d_Readings_allAreSo_22 ?_
      obtain ⟨h3, hk⟩ := hk
      refine al_20 C hW hP h3 d_Readings_allAreSo_23 ?_
      refine lv_aload_n hx hb d_Readings_allAreSo_24 rfl (lv_at hl 0 rfl) ?_
      refine gf_26_3 C hW hP fl_Readings_23 d_Readings_allAreSo_25 ?_
      refine lv_iload_n hx hb d_Readings_allAreSo_28 rfl (lv_at hl 1 rfl) ?_
      obtain ⟨h4, hk⟩ := hk
      refine al_28 C hW hP h4 d_Readings_allAreSo_29 ?_
      refine lv_icmp_eq (tgt := 35) hx hb d_Readings_allAreSo_30 (by decide) (fun c5 => ?_) (fun c5 => ?_)
      · have hk := hk.1 c5
        obtain ⟨x1_6, ex1_6⟩ : ∃ y : Int32, y = x1 + (1 : Int32) := ⟨_, rfl⟩
        have hk := hk x1_6 ex1_6
        refine lv_iinc (v := x1_6) (lv' := [(1, .int x1_6), (0, .ref (g.2.2.2 26))]) hx hb d_Readings_allAreSo_35 hl (k := 1) rfl (by rw [ex1_6]; rfl) (by decide) rfl (fun ls hl => ?_)
        refine lv_goto (tgt := 2) hx hb d_Readings_allAreSo_38 (by decide) ?_
        exact (eX2 x1_6 M).mp hk _ _ _ hP hS (lv_sub hl [1, 0] rfl)
      · have hk := hk.2 c5
        refine lv_iconst (v := 0) hx hb d_Readings_allAreSo_33 (by decide) ?_
        exact r_zret rfl C hr hlocks hP hS hk d_Readings_allAreSo_34
theorem d_Readings_findHad_0 : decode b_Readings_findHad 0 = .ok (.aload_n 0, 1) := by decide +kernel
theorem d_Readings_findHad_1 : decode b_Readings_findHad 1 = .ok (.getfield 9, 3) := by decide +kernel
theorem d_Readings_findHad_4 : decode b_Readings_findHad 4 = .ok (.getfield 36, 3) := by decide +kernel
theorem d_Readings_findHad_7 : decode b_Readings_findHad 7 = .ok (.iload_n 1, 1) := by decide +kernel
theorem d_Readings_findHad_8 : decode b_Readings_findHad 8 = .ok (.iaload, 1) := by decide +kernel
theorem d_Readings_findHad_9 : decode b_Readings_findHad 9 = .ok (.istore_n 2, 1) := by decide +kernel
theorem d_Readings_findHad_10 : decode b_Readings_findHad 10 = .ok (.aload_n 0, 1) := by decide +kernel
theorem d_Readings_findHad_11 : decode b_Readings_findHad 11 = .ok (.iconst 0, 1) := by decide +kernel
theorem d_Readings_findHad_12 : decode b_Readings_findHad 12 = .ok (.putfield 30, 3) := by decide +kernel
theorem d_Readings_findHad_15 : decode b_Readings_findHad 15 = .ok (.aload_n 0, 1) := by decide +kernel
theorem d_Readings_findHad_16 : decode b_Readings_findHad 16 = .ok (.bipush (-9), 2) := by decide +kernel
theorem d_Readings_findHad_18 : decode b_Readings_findHad 18 = .ok (.putfield 33, 3) := by decide +kernel
theorem d_Readings_findHad_21 : decode b_Readings_findHad 21 = .ok (.iconst 0, 1) := by decide +kernel
theorem d_Readings_findHad_22 : decode b_Readings_findHad 22 = .ok (.istore_n 3, 1) := by decide +kernel
theorem d_Readings_findHad_23 : decode b_Readings_findHad 23 = .ok (.iload_n 3, 1) := by decide +kernel
theorem d_Readings_findHad_24 : decode b_Readings_findHad 24 = .ok (.bipush 64, 2) := by decide +kernel
theorem d_Readings_findHad_26 : decode b_Readings_findHad 26 = .ok (.if_icmp .ge 65, 3) := by decide +kernel
theorem d_Readings_findHad_29 : decode b_Readings_findHad 29 = .ok (.aload_n 0, 1) := by decide +kernel
theorem d_Readings_findHad_30 : decode b_Readings_findHad 30 = .ok (.getfield 9, 3) := by decide +kernel
theorem d_Readings_findHad_33 : decode b_Readings_findHad 33 = .ok (.getfield 36, 3) := by decide +kernel
theorem d_Readings_findHad_36 : decode b_Readings_findHad 36 = .ok (.iload_n 1, 1) := by decide +kernel
theorem d_Readings_findHad_37 : decode b_Readings_findHad 37 = .ok (.iload_n 3, 1) := by decide +kernel
theorem d_Readings_findHad_38 : decode b_Readings_findHad 38 = .ok (.iastore, 1) := by decide +kernel
theorem d_Readings_findHad_39 : decode b_Readings_findHad 39 = .ok (.aload_n 0, 1) := by decide +kernel
theorem d_Readings_findHad_40 : decode b_Readings_findHad 40 = .ok (.getfield 15, 3) := by decide +kernel
theorem d_Readings_findHad_43 : decode b_Readings_findHad 43 = .ok (.invokevirtual 41, 3) := by decide +kernel
theorem d_Readings_findHad_46 : decode b_Readings_findHad 46 = .ok (.pop, 1) := by decide +kernel
theorem d_Readings_findHad_47 : decode b_Readings_findHad 47 = .ok (.aload_n 0, 1) := by decide +kernel
theorem d_Readings_findHad_48 : decode b_Readings_findHad 48 = .ok (.invokevirtual 47, 3) := by decide +kernel
theorem d_Readings_findHad_51 : decode b_Readings_findHad 51 = .ok (.ifCond .eq 34, 3) := by decide +kernel
theorem d_Readings_findHad_54 : decode b_Readings_findHad 54 = .ok (.aload_n 0, 1) := by decide +kernel
theorem d_Readings_findHad_55 : decode b_Readings_findHad 55 = .ok (.dup, 1) := by decide +kernel
theorem d_Readings_findHad_56 : decode b_Readings_findHad 56 = .ok (.getfield 30, 3) := by decide +kernel
theorem d_Readings_findHad_59 : decode b_Readings_findHad 59 = .ok (.iconst 1, 1) := by decide +kernel
theorem d_Readings_findHad_60 : decode b_Readings_findHad 60 = .ok (.iadd, 1) := by decide +kernel
theorem d_Readings_findHad_61 : decode b_Readings_findHad 61 = .ok (.putfield 30, 3) := by decide +kernel
theorem d_Readings_findHad_64 : decode b_Readings_findHad 64 = .ok (.aload_n 0, 1) := by decide +kernel
theorem d_Readings_findHad_65 : decode b_Readings_findHad 65 = .ok (.aload_n 0, 1) := by decide +kernel
theorem d_Readings_findHad_66 : decode b_Readings_findHad 66 = .ok (.getfield 33, 3) := by decide +kernel
theorem d_Readings_findHad_69 : decode b_Readings_findHad 69 = .ok (.bipush (-9), 2) := by decide +kernel
theorem d_Readings_findHad_71 : decode b_Readings_findHad 71 = .ok (.if_icmp .ne 7, 3) := by decide +kernel
theorem d_Readings_findHad_74 : decode b_Readings_findHad 74 = .ok (.iload_n 3, 1) := by decide +kernel
theorem d_Readings_findHad_75 : decode b_Readings_findHad 75 = .ok (.goto 7, 3) := by decide +kernel
theorem d_Readings_findHad_78 : decode b_Readings_findHad 78 = .ok (.aload_n 0, 1) := by decide +kernel
theorem d_Readings_findHad_79 : decode b_Readings_findHad 79 = .ok (.getfield 33, 3) := by decide +kernel
theorem d_Readings_findHad_82 : decode b_Readings_findHad 82 = .ok (.putfield 33, 3) := by decide +kernel
theorem d_Readings_findHad_85 : decode b_Readings_findHad 85 = .ok (.iinc 3 1, 3) := by decide +kernel
theorem d_Readings_findHad_88 : decode b_Readings_findHad 88 = .ok (.goto (-65), 3) := by decide +kernel
theorem d_Readings_findHad_91 : decode b_Readings_findHad 91 = .ok (.aload_n 0, 1) := by decide +kernel
theorem d_Readings_findHad_92 : decode b_Readings_findHad 92 = .ok (.getfield 9, 3) := by decide +kernel
theorem d_Readings_findHad_95 : decode b_Readings_findHad 95 = .ok (.getfield 36, 3) := by decide +kernel
theorem d_Readings_findHad_98 : decode b_Readings_findHad 98 = .ok (.iload_n 1, 1) := by decide +kernel
theorem d_Readings_findHad_99 : decode b_Readings_findHad 99 = .ok (.iload_n 2, 1) := by decide +kernel
theorem d_Readings_findHad_100 : decode b_Readings_findHad 100 = .ok (.iastore, 1) := by decide +kernel
theorem d_Readings_findHad_101 : decode b_Readings_findHad 101 = .ok (.return_, 1) := by decide +kernel
set_option maxRecDepth 20000 in
theorem c_Readings_findHad {l : Launch} {g : GG} (hI : WI g) (a1 : Int32) (M : Mem) (R : Mem → Prop) (h : wp_Readings_findHad a1 M R) : Met l y_Readings_findHad (wm y_Readings_findHad b_Readings_findHad 4 none) (RM 5 115) (PP g M [.ref (g.2.2.2 26), .int a1]) (PQ g (RV R)) 0 0 (AW g) := by
  refine m_of (own := N_Readings) (by decide) rfl (Nat.le_of_ble_eq_true rfl) ?_
  intro p e s m below meth c ls C hr hlocks hW hP hS hl
  obtain ⟨hx, hb, hml, hown, hts⟩ := id C
  have hl : lv_has ls 4 [(0, .ref (g.2.2.2 26)), (1, .int a1)] := hl
  unfold wp_Readings_findHad at h
  obtain ⟨X23, eX23⟩ : ∃ X : Int32 → Int32 → Int32 → Mem → Prop, ∀ (x1 : Int32) (x2 : Int32) (x3 : Int32) (M : Mem), X x1 x2 x3 M ↔ (∀ (H : Heap) (locs : List Loc) (ls : Array Slot), WP g M H → va_S (AW g) s.heap H locs → lv_has ls 4 [(0, .ref (g.2.2.2 26)), (1, .int x1), (2, .int x2), (3, .int x3)] → W p l e (RM 5 115) s m ([.ref (g.2.2.2 26), .int a1] : List Value).toArray below meth c H locs 0 0 (MQ below (PQ g (RV R)) ([.ref (g.2.2.2 26), .int a1] : List Value).toArray s 0 0 (AW g)) (F0 m 23 ls [])) := ⟨fun x1 x2 x3 M => _, fun _ _ _ _ => Iff.rfl⟩
  have J85 : ∀ (x1 : Int32) (x2 : Int32) (x3 : Int32) (M : Mem), wp_Readings_findHad_85 X23 R x1 x2 x3 M → ∀ (H : Heap) (locs : List Loc) (ls : Array Slot), WP g M H → va_S (AW g) s.heap H locs → lv_has ls 4 [(0, .ref (g.2.2.2 26)), (1, .int x1), (2, .int x2), (3, .int x3)] → W p l e (RM 5 115) s m ([.ref (g.2.2.2 26), .int a1] : List Value).toArray below meth c H locs 0 0 (MQ below (PQ g (RV R)) ([.ref (g.2.2.2 26), .int a1] : List Value).toArray s 0 0 (AW g)) (F0 m 85 ls []) := by
    intro x1 x2 x3 M hk H locs ls hP hS hl
    unfold wp_Readings_findHad_85 at hk
    obtain ⟨x3_14, ex3_14⟩ : ∃ y : Int32, y = x3 + (1 : Int32) := ⟨_, rfl⟩
    have hk := hk x3_14 ex3_14
    refine lv_iinc (v := x3_14) (lv' := [(3, .int x3_14), (0, .ref (g.2.2.2 26)), (1, .int x1), (2, .int x2)]) hx hb d_Readings_findHad_85 hl (k := 3) rfl (by rw [ex3_14]; rfl) (by decide) rfl (fun ls hl => ?_)
    refine lv_goto (tgt := 23) hx hb d_Readings_findHad_88 (by decide) ?_
    exact (eX23 x1 x2 x3_14 M).mp hk _ _ _ hP hS (lv_sub hl [1, 2, 3, 0] rfl)
  have J82 : ∀ (x1 : Int32) (x2 : Int32) (x3 : Int32) (s1 : Int32) (M : Mem), wp_Readings_findHad_82 X23 R x1 x2 x3 s1 M → ∀ (H : Heap) (locs : List Loc) (ls : Array Slot), WP g M H → va_S (AW g) s.heap H locs → lv_has ls 4 [(0, .ref (g.2.2.2 26)), (1, .int x1), (2, .int x2), (3, .int x3)] → W p l e (RM 5 115) s m ([.ref (g.2.2.2 26), .int a1] : List Value).toArray below meth c H locs 0 0 (MQ below (PQ g (RV R)) ([.ref (g.2.2.2 26), .int a1] : List Value).toArray s 0 0 (AW g)) (F0 m 82 ls [.int s1, .ref (g.2.2.2 26)]) := by
    intro x1 x2 x3 s1 M hk H locs ls hP hS hl
    unfold wp_Readings_findHad_82 at hk
    refine pf_26_6 hI C hW hP hS fl_Readings_33 d_Readings_findHad_82 (fun M13 eM13 H locs hP hS => ?_)
    have hk := hk M13 eM13
    exact J85 x1 x2 x3 M13 hk _ _ _ hP hS (lv_sub hl [0, 1, 2, 3] rfl)
  suffices hcl : (∀ (x1 : Int32) (x2 : Int32) (x3 : Int32) (M : Mem), wp_Readings_findHad_23 X23 R x1 x2 x3 M → X23 x1 x2 x3 M) by
    have hk := h X23 hcl
    refine lv_aload_n hx hb d_Readings_findHad_0 rfl (lv_at hl 0 rfl) ?_
    refine gf_26_0 C hW hP fl_Readings_9 d_Readings_findHad_1 ?_
    refine gf_12_4 C hW hP fl_Readings_36 d_Readings_findHad_4 ?_
    refine lv_iload_n hx hb d_Readings_findHad_7 rfl (lv_at hl 1 rfl) ?_
    obtain ⟨h15, hk⟩ := hk
    refine al_17 C hW hP h15 d_Readings_findHad_8 ?_
    refine lv_topi (fun x2_16 ex2_16 => ?_)
    have hk := hk x2_16 ex2_16
    refine lv_istore_n (lv' := [(2, .int x2_16), (0, .ref (g.2.2.2 26)), (1, .int a1)]) hx hb d_Readings_findHad_9 rfl hl (by decide) rfl (fun ls hl => ?_)
    refine lv_aload_n hx hb d_Readings_findHad_10 rfl (lv_at hl 1 rfl) ?_
    refine lv_iconst (v := 0) hx hb d_Readings_findHad_11 (by decide) ?_
    refine pf_26_5 hI C hW hP hS fl_Readings_30 d_Readings_findHad_12 (fun M17 eM17 H locs hP hS => ?_)
    have hk := hk M17 eM17
    refine lv_aload_n hx hb d_Readings_findHad_15 rfl (lv_at hl 1 rfl) ?_
    refine lv_bipush (v := -9) hx hb d_Readings_findHad_16 (by decide) ?_
    refine pf_26_6 hI C hW hP hS fl_Readings_33 d_Readings_findHad_18 (fun M18 eM18 H locs hP hS => ?_)
    have hk := hk M18 eM18
    refine lv_iconst (v := 0) hx hb d_Readings_findHad_21 (by decide) ?_
    refine lv_istore_n (lv' := [(3, .int (0 : Int32)), (2, .int x2_16), (0, .ref (g.2.2.2 26)), (1, .int a1)]) hx hb d_Readings_findHad_22 rfl hl (by decide) rfl (fun ls hl => ?_)
    exact (eX23 a1 x2_16 (0 : Int32) M18).mp hk _ _ _ hP hS (lv_sub hl [2, 3, 1, 0] rfl)
  · intro x1 x2 x3 M hk
    refine (eX23 x1 x2 x3 M).mpr ?_
    intro H locs ls hP hS hl
    unfold wp_Readings_findHad_23 at hk
    refine lv_iload_n hx hb d_Readings_findHad_23 rfl (lv_at hl 3 rfl) ?_
    refine lv_bipush (v := 64) hx hb d_Readings_findHad_24 (by decide) ?_
    refine lv_icmp_ge (tgt := 91) hx hb d_Readings_findHad_26 (by decide) (fun c1 => ?_) (fun c1 => ?_)
    · have hk := hk.1 c1
      refine lv_aload_n hx hb d_Readings_findHad_91 rfl (lv_at hl 0 rfl) ?_
      refine gf_26_0 C hW hP fl_Readings_9 d_Readings_findHad_92 ?_
      refine gf_12_4 C hW hP fl_Readings_36 d_Readings_findHad_95 ?_
      refine lv_iload_n hx hb d_Readings_findHad_98 rfl (lv_at hl 1 rfl) ?_
      refine lv_iload_n hx hb d_Readings_findHad_99 rfl (lv_at hl 2 rfl) ?_
      obtain ⟨h2, hk⟩ := hk
      refine as_17 hI C hW hP hS h2 d_Readings_findHad_100 (fun M3 eM3 H locs hP hS => ?_)
      have hk := hk M3 eM3
      exact r_vret C hr hlocks hP hS hk d_Readings_findHad_101
    · have hk := hk.2 c1
      refine lv_aload_n hx hb d_Readings_findHad_29 rfl (lv_at hl 0 rfl) ?_
      refine gf_26_0 C hW hP fl_Readings_9 d_Readings_findHad_30 ?_
      refine gf_12_4 C hW hP fl_Readings_36 d_Readings_findHad_33 ?_
      refine lv_iload_n hx hb d_Readings_findHad_36 rfl (lv_at hl 1 rfl) ?_
      refine lv_iload_n hx hb d_Readings_findHad_37 rfl (lv_at hl 3 rfl) ?_
      obtain ⟨h4, hk⟩ := hk
      refine as_17 hI C hW hP hS h4 d_Readings_findHad_38 (fun M5 eM5 H locs hP hS => ?_)
      have hk := hk M5 eM5
      refine lv_aload_n hx hb d_Readings_findHad_39 rfl (lv_at hl 0 rfl) ?_
      refine gf_26_1 C hW hP fl_Readings_15 d_Readings_findHad_40 ?_
      refine r_runI (k_V (As := []) (rest := []) C hW hP (c_Walk_goByNumbers hI M5 _ hk) cb_Walk_goByNumbers ml_Readings_41 (io_18 g M5) ⟨by decide, by decide⟩ rfl hl.1 rfl (Nat.le_of_ble_eq_true rfl) d_Readings_findHad_43 ⟨by decide, by decide⟩) hS (fun r7 M6 H locs hk hP hS => ?_)
      refine lv_pop hx hb d_Readings_findHad_46 rfl ?_
      refine lv_aload_n hx hb d_Readings_findHad_47 rfl (lv_at hl 0 rfl) ?_
      refine r_runZ (k_V (As := []) (rest := []) C hW hP (c_Readings_allAreSo hI M6 _ hk) cb_Readings_allAreSo ml_Readings_47 (io_26 g M6) ⟨by decide, by decide⟩ rfl hl.1 rfl (Nat.le_of_ble_eq_true rfl) d_Readings_findHad_48 ⟨by decide, by decide⟩) hS (fun r9 M8 H locs zr9 hk hP hS => ?_)
      refine lv_if_eq (tgt := 85) hx hb d_Readings_findHad_51 (by decide) (fun c10 => ?_) (fun c10 => ?_)
      · have hk := hk.1 c10
        exact J85 x1 x2 x3 M8 hk _ _ _ hP hS (lv_sub hl [0, 1, 2, 3] rfl)
      · have hk := hk.2 c10
        refine lv_aload_n hx hb d_Readings_findHad_54 rfl (lv_at hl 0 rfl) ?_
        refine lv_dup hx hb d_Readings_findHad_55 rfl ?_
        refine gf_26_5 C hW hP fl_Readings_30 d_Readings_findHad_56 ?_
        refine lv_iconst (v := 1) hx hb d_Readings_findHad_59 (by decide) ?_
        refine lv_iadd hx hb d_Readings_findHad_60 ?_
        refine pf_26_5 hI C hW hP hS fl_Readings_30 d_Readings_findHad_61 (fun M11 eM11 H locs hP hS => ?_)
        have hk := hk M11 eM11
        refine lv_aload_n hx hb d_Readings_findHad_64 rfl (lv_at hl 0 rfl) ?_
        refine lv_aload_n hx hb d_Readings_findHad_65 rfl (lv_at hl 0 rfl) ?_
        refine gf_26_6 C hW hP fl_Readings_33 d_Readings_findHad_66 ?_
        refine lv_bipush (v := -9) hx hb d_Readings_findHad_69 (by decide) ?_
        refine lv_icmp_ne (tgt := 78) hx hb d_Readings_findHad_71 (by decide) (fun c12 => ?_) (fun c12 => ?_)
        · have hk := hk.1 c12
          refine lv_aload_n hx hb d_Readings_findHad_78 rfl (lv_at hl 0 rfl) ?_
          refine gf_26_6 C hW hP fl_Readings_33 d_Readings_findHad_79 ?_
          exact J82 x1 x2 x3 (M11 26 6) M11 hk _ _ _ hP hS (lv_sub hl [0, 1, 2, 3] rfl)
        · have hk := hk.2 c12
          refine lv_iload_n hx hb d_Readings_findHad_74 rfl (lv_at hl 3 rfl) ?_
          refine lv_goto (tgt := 82) hx hb d_Readings_findHad_75 (by decide) ?_
          exact J82 x1 x2 x3 x3 M11 hk _ _ _ hP hS (lv_sub hl [0, 1, 2, 3] rfl)
