theorem d_Model_nextRow_0 : decode b_Model_nextRow 0 = .ok (.aload_n 0, 1) := by decide +kernel
theorem d_Model_nextRow_1 : decode b_Model_nextRow 1 = .ok (.getfield 74, 3) := by decide +kernel
theorem d_Model_nextRow_4 : decode b_Model_nextRow 4 = .ok (.iconst 2, 1) := by decide +kernel
theorem d_Model_nextRow_5 : decode b_Model_nextRow 5 = .ok (.isub, 1) := by decide +kernel
theorem d_Model_nextRow_6 : decode b_Model_nextRow 6 = .ok (.istore_n 1, 1) := by decide +kernel
theorem d_Model_nextRow_7 : decode b_Model_nextRow 7 = .ok (.iload_n 1, 1) := by decide +kernel
theorem d_Model_nextRow_8 : decode b_Model_nextRow 8 = .ok (.ifCond .lt 26, 3) := by decide +kernel
theorem d_Model_nextRow_11 : decode b_Model_nextRow 11 = .ok (.aload_n 0, 1) := by decide +kernel
theorem d_Model_nextRow_12 : decode b_Model_nextRow 12 = .ok (.getfield 50, 3) := by decide +kernel
theorem d_Model_nextRow_15 : decode b_Model_nextRow 15 = .ok (.iload_n 1, 1) := by decide +kernel
theorem d_Model_nextRow_16 : decode b_Model_nextRow 16 = .ok (.iaload, 1) := by decide +kernel
theorem d_Model_nextRow_17 : decode b_Model_nextRow 17 = .ok (.aload_n 0, 1) := by decide +kernel
theorem d_Model_nextRow_18 : decode b_Model_nextRow 18 = .ok (.getfield 50, 3) := by decide +kernel
theorem d_Model_nextRow_21 : decode b_Model_nextRow 21 = .ok (.iload_n 1, 1) := by decide +kernel
theorem d_Model_nextRow_22 : decode b_Model_nextRow 22 = .ok (.iconst 1, 1) := by decide +kernel
theorem d_Model_nextRow_23 : decode b_Model_nextRow 23 = .ok (.iadd, 1) := by decide +kernel
theorem d_Model_nextRow_24 : decode b_Model_nextRow 24 = .ok (.iaload, 1) := by decide +kernel
theorem d_Model_nextRow_25 : decode b_Model_nextRow 25 = .ok (.if_icmp .le 9, 3) := by decide +kernel
theorem d_Model_nextRow_28 : decode b_Model_nextRow 28 = .ok (.iinc 1 (-1), 3) := by decide +kernel
theorem d_Model_nextRow_31 : decode b_Model_nextRow 31 = .ok (.goto (-24), 3) := by decide +kernel
theorem d_Model_nextRow_34 : decode b_Model_nextRow 34 = .ok (.iload_n 1, 1) := by decide +kernel
theorem d_Model_nextRow_35 : decode b_Model_nextRow 35 = .ok (.ifCond .ge 5, 3) := by decide +kernel
theorem d_Model_nextRow_38 : decode b_Model_nextRow 38 = .ok (.iconst 0, 1) := by decide +kernel
theorem d_Model_nextRow_39 : decode b_Model_nextRow 39 = .ok (.ireturn, 1) := by decide +kernel
theorem d_Model_nextRow_40 : decode b_Model_nextRow 40 = .ok (.aload_n 0, 1) := by decide +kernel
theorem d_Model_nextRow_41 : decode b_Model_nextRow 41 = .ok (.getfield 74, 3) := by decide +kernel
theorem d_Model_nextRow_44 : decode b_Model_nextRow 44 = .ok (.iconst 1, 1) := by decide +kernel
theorem d_Model_nextRow_45 : decode b_Model_nextRow 45 = .ok (.isub, 1) := by decide +kernel
theorem d_Model_nextRow_46 : decode b_Model_nextRow 46 = .ok (.istore_n 2, 1) := by decide +kernel
theorem d_Model_nextRow_47 : decode b_Model_nextRow 47 = .ok (.aload_n 0, 1) := by decide +kernel
theorem d_Model_nextRow_48 : decode b_Model_nextRow 48 = .ok (.getfield 50, 3) := by decide +kernel
theorem d_Model_nextRow_51 : decode b_Model_nextRow 51 = .ok (.iload_n 2, 1) := by decide +kernel
theorem d_Model_nextRow_52 : decode b_Model_nextRow 52 = .ok (.iaload, 1) := by decide +kernel
theorem d_Model_nextRow_53 : decode b_Model_nextRow 53 = .ok (.aload_n 0, 1) := by decide +kernel
theorem d_Model_nextRow_54 : decode b_Model_nextRow 54 = .ok (.getfield 50, 3) := by decide +kernel
theorem d_Model_nextRow_57 : decode b_Model_nextRow 57 = .ok (.iload_n 1, 1) := by decide +kernel
theorem d_Model_nextRow_58 : decode b_Model_nextRow 58 = .ok (.iaload, 1) := by decide +kernel
theorem d_Model_nextRow_59 : decode b_Model_nextRow 59 = .ok (.if_icmp .ge 9, 3) := by decide +kernel
theorem d_Model_nextRow_62 : decode b_Model_nextRow 62 = .ok (.iinc 2 (-1), 3) := by decide +kernel
theorem d_Model_nextRow_65 : decode b_Model_nextRow 65 = .ok (.goto (-18), 3) := by decide +kernel
theorem d_Model_nextRow_68 : decode b_Model_nextRow 68 = .ok (.aload_n 0, 1) := by decide +kernel
theorem d_Model_nextRow_69 : decode b_Model_nextRow 69 = .ok (.iload_n 1, 1) := by decide +kernel
theorem d_Model_nextRow_70 : decode b_Model_nextRow 70 = .ok (.iload_n 2, 1) := by decide +kernel
theorem d_Model_nextRow_71 : decode b_Model_nextRow 71 = .ok (.invokevirtual 162, 3) := by decide +kernel
theorem d_Model_nextRow_74 : decode b_Model_nextRow 74 = .ok (.iload_n 1, 1) := by decide +kernel
theorem d_Model_nextRow_75 : decode b_Model_nextRow 75 = .ok (.iconst 1, 1) := by decide +kernel
theorem d_Model_nextRow_76 : decode b_Model_nextRow 76 = .ok (.iadd, 1) := by decide +kernel
theorem d_Model_nextRow_77 : decode b_Model_nextRow 77 = .ok (.istore_n 3, 1) := by decide +kernel
theorem d_Model_nextRow_78 : decode b_Model_nextRow 78 = .ok (.aload_n 0, 1) := by decide +kernel
theorem d_Model_nextRow_79 : decode b_Model_nextRow 79 = .ok (.getfield 74, 3) := by decide +kernel
theorem d_Model_nextRow_82 : decode b_Model_nextRow 82 = .ok (.iconst 1, 1) := by decide +kernel
theorem d_Model_nextRow_83 : decode b_Model_nextRow 83 = .ok (.isub, 1) := by decide +kernel
theorem d_Model_nextRow_84 : decode b_Model_nextRow 84 = .ok (.istore 4, 2) := by decide +kernel
theorem d_Model_nextRow_86 : decode b_Model_nextRow 86 = .ok (.iload_n 3, 1) := by decide +kernel
theorem d_Model_nextRow_87 : decode b_Model_nextRow 87 = .ok (.iload 4, 2) := by decide +kernel
theorem d_Model_nextRow_89 : decode b_Model_nextRow 89 = .ok (.if_icmp .ge 19, 3) := by decide +kernel
theorem d_Model_nextRow_92 : decode b_Model_nextRow 92 = .ok (.aload_n 0, 1) := by decide +kernel
theorem d_Model_nextRow_93 : decode b_Model_nextRow 93 = .ok (.iload_n 3, 1) := by decide +kernel
theorem d_Model_nextRow_94 : decode b_Model_nextRow 94 = .ok (.iload 4, 2) := by decide +kernel
theorem d_Model_nextRow_96 : decode b_Model_nextRow 96 = .ok (.invokevirtual 162, 3) := by decide +kernel
theorem d_Model_nextRow_99 : decode b_Model_nextRow 99 = .ok (.iinc 3 1, 3) := by decide +kernel
theorem d_Model_nextRow_102 : decode b_Model_nextRow 102 = .ok (.iinc 4 (-1), 3) := by decide +kernel
theorem d_Model_nextRow_105 : decode b_Model_nextRow 105 = .ok (.goto (-19), 3) := by decide +kernel
theorem d_Model_nextRow_108 : decode b_Model_nextRow 108 = .ok (.iconst 1, 1) := by decide +kernel
theorem d_Model_nextRow_109 : decode b_Model_nextRow 109 = .ok (.ireturn, 1) := by decide +kernel
set_option maxRecDepth 20000 in
theorem c_Model_nextRow {l : Launch} {g : GG} (hI : WI g) (M : Mem) (R : Int32 → Mem → Prop) (h : wp_Model_nextRow  M R) : Met l y_Model_nextRow (wm y_Model_nextRow b_Model_nextRow 5 (some .boolean)) (RM 1 23) (PP g M [.ref (g.2.2.2 29)]) (PQ g (RZ R)) 0 0 (AW g) := by
  refine m_of (own := N_Model) (by decide) rfl (Nat.le_of_ble_eq_true rfl) ?_
  intro p e s m below meth c ls C hr hlocks hW hP hS hl
  obtain ⟨hx, hb, hml, hown, hts⟩ := id C
  have hl : lv_has ls 5 [(0, .ref (g.2.2.2 29))] := hl
  unfold wp_Model_nextRow at h
  obtain ⟨X7, eX7⟩ : ∃ X : Int32 → Mem → Prop, ∀ (x1 : Int32) (M : Mem), X x1 M ↔ (∀ (H : Heap) (locs : List Loc) (ls : Array Slot), WP g M H → va_S (AW g) s.heap H locs → lv_has ls 5 [(0, .ref (g.2.2.2 29)), (1, .int x1)] → W p l e (RM 1 23) s m ([.ref (g.2.2.2 29)] : List Value).toArray below meth c H locs 0 0 (MQ below (PQ g (RZ R)) ([.ref (g.2.2.2 29)] : List Value).toArray s 0 0 (AW g)) (F0 m 7 ls [])) := ⟨fun x1 M => _, fun _ _ => Iff.rfl⟩
  obtain ⟨X47, eX47⟩ : ∃ X : Int32 → Int32 → Mem → Prop, ∀ (x1 : Int32) (x2 : Int32) (M : Mem), X x1 x2 M ↔ (∀ (H : Heap) (locs : List Loc) (ls : Array Slot), WP g M H → va_S (AW g) s.heap H locs → lv_has ls 5 [(0, .ref (g.2.2.2 29)), (1, .int x1), (2, .int x2)] → W p l e (RM 1 23) s m ([.ref (g.2.2.2 29)] : List Value).toArray below meth c H locs 0 0 (MQ below (PQ g (RZ R)) ([.ref (g.2.2.2 29)] : List Value).toArray s 0 0 (AW g)) (F0 m 47 ls [])) := ⟨fun x1 x2 M => _, fun _ _ _ => Iff.rfl⟩
  obtain ⟨X86, eX86⟩ : ∃ X : Int32 → Int32 → Mem → Prop, ∀ (x3 : Int32) (x4 : Int32) (M : Mem), X x3 x4 M ↔ (∀ (H : Heap) (locs : List Loc) (ls : Array Slot), WP g M H → va_S (AW g) s.heap H locs → lv_has ls 5 [(0, .ref (g.2.2.2 29)), (3, .int x3), (4, .int x4)] → W p l e (RM 1 23) s m ([.ref (g.2.2.2 29)] : List Value).toArray below meth c H locs 0 0 (MQ below (PQ g (RZ R)) ([.ref (g.2.2.2 29)] : List Value).toArray s 0 0 (AW g)) (F0 m 86 ls [])) := ⟨fun x3 x4 M => _, fun _ _ _ => Iff.rfl⟩
  have J34 : ∀ (x1 : Int32) (M : Mem), wp_Model_nextRow_34 X7 X47 X86 R x1 M → ∀ (H : Heap) (locs : List Loc) (ls : Array Slot), WP g M H → va_S (AW g) s.heap H locs → lv_has ls 5 [(0, .ref (g.2.2.2 29)), (1, .int x1)] → W p l e (RM 1 23) s m ([.ref (g.2.2.2 29)] : List Value).toArray below meth c H locs 0 0 (MQ below (PQ g (RZ R)) ([.ref (g.2.2.2 29)] : List Value).toArray s 0 0 (AW g)) (F0 m 34 ls []) := by
    intro x1 M hk H locs ls hP hS hl
    unfold wp_Model_nextRow_34 at hk
    refine lv_iload_n hx hb d_Model_nextRow_34 rfl (lv_at hl 1 rfl) ?_
    refine lv_if_ge (tgt := 40) hx hb d_Model_nextRow_35 (by decide) (fun c6 => ?_) (fun c6 => ?_)
    · have hk := hk.1 c6
      refine lv_aload_n hx hb d_Model_nextRow_40 rfl (lv_at hl 0 rfl) ?_
      refine gf_29_6 C hW hP fl_Model_74 d_Model_nextRow_41 ?_
      refine lv_iconst (v := 1) hx hb d_Model_nextRow_44 (by decide) ?_
      refine lv_isub hx hb d_Model_nextRow_45 ?_
      refine lv_topi (fun x2_7 ex2_7 => ?_)
      have hk := hk x2_7 ex2_7
      refine lv_istore_n (lv' := [(2, .int x2_7), (0, .ref (g.2.2.2 29)), (1, .int x1)]) hx hb d_Model_nextRow_46 rfl hl (by decide) rfl (fun ls hl => ?_)
      exact (eX47 x1 x2_7 M).mp hk _ _ _ hP hS (lv_sub hl [1, 2, 0] rfl)
    · have hk := hk.2 c6
      refine lv_iconst (v := 0) hx hb d_Model_nextRow_38 (by decide) ?_
      exact r_zret rfl C hr hlocks hP hS hk d_Model_nextRow_39
  suffices hcl : (∀ (x1 : Int32) (M : Mem), wp_Model_nextRow_7 X7 X47 X86 R x1 M → X7 x1 M) ∧ (∀ (x1 : Int32) (x2 : Int32) (M : Mem), wp_Model_nextRow_47 X7 X47 X86 R x1 x2 M → X47 x1 x2 M) ∧ (∀ (x3 : Int32) (x4 : Int32) (M : Mem), wp_Model_nextRow_86 X7 X47 X86 R x3 x4 M → X86 x3 x4 M) by
    have hk := h X7 X47 X86 (hcl.1) (hcl.2.1) (hcl.2.2)
    refine lv_aload_n hx hb d_Model_nextRow_0 rfl (lv_at hl 0 rfl) ?_
    refine gf_29_6 C hW hP fl_Model_74 d_Model_nextRow_1 ?_
    refine lv_iconst (v := 2) hx hb d_Model_nextRow_4 (by decide) ?_
    refine lv_isub hx hb d_Model_nextRow_5 ?_
    refine lv_topi (fun x1_19 ex1_19 => ?_)
    have hk := hk x1_19 ex1_19
    refine lv_istore_n (lv' := [(1, .int x1_19), (0, .ref (g.2.2.2 29))]) hx hb d_Model_nextRow_6 rfl hl (by decide) rfl (fun ls hl => ?_)
    exact (eX7 x1_19 M).mp hk _ _ _ hP hS (lv_sub hl [1, 0] rfl)
  refine ⟨?_, ?_, ?_⟩
  · intro x1 M hk
    refine (eX7 x1 M).mpr ?_
    intro H locs ls hP hS hl
    unfold wp_Model_nextRow_7 at hk
    refine lv_iload_n hx hb d_Model_nextRow_7 rfl (lv_at hl 1 rfl) ?_
    refine lv_if_lt (tgt := 34) hx hb d_Model_nextRow_8 (by decide) (fun c1 => ?_) (fun c1 => ?_)
    · have hk := hk.1 c1
      exact J34 x1 M hk _ _ _ hP hS (lv_sub hl [0, 1] rfl)
    · have hk := hk.2 c1
      refine lv_aload_n hx hb d_Model_nextRow_11 rfl (lv_at hl 0 rfl) ?_
      refine gf_29_21 C hW hP fl_Model_50 d_Model_nextRow_12 ?_
      refine lv_iload_n hx hb d_Model_nextRow_15 rfl (lv_at hl 1 rfl) ?_
      obtain ⟨h2, hk⟩ := hk
      refine al_42 C hW hP h2 d_Model_nextRow_16 ?_
      refine lv_aload_n hx hb d_Model_nextRow_17 rfl (lv_at hl 0 rfl) ?_
      refine gf_29_21 C hW hP fl_Model_50 d_Model_nextRow_18 ?_
      refine lv_iload_n hx hb d_Model_nextRow_21 rfl (lv_at hl 1 rfl) ?_
      refine lv_iconst (v := 1) hx hb d_Model_nextRow_22 (by decide) ?_
      refine lv_iadd hx hb d_Model_nextRow_23 ?_
      obtain ⟨h3, hk⟩ := hk
      refine al_42 C hW hP h3 d_Model_nextRow_24 ?_
      refine lv_icmp_le (tgt := 34) hx hb d_Model_nextRow_25 (by decide) (fun c4 => ?_) (fun c4 => ?_)
      · have hk := hk.1 c4
        exact J34 x1 M hk _ _ _ hP hS (lv_sub hl [0, 1] rfl)
      · have hk := hk.2 c4
        obtain ⟨x1_5, ex1_5⟩ : ∃ y : Int32, y = x1 + (-1 : Int32) := ⟨_, rfl⟩
        have hk := hk x1_5 ex1_5
        refine lv_iinc (v := x1_5) (lv' := [(1, .int x1_5), (0, .ref (g.2.2.2 29))]) hx hb d_Model_nextRow_28 hl (k := 1) rfl (by rw [ex1_5]; rfl) (by decide) rfl (fun ls hl => ?_)
        refine lv_goto (tgt := 7) hx hb d_Model_nextRow_31 (by decide) ?_
        exact (eX7 x1_5 M).mp hk _ _ _ hP hS (lv_sub hl [1, 0] rfl)
  · intro x1 x2 M hk
    refine (eX47 x1 x2 M).mpr ?_
    intro H locs ls hP hS hl
    unfold wp_Model_nextRow_47 at hk
    refine lv_aload_n hx hb d_Model_nextRow_47 rfl (lv_at hl 0 rfl) ?_
    refine gf_29_21 C hW hP fl_Model_50 d_Model_nextRow_48 ?_
    refine lv_iload_n hx hb d_Model_nextRow_51 rfl (lv_at hl 2 rfl) ?_
    obtain ⟨h8, hk⟩ := hk
    refine al_42 C hW hP h8 d_Model_nextRow_52 ?_
    refine lv_aload_n hx hb d_Model_nextRow_53 rfl (lv_at hl 0 rfl) ?_
    refine gf_29_21 C hW hP fl_Model_50 d_Model_nextRow_54 ?_
    refine lv_iload_n hx hb d_Model_nextRow_57 rfl (lv_at hl 1 rfl) ?_
    obtain ⟨h9, hk⟩ := hk
    refine al_42 C hW hP h9 d_Model_nextRow_58 ?_
    refine lv_icmp_ge (tgt := 68) hx hb d_Model_nextRow_59 (by decide) (fun c10 => ?_) (fun c10 => ?_)
    · have hk := hk.1 c10
      refine lv_aload_n hx hb d_Model_nextRow_68 rfl (lv_at hl 0 rfl) ?_
      refine lv_iload_n hx hb d_Model_nextRow_69 rfl (lv_at hl 1 rfl) ?_
      refine lv_iload_n hx hb d_Model_nextRow_70 rfl (lv_at hl 2 rfl) ?_
      refine r_runV (k_V (As := [.int x1, .int x2]) (rest := []) C hW hP (c_Model_swap hI x1 x2 M _ hk) cb_Model_swap ml_Model_162 (io_29 g M) ⟨by decide, by decide⟩ rfl hl.1 rfl (Nat.le_of_ble_eq_true rfl) d_Model_nextRow_71 ⟨by decide, by decide⟩) hS (fun M11 H locs hk hP hS => ?_)
      refine lv_iload_n hx hb d_Model_nextRow_74 rfl (lv_at hl 1 rfl) ?_
      refine lv_iconst (v := 1) hx hb d_Model_nextRow_75 (by decide) ?_
      refine lv_iadd hx hb d_Model_nextRow_76 ?_
      refine lv_topi (fun x3_12 ex3_12 => ?_)
      have hk := hk x3_12 ex3_12
      refine lv_istore_n (lv' := [(3, .int x3_12), (0, .ref (g.2.2.2 29)), (1, .int x1), (2, .int x2)]) hx hb d_Model_nextRow_77 rfl hl (by decide) rfl (fun ls hl => ?_)
      refine lv_aload_n hx hb d_Model_nextRow_78 rfl (lv_at hl 1 rfl) ?_
      refine gf_29_6 C hW hP fl_Model_74 d_Model_nextRow_79 ?_
      refine lv_iconst (v := 1) hx hb d_Model_nextRow_82 (by decide) ?_
      refine lv_isub hx hb d_Model_nextRow_83 ?_
      refine lv_topi (fun x4_13 ex4_13 => ?_)
      have hk := hk x4_13 ex4_13
      refine lv_istore (lv' := [(4, .int x4_13), (3, .int x3_12), (0, .ref (g.2.2.2 29)), (1, .int x1), (2, .int x2)]) hx hb d_Model_nextRow_84 hl (by decide) rfl (fun ls hl => ?_)
      exact (eX86 x3_12 x4_13 M11).mp hk _ _ _ hP hS (lv_sub hl [2, 1, 0] rfl)
    · have hk := hk.2 c10
      obtain ⟨x2_14, ex2_14⟩ : ∃ y : Int32, y = x2 + (-1 : Int32) := ⟨_, rfl⟩
      have hk := hk x2_14 ex2_14
      refine lv_iinc (v := x2_14) (lv' := [(2, .int x2_14), (0, .ref (g.2.2.2 29)), (1, .int x1)]) hx hb d_Model_nextRow_62 hl (k := 2) rfl (by rw [ex2_14]; rfl) (by decide) rfl (fun ls hl => ?_)
      refine lv_goto (tgt := 47) hx hb d_Model_nextRow_65 (by decide) ?_
      exact (eX47 x1 x2_14 M).mp hk _ _ _ hP hS (lv_sub hl [1, 2, 0] rfl)
  · intro x3 x4 M hk
    refine (eX86 x3 x4 M).mpr ?_
    intro H locs ls hP hS hl
    unfold wp_Model_nextRow_86 at hk
    refine lv_iload_n hx hb d_Model_nextRow_86 rfl (lv_at hl 1 rfl) ?_
    refine lv_iload hx hb d_Model_nextRow_87 (lv_at hl 2 rfl) ?_
    refine lv_icmp_ge (tgt := 108) hx hb d_Model_nextRow_89 (by decide) (fun c15 => ?_) (fun c15 => ?_)
    · have hk := hk.1 c15
      refine lv_iconst (v := 1) hx hb d_Model_nextRow_108 (by decide) ?_
      exact r_zret rfl C hr hlocks hP hS hk d_Model_nextRow_109
    · have hk := hk.2 c15
      refine lv_aload_n hx hb d_Model_nextRow_92 rfl (lv_at hl 0 rfl) ?_
      refine lv_iload_n hx hb d_Model_nextRow_93 rfl (lv_at hl 1 rfl) ?_
      refine lv_iload hx hb d_Model_nextRow_94 (lv_at hl 2 rfl) ?_
      refine r_runV (k_V (As := [.int x3, .int x4]) (rest := []) C hW hP (c_Model_swap hI x3 x4 M _ hk) cb_Model_swap ml_Model_162 (io_29 g M) ⟨by decide, by decide⟩ rfl hl.1 rfl (Nat.le_of_ble_eq_true rfl) d_Model_nextRow_96 ⟨by decide, by decide⟩) hS (fun M16 H locs hk hP hS => ?_)
      obtain ⟨x3_17, ex3_17⟩ : ∃ y : Int32, y = x3 + (1 : Int32) := ⟨_, rfl⟩
      have hk := hk x3_17 ex3_17
      refine lv_iinc (v := x3_17) (lv' := [(3, .int x3_17), (0, .ref (g.2.2.2 29)), (4, .int x4)]) hx hb d_Model_nextRow_99 hl (k := 1) rfl (by rw [ex3_17]; rfl) (by decide) rfl (fun ls hl => ?_)
      obtain ⟨x4_18, ex4_18⟩ : ∃ y : Int32, y = x4 + (-1 : Int32) := ⟨_, rfl⟩
      have hk := hk x4_18 ex4_18
      refine lv_iinc (v := x4_18) (lv' := [(4, .int x4_18), (3, .int x3_17), (0, .ref (g.2.2.2 29))]) hx hb d_Model_nextRow_102 hl (k := 2) rfl (by rw [ex4_18]; rfl) (by decide) rfl (fun ls hl => ?_)
      refine lv_goto (tgt := 86) hx hb d_Model_nextRow_105 (by decide) ?_
      exact (eX86 x3_17 x4_18 M16).mp hk _ _ _ hP hS (lv_sub hl [2, 1, 0] rfl)
theorem d_Model_best_0 : decode b_Model_best 0 = .ok (.iload_n 1, 1) := by decide +kernel
theorem d_Model_best_1 : decode b_Model_best 1 = .ok (.iconst (-1), 1) := by decide +kernel
theorem d_Model_best_2 : decode b_Model_best 2 = .ok (.if_icmp .ge 5, 3) := by decide +kernel
theorem d_Model_best_5 : decode b_Model_best 5 = .ok (.iconst (-1), 1) := by decide +kernel
theorem d_Model_best_6 : decode b_Model_best 6 = .ok (.ireturn, 1) := by decide +kernel
theorem d_Model_best_7 : decode b_Model_best 7 = .ok (.aload_n 0, 1) := by decide +kernel
theorem d_Model_best_8 : decode b_Model_best 8 = .ok (.getfield 71, 3) := by decide +kernel
theorem d_Model_best_11 : decode b_Model_best 11 = .ok (.ifCond .ne 6, 3) := by decide +kernel
theorem d_Model_best_14 : decode b_Model_best 14 = .ok (.bipush (-3), 2) := by decide +kernel
theorem d_Model_best_16 : decode b_Model_best 16 = .ok (.ireturn, 1) := by decide +kernel
theorem d_Model_best_17 : decode b_Model_best 17 = .ok (.bipush (-9), 2) := by decide +kernel
theorem d_Model_best_19 : decode b_Model_best 19 = .ok (.istore_n 2, 1) := by decide +kernel
theorem d_Model_best_20 : decode b_Model_best 20 = .ok (.iconst 1, 1) := by decide +kernel
theorem d_Model_best_21 : decode b_Model_best 21 = .ok (.istore_n 3, 1) := by decide +kernel
theorem d_Model_best_22 : decode b_Model_best 22 = .ok (.aload_n 0, 1) := by decide +kernel
theorem d_Model_best_23 : decode b_Model_best 23 = .ok (.invokevirtual 166, 3) := by decide +kernel
theorem d_Model_best_26 : decode b_Model_best 26 = .ok (.iload_n 3, 1) := by decide +kernel
theorem d_Model_best_27 : decode b_Model_best 27 = .ok (.ifCond .eq 60, 3) := by decide +kernel
theorem d_Model_best_30 : decode b_Model_best 30 = .ok (.aload_n 0, 1) := by decide +kernel
theorem d_Model_best_31 : decode b_Model_best 31 = .ok (.invokevirtual 169, 3) := by decide +kernel
theorem d_Model_best_34 : decode b_Model_best 34 = .ok (.aload_n 0, 1) := by decide +kernel
theorem d_Model_best_35 : decode b_Model_best 35 = .ok (.invokevirtual 172, 3) := by decide +kernel
theorem d_Model_best_38 : decode b_Model_best 38 = .ok (.iload_n 2, 1) := by decide +kernel
theorem d_Model_best_39 : decode b_Model_best 39 = .ok (.if_icmp .le 40, 3) := by decide +kernel
theorem d_Model_best_42 : decode b_Model_best 42 = .ok (.aload_n 0, 1) := by decide +kernel
theorem d_Model_best_43 : decode b_Model_best 43 = .ok (.invokevirtual 172, 3) := by decide +kernel
theorem d_Model_best_46 : decode b_Model_best 46 = .ok (.istore_n 2, 1) := by decide +kernel
theorem d_Model_best_47 : decode b_Model_best 47 = .ok (.iconst 0, 1) := by decide +kernel
theorem d_Model_best_48 : decode b_Model_best 48 = .ok (.istore 4, 2) := by decide +kernel
theorem d_Model_best_50 : decode b_Model_best 50 = .ok (.iload 4, 2) := by decide +kernel
theorem d_Model_best_52 : decode b_Model_best 52 = .ok (.aload_n 0, 1) := by decide +kernel
theorem d_Model_best_53 : decode b_Model_best 53 = .ok (.getfield 74, 3) := by decide +kernel
theorem d_Model_best_56 : decode b_Model_best 56 = .ok (.if_icmp .ge 23, 3) := by decide +kernel
theorem d_Model_best_59 : decode b_Model_best 59 = .ok (.aload_n 0, 1) := by decide +kernel
theorem d_Model_best_60 : decode b_Model_best 60 = .ok (.getfield 53, 3) := by decide +kernel
theorem d_Model_best_63 : decode b_Model_best 63 = .ok (.iload 4, 2) := by decide +kernel
theorem d_Model_best_65 : decode b_Model_best 65 = .ok (.aload_n 0, 1) := by decide +kernel
theorem d_Model_best_66 : decode b_Model_best 66 = .ok (.getfield 50, 3) := by decide +kernel
theorem d_Model_best_69 : decode b_Model_best 69 = .ok (.iload 4, 2) := by decide +kernel
theorem d_Model_best_71 : decode b_Model_best 71 = .ok (.iaload, 1) := by decide +kernel
theorem d_Model_best_72 : decode b_Model_best 72 = .ok (.iastore, 1) := by decide +kernel
theorem d_Model_best_73 : decode b_Model_best 73 = .ok (.iinc 4 1, 3) := by decide +kernel
theorem d_Model_best_76 : decode b_Model_best 76 = .ok (.goto (-26), 3) := by decide +kernel
theorem d_Model_best_79 : decode b_Model_best 79 = .ok (.aload_n 0, 1) := by decide +kernel
theorem d_Model_best_80 : decode b_Model_best 80 = .ok (.invokevirtual 175, 3) := by decide +kernel
theorem d_Model_best_83 : decode b_Model_best 83 = .ok (.istore_n 3, 1) := by decide +kernel
theorem d_Model_best_84 : decode b_Model_best 84 = .ok (.goto (-58), 3) := by decide +kernel
theorem d_Model_best_87 : decode b_Model_best 87 = .ok (.iload_n 1, 1) := by decide +kernel
theorem d_Model_best_88 : decode b_Model_best 88 = .ok (.iconst (-1), 1) := by decide +kernel
theorem d_Model_best_89 : decode b_Model_best 89 = .ok (.if_icmp .ne 7, 3) := by decide +kernel
theorem d_Model_best_92 : decode b_Model_best 92 = .ok (.iload_n 2, 1) := by decide +kernel
theorem d_Model_best_93 : decode b_Model_best 93 = .ok (.goto 22, 3) := by decide +kernel
theorem d_Model_best_96 : decode b_Model_best 96 = .ok (.iload_n 1, 1) := by decide +kernel
theorem d_Model_best_97 : decode b_Model_best 97 = .ok (.aload_n 0, 1) := by decide +kernel
theorem d_Model_best_98 : decode b_Model_best 98 = .ok (.getfield 74, 3) := by decide +kernel
theorem d_Model_best_101 : decode b_Model_best 101 = .ok (.if_icmp .ge 12, 3) := by decide +kernel
theorem d_Model_best_104 : decode b_Model_best 104 = .ok (.aload_n 0, 1) := by decide +kernel
theorem d_Model_best_105 : decode b_Model_best 105 = .ok (.getfield 53, 3) := by decide +kernel
theorem d_Model_best_108 : decode b_Model_best 108 = .ok (.iload_n 1, 1) := by decide +kernel
theorem d_Model_best_109 : decode b_Model_best 109 = .ok (.iaload, 1) := by decide +kernel
theorem d_Model_best_110 : decode b_Model_best 110 = .ok (.goto 5, 3) := by decide +kernel
theorem d_Model_best_113 : decode b_Model_best 113 = .ok (.bipush (-9), 2) := by decide +kernel
theorem d_Model_best_115 : decode b_Model_best 115 = .ok (.ireturn, 1) := by decide +kernel
set_option maxRecDepth 20000 in
theorem c_Model_best {l : Launch} {g : GG} (hI : WI g) (a1 : Int32) (M : Mem) (R : Int32 → Mem → Prop) (h : wp_Model_best a1 M R) : Met l y_Model_best (wm y_Model_best b_Model_best 5 (some .int)) (RM 4 94) (PP g M [.ref (g.2.2.2 29), .int a1]) (PQ g (RI R)) 0 0 (AW g) := by
  refine m_of (own := N_Model) (by decide) rfl (Nat.le_of_ble_eq_true rfl) ?_
  intro p e s m below meth c ls C hr hlocks hW hP hS hl
  obtain ⟨hx, hb, hml, hown, hts⟩ := id C
  have hl : lv_has ls 5 [(0, .ref (g.2.2.2 29)), (1, .int a1)] := hl
  unfold wp_Model_best at h
  obtain ⟨X26, eX26⟩ : ∃ X : Int32 → Int32 → Int32 → Mem → Prop, ∀ (x1 : Int32) (x2 : Int32) (x3 : Int32) (M : Mem), X x1 x2 x3 M ↔ (∀ (H : Heap) (locs : List Loc) (ls : Array Slot), WP g M H → va_S (AW g) s.heap H locs → lv_has ls 5 [(0, .ref (g.2.2.2 29)), (1, .int x1), (2, .int x2), (3, .int x3)] → W p l e (RM 4 94) s m ([.ref (g.2.2.2 29), .int a1] : List Value).toArray below meth c H locs 0 0 (MQ below (PQ g (RI R)) ([.ref (g.2.2.2 29), .int a1] : List Value).toArray s 0 0 (AW g)) (F0 m 26 ls [])) := ⟨fun x1 x2 x3 M => _, fun _ _ _ _ => Iff.rfl⟩
  obtain ⟨X50, eX50⟩ : ∃ X : Int32 → Int32 → Int32 → Mem → Prop, ∀ (x1 : Int32) (x2 : Int32) (x4 : Int32) (M : Mem), X x1 x2 x4 M ↔ (∀ (H : Heap) (locs : List Loc) (ls : Array Slot), WP g M H → va_S (AW g) s.heap H locs → lv_has ls 5 [(0, .ref (g.2.2.2 29)), (1, .int x1), (2, .int x2), (4, .int x4)] → W p l e (RM 4 94) s m ([.ref (g.2.2.2 29), .int a1] : List Value).toArray below meth c H locs 0 0 (MQ below (PQ g (RI R)) ([.ref (g.2.2.2 29), .int a1] : List Value).toArray s 0 0 (AW g)) (F0 m 50 ls [])) := ⟨fun x1 x2 x4 M => _, fun _ _ _ _ => Iff.rfl⟩
  have J79 : ∀ (x1 : Int32) (x2 : Int32) (M : Mem), wp_Model_best_79 X26 X50 R x1 x2 M → ∀ (H : Heap) (locs : List Loc) (ls : Array Slot), WP g M H → va_S (AW g) s.heap H locs → lv_has ls 5 [(0, .ref (g.2.2.2 29)), (1, .int x1), (2, .int x2)] → W p l e (RM 4 94) s m ([.ref (g.2.2.2 29), .int a1] : List Value).toArray below meth c H locs 0 0 (MQ below (PQ g (RI R)) ([.ref (g.2.2.2 29), .int a1] : List Value).toArray s 0 0 (AW g)) (F0 m 79 ls []) := by
    intro x1 x2 M hk H locs ls hP hS hl
    unfold wp_Model_best_79 at hk
    refine lv_aload_n hx hb d_Model_best_79 rfl (lv_at hl 0 rfl) ?_
    refine r_runZ (k_V (As := []) (rest := []) C hW hP (c_Model_nextRow hI M _ hk) cb_Model_nextRow ml_Model_175 (io_29 g M) ⟨by decide, by decide⟩ rfl hl.1 rfl (Nat.le_of_ble_eq_true rfl) d_Model_best_80 ⟨by decide, by decide⟩) hS (fun r17 M16 H locs zr17 hk hP hS => ?_)
    refine lv_istore_n (lv' := [(3, .int r17), (0, .ref (g.2.2.2 29)), (1, .int x1), (2, .int x2)]) hx hb d_Model_best_83 rfl hl (by decide) rfl (fun ls hl => ?_)
    refine lv_goto (tgt := 26) hx hb d_Model_best_84 (by decide) ?_
    exact (eX26 x1 x2 r17 M16).mp hk _ _ _ hP hS (lv_sub hl [1, 2, 3, 0] rfl)
  suffices hcl : (∀ (x1 : Int32) (x2 : Int32) (x3 : Int32) (M : Mem), wp_Model_best_26 X26 X50 R x1 x2 x3 M → X26 x1 x2 x3 M) ∧ (∀ (x1 : Int32) (x2 : Int32) (x4 : Int32) (M : Mem), wp_Model_best_50 X26 X50 R x1 x2 x4 M → X50 x1 x2 x4 M) by
    have hk := h X26 X50 (hcl.1) (hcl.2)
    refine lv_iload_n hx hb d_Model_best_0 rfl (lv_at hl 1 rfl) ?_
    refine lv_iconst (v := -1) hx hb d_Model_best_1 (by decide) ?_
    refine lv_icmp_ge (tgt := 7) hx hb d_Model_best_2 (by decide) (fun c18 => ?_) (fun c18 => ?_)
    · have hk := hk.1 c18
      refine lv_aload_n hx hb d_Model_best_7 rfl (lv_at hl 0 rfl) ?_
      refine gf_29_5 C hW hP fl_Model_71 d_Model_best_8 ?_
      refine lv_if_ne (tgt := 17) hx hb d_Model_best_11 (by decide) (fun c19 => ?_) (fun c19 => ?_)
      · have hk := hk.1 c19
        refine lv_bipush (v := -9) hx hb d_Model_best_17 (by decide) ?_
        refine lv_istore_n (lv' := [(2, .int (-9 : Int32)), (0, .ref (g.2.2.2 29)), (1, .int a1)]) hx hb d_Model_best_19 rfl hl (by decide) rfl (fun ls hl => ?_)
        refine lv_iconst (v := 1) hx hb d_Model_best_20 (by decide) ?_
        refine lv_istore_n (lv' := [(3, .int (1 : Int32)), (2, .int (-9 : Int32)), (0, .ref (g.2.2.2 29)), (1, .int a1)]) hx hb d_Model_best_21 rfl hl (by decide) rfl (fun ls hl => ?_)
        refine lv_aload_n hx hb d_Model_best_22 rfl (lv_at hl 2 rfl) ?_
        refine r_runV (k_V (As := []) (rest := []) C hW hP (c_Model_beginRows hI M _ hk) cb_Model_beginRows ml_Model_166 (io_29 g M) ⟨by decide, by decide⟩ rfl hl.1 rfl (Nat.le_of_ble_eq_true rfl) d_Model_best_23 ⟨by decide, by decide⟩) hS (fun M20 H locs hk hP hS => ?_)
        exact (eX26 a1 (-9 : Int32) (1 : Int32) M20).mp hk _ _ _ hP hS (lv_sub hl [2, 3, 1, 0] rfl)
      · have hk := hk.2 c19
        refine lv_bipush (v := -3) hx hb d_Model_best_14 (by decide) ?_
        exact r_iret C hr hlocks hP hS hk d_Model_best_16
    · have hk := hk.2 c18
      refine lv_iconst (v := -1) hx hb d_Model_best_5 (by decide) ?_
      exact r_iret C hr hlocks hP hS hk d_Model_best_6
  refine ⟨?_, ?_⟩
  · intro x1 x2 x3 M hk
    refine (eX26 x1 x2 x3 M).mpr ?_
    intro H locs ls hP hS hl
    unfold wp_Model_best_26 at hk
    refine lv_iload_n hx hb d_Model_best_26 rfl (lv_at hl 3 rfl) ?_
    refine lv_if_eq (tgt := 87) hx hb d_Model_best_27 (by decide) (fun c1 => ?_) (fun c1 => ?_)
    · have hk := hk.1 c1
      refine lv_iload_n hx hb d_Model_best_87 rfl (lv_at hl 1 rfl) ?_
      refine lv_iconst (v := -1) hx hb d_Model_best_88 (by decide) ?_
      refine lv_icmp_ne (tgt := 96) hx hb d_Model_best_89 (by decide) (fun c2 => ?_) (fun c2 => ?_)
      · have hk := hk.1 c2
        refine lv_iload_n hx hb d_Model_best_96 rfl (lv_at hl 1 rfl) ?_
        refine lv_aload_n hx hb d_Model_best_97 rfl (lv_at hl 0 rfl) ?_
        refine gf_29_6 C hW hP fl_Model_74 d_Model_best_98 ?_
        refine lv_icmp_ge (tgt := 113) hx hb d_Model_best_101 (by decide) (fun c3 => ?_) (fun c3 => ?_)
        · have hk := hk.1 c3
          refine lv_bipush (v := -9) hx hb d_Model_best_113 (by decide) ?_
          exact r_iret C hr hlocks hP hS hk d_Model_best_115
        · have hk := hk.2 c3
          refine lv_aload_n hx hb d_Model_best_104 rfl (lv_at hl 0 rfl) ?_
          refine gf_29_22 C hW hP fl_Model_53 d_Model_best_105 ?_
          refine lv_iload_n hx hb d_Model_best_108 rfl (lv_at hl 1 rfl) ?_
          obtain ⟨h4, hk⟩ := hk
          refine al_43 C hW hP h4 d_Model_best_109 ?_
          refine lv_goto (tgt := 115) hx hb d_Model_best_110 (by decide) ?_
          exact r_iret C hr hlocks hP hS hk d_Model_best_115
      · have hk := hk.2 c2
        refine lv_iload_n hx hb d_Model_best_92 rfl (lv_at hl 2 rfl) ?_
        refine lv_goto (tgt := 115) hx hb d_Model_best_93 (by decide) ?_
        exact r_iret C hr hlocks hP hS hk d_Model_best_115
    · have hk := hk.2 c1
      refine lv_aload_n hx hb d_Model_best_30 rfl (lv_at hl 0 rfl) ?_
      refine r_runV (k_V (As := []) (rest := []) C hW hP (c_Model_goRow hI M _ hk) cb_Model_goRow ml_Model_169 (io_29 g M) ⟨by decide, by decide⟩ rfl hl.1 rfl (Nat.le_of_ble_eq_true rfl) d_Model_best_31 ⟨by decide, by decide⟩) hS (fun M5 H locs hk hP hS => ?_)
      refine lv_aload_n hx hb d_Model_best_34 rfl (lv_at hl 0 rfl) ?_
      refine r_runI (k_V (As := []) (rest := []) C hW hP (c_Model_throughNow hI M5 _ hk) cb_Model_throughNow ml_Model_172 (io_29 g M5) ⟨by decide, by decide⟩ rfl hl.1 rfl (Nat.le_of_ble_eq_true rfl) d_Model_best_35 ⟨by decide, by decide⟩) hS (fun r7 M6 H locs hk hP hS => ?_)
      refine lv_iload_n hx hb d_Model_best_38 rfl (lv_at hl 2 rfl) ?_
      refine lv_icmp_le (tgt := 79) hx hb d_Model_best_39 (by decide) (fun c8 => ?_) (fun c8 => ?_)
      · have hk := hk.1 c8
        exact J79 x1 x2 M6 hk _ _ _ hP hS (lv_sub hl [0, 1, 2] rfl)
      · have hk := hk.2 c8
        refine lv_aload_n hx hb d_Model_best_42 rfl (lv_at hl 0 rfl) ?_
        refine r_runI (k_V (As := []) (rest := []) C hW hP (c_Model_throughNow hI M6 _ hk) cb_Model_throughNow ml_Model_172 (io_29 g M6) ⟨by decide, by decide⟩ rfl hl.1 rfl (Nat.le_of_ble_eq_true rfl) d_Model_best_43 ⟨by decide, by decide⟩) hS (fun r10 M9 H locs hk hP hS => ?_)
        refine lv_istore_n (lv' := [(2, .int r10), (0, .ref (g.2.2.2 29)), (1, .int x1), (3, .int x3)]) hx hb d_Model_best_46 rfl hl (by decide) rfl (fun ls hl => ?_)
        refine lv_iconst (v := 0) hx hb d_Model_best_47 (by decide) ?_
        refine lv_istore (lv' := [(4, .int (0 : Int32)), (2, .int r10), (0, .ref (g.2.2.2 29)), (1, .int x1), (3, .int x3)]) hx hb d_Model_best_48 hl (by decide) rfl (fun ls hl => ?_)
        exact (eX50 x1 r10 (0 : Int32) M9).mp hk _ _ _ hP hS (lv_sub hl [2, 3, 1, 0] rfl)
  · intro x1 x2 x4 M hk
    refine (eX50 x1 x2 x4 M).mpr ?_
    intro H locs ls hP hS hl
    unfold wp_Model_best_50 at hk
    refine lv_iload hx hb d_Model_best_50 (lv_at hl 3 rfl) ?_
    refine lv_aload_n hx hb d_Model_best_52 rfl (lv_at hl 0 rfl) ?_
    refine gf_29_6 C hW hP fl_Model_74 d_Model_best_53 ?_
    refine lv_icmp_ge (tgt := 79) hx hb d_Model_best_56 (by decide) (fun c11 => ?_) (fun c11 => ?_)
    · have hk := hk.1 c11
      exact J79 x1 x2 M hk _ _ _ hP hS (lv_sub hl [0, 1, 2] rfl)
    · have hk := hk.2 c11
      refine lv_aload_n hx hb d_Model_best_59 rfl (lv_at hl 0 rfl) ?_
      refine gf_29_22 C hW hP fl_Model_53 d_Model_best_60 ?_
      refine lv_iload hx hb d_Model_best_63 (lv_at hl 3 rfl) ?_
      refine lv_aload_n hx hb d_Model_best_65 rfl (lv_at hl 0 rfl) ?_
      refine gf_29_21 C hW hP fl_Model_50 d_Model_best_66 ?_
      refine lv_iload hx hb d_Model_best_69 (lv_at hl 3 rfl) ?_
      obtain ⟨h12, hk⟩ := hk
      refine al_42 C hW hP h12 d_Model_best_71 ?_
      obtain ⟨h13, hk⟩ := hk
      refine as_43 hI C hW hP hS h13 d_Model_best_72 (fun M14 eM14 H locs hP hS => ?_)
      have hk := hk M14 eM14
      obtain ⟨x4_15, ex4_15⟩ : ∃ y : Int32, y = x4 + (1 : Int32) := ⟨_, rfl⟩
      have hk := hk x4_15 ex4_15
      refine lv_iinc (v := x4_15) (lv' := [(4, .int x4_15), (0, .ref (g.2.2.2 29)), (1, .int x1), (2, .int x2)]) hx hb d_Model_best_73 hl (k := 3) rfl (by rw [ex4_15]; rfl) (by decide) rfl (fun ls hl => ?_)
      refine lv_goto (tgt := 50) hx hb d_Model_best_76 (by decide) ?_
      exact (eX50 x1 x2 x4_15 M14).mp hk _ _ _ hP hS (lv_sub hl [1, 2, 3, 0] rfl)
theorem d_Model_layMates_0 : decode b_Model_layMates 0 = .ok (.iload_n 1, 1) := by decide +kernel
theorem d_Model_layMates_1 : decode b_Model_layMates 1 = .ok (.istore_n 2, 1) := by decide +kernel
theorem d_Model_layMates_2 : decode b_Model_layMates 2 = .ok (.aload_n 0, 1) := by decide +kernel
theorem d_Model_layMates_3 : decode b_Model_layMates 3 = .ok (.getfield 74, 3) := by decide +kernel
theorem d_Model_layMates_6 : decode b_Model_layMates 6 = .ok (.iconst 1, 1) := by decide +kernel
theorem d_Model_layMates_7 : decode b_Model_layMates 7 = .ok (.isub, 1) := by decide +kernel
theorem d_Model_layMates_8 : decode b_Model_layMates 8 = .ok (.istore_n 3, 1) := by decide +kernel
theorem d_Model_layMates_9 : decode b_Model_layMates 9 = .ok (.iload_n 3, 1) := by decide +kernel
theorem d_Model_layMates_10 : decode b_Model_layMates 10 = .ok (.ifCond .lt 28, 3) := by decide +kernel
theorem d_Model_layMates_13 : decode b_Model_layMates 13 = .ok (.aload_n 0, 1) := by decide +kernel
theorem d_Model_layMates_14 : decode b_Model_layMates 14 = .ok (.getfield 50, 3) := by decide +kernel
theorem d_Model_layMates_17 : decode b_Model_layMates 17 = .ok (.iload_n 3, 1) := by decide +kernel
theorem d_Model_layMates_18 : decode b_Model_layMates 18 = .ok (.iload_n 2, 1) := by decide +kernel
theorem d_Model_layMates_19 : decode b_Model_layMates 19 = .ok (.aload_n 0, 1) := by decide +kernel
theorem d_Model_layMates_20 : decode b_Model_layMates 20 = .ok (.getfield 74, 3) := by decide +kernel
theorem d_Model_layMates_23 : decode b_Model_layMates 23 = .ok (.irem, 1) := by decide +kernel
theorem d_Model_layMates_24 : decode b_Model_layMates 24 = .ok (.iastore, 1) := by decide +kernel
theorem d_Model_layMates_25 : decode b_Model_layMates 25 = .ok (.iload_n 2, 1) := by decide +kernel
theorem d_Model_layMates_26 : decode b_Model_layMates 26 = .ok (.aload_n 0, 1) := by decide +kernel
theorem d_Model_layMates_27 : decode b_Model_layMates 27 = .ok (.getfield 74, 3) := by decide +kernel
theorem d_Model_layMates_30 : decode b_Model_layMates 30 = .ok (.idiv, 1) := by decide +kernel
theorem d_Model_layMates_31 : decode b_Model_layMates 31 = .ok (.istore_n 2, 1) := by decide +kernel
theorem d_Model_layMates_32 : decode b_Model_layMates 32 = .ok (.iinc 3 (-1), 3) := by decide +kernel
theorem d_Model_layMates_35 : decode b_Model_layMates 35 = .ok (.goto (-26), 3) := by decide +kernel
theorem d_Model_layMates_38 : decode b_Model_layMates 38 = .ok (.iconst 0, 1) := by decide +kernel
theorem d_Model_layMates_39 : decode b_Model_layMates 39 = .ok (.istore_n 3, 1) := by decide +kernel
theorem d_Model_layMates_40 : decode b_Model_layMates 40 = .ok (.iload_n 3, 1) := by decide +kernel
theorem d_Model_layMates_41 : decode b_Model_layMates 41 = .ok (.aload_n 0, 1) := by decide +kernel
theorem d_Model_layMates_42 : decode b_Model_layMates 42 = .ok (.getfield 74, 3) := by decide +kernel
theorem d_Model_layMates_45 : decode b_Model_layMates 45 = .ok (.if_icmp .ge 26, 3) := by decide +kernel
theorem d_Model_layMates_48 : decode b_Model_layMates 48 = .ok (.aload_n 0, 1) := by decide +kernel
theorem d_Model_layMates_49 : decode b_Model_layMates 49 = .ok (.getfield 50, 3) := by decide +kernel
theorem d_Model_layMates_52 : decode b_Model_layMates 52 = .ok (.aload_n 0, 1) := by decide +kernel
theorem d_Model_layMates_53 : decode b_Model_layMates 53 = .ok (.getfield 50, 3) := by decide +kernel
theorem d_Model_layMates_56 : decode b_Model_layMates 56 = .ok (.iload_n 3, 1) := by decide +kernel
theorem d_Model_layMates_57 : decode b_Model_layMates 57 = .ok (.iaload, 1) := by decide +kernel
theorem d_Model_layMates_58 : decode b_Model_layMates 58 = .ok (.iaload, 1) := by decide +kernel
theorem d_Model_layMates_59 : decode b_Model_layMates 59 = .ok (.iload_n 3, 1) := by decide +kernel
theorem d_Model_layMates_60 : decode b_Model_layMates 60 = .ok (.if_icmp .eq 5, 3) := by decide +kernel
theorem d_Model_layMates_63 : decode b_Model_layMates 63 = .ok (.iconst 0, 1) := by decide +kernel
theorem d_Model_layMates_64 : decode b_Model_layMates 64 = .ok (.ireturn, 1) := by decide +kernel
theorem d_Model_layMates_65 : decode b_Model_layMates 65 = .ok (.iinc 3 1, 3) := by decide +kernel
theorem d_Model_layMates_68 : decode b_Model_layMates 68 = .ok (.goto (-28), 3) := by decide +kernel
theorem d_Model_layMates_71 : decode b_Model_layMates 71 = .ok (.iconst 1, 1) := by decide +kernel
theorem d_Model_layMates_72 : decode b_Model_layMates 72 = .ok (.ireturn, 1) := by decide +kernel
set_option maxRecDepth 20000 in
theorem c_Model_layMates {l : Launch} {g : GG} (hI : WI g) (a1 : Int32) (M : Mem) (R : Int32 → Mem → Prop) (h : wp_Model_layMates a1 M R) : Met l y_Model_layMates (wm y_Model_layMates b_Model_layMates 4 (some .boolean)) (RM 0 0) (PP g M [.ref (g.2.2.2 29), .int a1]) (PQ g (RZ R)) 0 0 (AW g) := by
  refine m_of (own := N_Model) (by decide) rfl (Nat.le_of_ble_eq_true rfl) ?_
  intro p e s m below meth c ls C hr hlocks hW hP hS hl
  obtain ⟨hx, hb, hml, hown, hts⟩ := id C
  have hl : lv_has ls 4 [(0, .ref (g.2.2.2 29)), (1, .int a1)] := hl
  unfold wp_Model_layMates at h
  obtain ⟨X9, eX9⟩ : ∃ X : Int32 → Int32 → Mem → Prop, ∀ (x2 : Int32) (x3 : Int32) (M : Mem), X x2 x3 M ↔ (∀ (H : Heap) (locs : List Loc) (ls : Array Slot), WP g M H → va_S (AW g) s.heap H locs → lv_has ls 4 [(0, .ref (g.2.2.2 29)), (2, .int x2), (3, .int x3)] → W p l e (RM 0 0) s m ([.ref (g.2.2.2 29), .int a1] : List Value).toArray below meth c H locs 0 0 (MQ below (PQ g (RZ R)) ([.ref (g.2.2.2 29), .int a1] : List Value).toArray s 0 0 (AW g)) (F0 m 9 ls [])) := ⟨fun x2 x3 M => _, fun _ _ _ => Iff.rfl⟩
  obtain ⟨X40, eX40⟩ : ∃ X : Int32 → Mem → Prop, ∀ (x3 : Int32) (M : Mem), X x3 M ↔ (∀ (H : Heap) (locs : List Loc) (ls : Array Slot), WP g M H → va_S (AW g) s.heap H locs → lv_has ls 4 [(0, .ref (g.2.2.2 29)), (3, .int x3)] → W p l e (RM 0 0) s m ([.ref (g.2.2.2 29), .int a1] : List Value).toArray below meth c H locs 0 0 (MQ below (PQ g (RZ R)) ([.ref (g.2.2.2 29), .int a1] : List Value).toArray s 0 0 (AW g)) (F0 m 40 ls [])) := ⟨fun x3 M => _, fun _ _ => Iff.rfl⟩
  suffices hcl : (∀ (x2 : Int32) (x3 : Int32) (M : Mem), wp_Model_layMates_9 X9 X40 R x2 x3 M → X9 x2 x3 M) ∧ (∀ (x3 : Int32) (M : Mem), wp_Model_layMates_40 X9 X40 R x3 M → X40 x3 M) by
    have hk := h X9 X40 (hcl.1) (hcl.2)
    refine lv_iload_n hx hb d_Model_layMates_0 rfl (lv_at hl 1 rfl) ?_
    refine lv_istore_n (lv' := [(2, .int a1), (0, .ref (g.2.2.2 29)), (1, .int a1)]) hx hb d_Model_layMates_1 rfl hl (by decide) rfl (fun ls hl => ?_)
    refine lv_aload_n hx hb d_Model_layMates_2 rfl (lv_at hl 1 rfl) ?_
    refine gf_29_6 C hW hP fl_Model_74 d_Model_layMates_3 ?_
    refine lv_iconst (v := 1) hx hb d_Model_layMates_6 (by decide) ?_
    refine lv_isub hx hb d_Model_layMates_7 ?_
    refine lv_topi (fun x3_13 ex3_13 => ?_)
    have hk := hk x3_13 ex3_13
    refine lv_istore_n (lv' := [(3, .int x3_13), (2, .int a1), (0, .ref (g.2.2.2 29)), (1, .int a1)]) hx hb d_Model_layMates_8 rfl hl (by decide) rfl (fun ls hl => ?_)
    exact (eX9 a1 x3_13 M).mp hk _ _ _ hP hS (lv_sub hl [2, 1, 0] rfl)
  refine ⟨?_, ?_⟩
  · intro x2 x3 M hk
    refine (eX9 x2 x3 M).mpr ?_
    intro H locs ls hP hS hl
    unfold wp_Model_layMates_9 at hk
    refine lv_iload_n hx hb d_Model_layMates_9 rfl (lv_at hl 2 rfl) ?_
    refine lv_if_lt (tgt := 38) hx hb d_Model_layMates_10 (by decide) (fun c1 => ?_) (fun c1 => ?_)
    · have hk := hk.1 c1
      refine lv_iconst (v := 0) hx hb d_Model_layMates_38 (by decide) ?_
      refine lv_istore_n (lv' := [(3, .int (0 : Int32)), (0, .ref (g.2.2.2 29)), (2, .int x2)]) hx hb d_Model_layMates_39 rfl hl (by decide) rfl (fun ls hl => ?_)
      exact (eX40 (0 : Int32) M).mp hk _ _ _ hP hS (lv_sub hl [1, 0] rfl)
    · have hk := hk.2 c1
      refine lv_aload_n hx hb d_Model_layMates_13 rfl (lv_at hl 0 rfl) ?_
      refine gf_29_21 C hW hP fl_Model_50 d_Model_layMates_14 ?_
      refine lv_iload_n hx hb d_Model_layMates_17 rfl (lv_at hl 2 rfl) ?_
      refine lv_iload_n hx hb d_Model_layMates_18 rfl (lv_at hl 1 rfl) ?_
      refine lv_aload_n hx hb d_Model_layMates_19 rfl (lv_at hl 0 rfl) ?_
      refine gf_29_6 C hW hP fl_Model_74 d_Model_layMates_20 ?_
      obtain ⟨h2, hk⟩ := hk
      refine lv_irem hx hb d_Model_layMates_23 h2 ?_
      obtain ⟨h3, hk⟩ := hk
      refine as_42 hI C hW hP hS h3 d_Model_layMates_24 (fun M4 eM4 H locs hP hS => ?_)
      have hk := hk M4 eM4
      refine lv_iload_n hx hb d_Model_layMates_25 rfl (lv_at hl 1 rfl) ?_
      refine lv_aload_n hx hb d_Model_layMates_26 rfl (lv_at hl 0 rfl) ?_
      refine gf_29_6 C hW hP fl_Model_74 d_Model_layMates_27 ?_
      obtain ⟨h5, hk⟩ := hk
      refine lv_idiv hx hb d_Model_layMates_30 h5 ?_
      refine lv_topi (fun x2_6 ex2_6 => ?_)
      have hk := hk x2_6 ex2_6
      refine lv_istore_n (lv' := [(2, .int x2_6), (0, .ref (g.2.2.2 29)), (3, .int x3)]) hx hb d_Model_layMates_31 rfl hl (by decide) rfl (fun ls hl => ?_)
      obtain ⟨x3_7, ex3_7⟩ : ∃ y : Int32, y = x3 + (-1 : Int32) := ⟨_, rfl⟩
      have hk := hk x3_7 ex3_7
      refine lv_iinc (v := x3_7) (lv' := [(3, .int x3_7), (2, .int x2_6), (0, .ref (g.2.2.2 29))]) hx hb d_Model_layMates_32 hl (k := 2) rfl (by rw [ex3_7]; rfl) (by decide) rfl (fun ls hl => ?_)
      refine lv_goto (tgt := 9) hx hb d_Model_layMates_35 (by decide) ?_
      exact (eX9 x2_6 x3_7 M4).mp hk _ _ _ hP hS (lv_sub hl [2, 1, 0] rfl)
  · intro x3 M hk
    refine (eX40 x3 M).mpr ?_
    intro H locs ls hP hS hl
    unfold wp_Model_layMates_40 at hk
    refine lv_iload_n hx hb d_Model_layMates_40 rfl (lv_at hl 1 rfl) ?_
    refine lv_aload_n hx hb d_Model_layMates_41 rfl (lv_at hl 0 rfl) ?_
    refine gf_29_6 C hW hP fl_Model_74 d_Model_layMates_42 ?_
    refine lv_icmp_ge (tgt := 71) hx hb d_Model_layMates_45 (by decide) (fun c8 => ?_) (fun c8 => ?_)
    · have hk := hk.1 c8
      refine lv_iconst (v := 1) hx hb d_Model_layMates_71 (by decide) ?_
      exact r_zret rfl C hr hlocks hP hS hk d_Model_layMates_72
    · have hk := hk.2 c8
      refine lv_aload_n hx hb d_Model_layMates_48 rfl (lv_at hl 0 rfl) ?_
      refine gf_29_21 C hW hP fl_Model_50 d_Model_layMates_49 ?_
      refine lv_aload_n hx hb d_Model_layMates_52 rfl (lv_at hl 0 rfl) ?_
      refine gf_29_21 C hW hP fl_Model_50 d_Model_layMates_53 ?_
      refine lv_iload_n hx hb d_Model_layMates_56 rfl (lv_at hl 1 rfl) ?_
      obtain ⟨h9, hk⟩ := hk
      refine al_42 C hW hP h9 d_Model_layMates_57 ?_
      obtain ⟨h10, hk⟩ := hk
      refine al_42 C hW hP h10 d_Model_layMates_58 ?_
      refine lv_iload_n hx hb d_Model_layMates_59 rfl (lv_at hl 1 rfl) ?_
      refine lv_icmp_eq (tgt := 65) hx hb d_Model_layMates_60 (by decide) (fun c11 => ?_) (fun c11 => ?_)
      · have hk := hk.1 c11
        obtain ⟨x3_12, ex3_12⟩ : ∃ y : Int32, y = x3 + (1 : Int32) := ⟨_, rfl⟩
        have hk := hk x3_12 ex3_12
        refine lv_iinc (v := x3_12) (lv' := [(3, .int x3_12), (0, .ref (g.2.2.2 29))]) hx hb d_Model_layMates_65 hl (k := 1) rfl (by rw [ex3_12]; rfl) (by decide) rfl (fun ls hl => ?_)
        refine lv_goto (tgt := 40) hx hb d_Model_layMates_68 (by decide) ?_
        exact (eX40 x3_12 M).mp hk _ _ _ hP hS (lv_sub hl [1, 0] rfl)
      · have hk := hk.2 c11
        refine lv_iconst (v := 0) hx hb d_Model_layMates_63 (by decide) ?_
        exact r_zret rfl C hr hlocks hP hS hk d_Model_layMates_64
theorem d_Model_goMates_0 : decode b_Model_goMates 0 = .ok (.aload_n 0, 1) := by decide +kernel
theorem d_Model_goMates_1 : decode b_Model_goMates 1 = .ok (.invokevirtual 142, 3) := by decide +kernel
theorem d_Model_goMates_4 : decode b_Model_goMates 4 = .ok (.iconst 0, 1) := by decide +kernel
theorem d_Model_goMates_5 : decode b_Model_goMates 5 = .ok (.istore_n 1, 1) := by decide +kernel
theorem d_Model_goMates_6 : decode b_Model_goMates 6 = .ok (.iconst 0, 1) := by decide +kernel
theorem d_Model_goMates_7 : decode b_Model_goMates 7 = .ok (.istore_n 2, 1) := by decide +kernel
theorem d_Model_goMates_8 : decode b_Model_goMates 8 = .ok (.iload_n 2, 1) := by decide +kernel
theorem d_Model_goMates_9 : decode b_Model_goMates 9 = .ok (.aload_n 0, 1) := by decide +kernel
theorem d_Model_goMates_10 : decode b_Model_goMates 10 = .ok (.getfield 74, 3) := by decide +kernel
theorem d_Model_goMates_13 : decode b_Model_goMates 13 = .ok (.if_icmp .ge 38, 3) := by decide +kernel
theorem d_Model_goMates_16 : decode b_Model_goMates 16 = .ok (.aload_n 0, 1) := by decide +kernel
theorem d_Model_goMates_17 : decode b_Model_goMates 17 = .ok (.getfield 50, 3) := by decide +kernel
theorem d_Model_goMates_20 : decode b_Model_goMates 20 = .ok (.iload_n 2, 1) := by decide +kernel
theorem d_Model_goMates_21 : decode b_Model_goMates 21 = .ok (.iaload, 1) := by decide +kernel
theorem d_Model_goMates_22 : decode b_Model_goMates 22 = .ok (.iload_n 2, 1) := by decide +kernel
theorem d_Model_goMates_23 : decode b_Model_goMates 23 = .ok (.if_icmp .lt 22, 3) := by decide +kernel
theorem d_Model_goMates_26 : decode b_Model_goMates 26 = .ok (.aload_n 0, 1) := by decide +kernel
theorem d_Model_goMates_27 : decode b_Model_goMates 27 = .ok (.iconst 1, 1) := by decide +kernel
theorem d_Model_goMates_28 : decode b_Model_goMates 28 = .ok (.iload_n 2, 1) := by decide +kernel
theorem d_Model_goMates_29 : decode b_Model_goMates 29 = .ok (.ishl, 1) := by decide +kernel
theorem d_Model_goMates_30 : decode b_Model_goMates 30 = .ok (.iconst 1, 1) := by decide +kernel
theorem d_Model_goMates_31 : decode b_Model_goMates 31 = .ok (.aload_n 0, 1) := by decide +kernel
theorem d_Model_goMates_32 : decode b_Model_goMates 32 = .ok (.getfield 50, 3) := by decide +kernel
theorem d_Model_goMates_35 : decode b_Model_goMates 35 = .ok (.iload_n 2, 1) := by decide +kernel
theorem d_Model_goMates_36 : decode b_Model_goMates 36 = .ok (.iaload, 1) := by decide +kernel
theorem d_Model_goMates_37 : decode b_Model_goMates 37 = .ok (.ishl, 1) := by decide +kernel
theorem d_Model_goMates_38 : decode b_Model_goMates 38 = .ok (.ior, 1) := by decide +kernel
theorem d_Model_goMates_39 : decode b_Model_goMates 39 = .ok (.invokevirtual 145, 3) := by decide +kernel
theorem d_Model_goMates_42 : decode b_Model_goMates 42 = .ok (.iinc 1 1, 3) := by decide +kernel
theorem d_Model_goMates_45 : decode b_Model_goMates 45 = .ok (.iinc 2 1, 3) := by decide +kernel
theorem d_Model_goMates_48 : decode b_Model_goMates 48 = .ok (.goto (-40), 3) := by decide +kernel
theorem d_Model_goMates_51 : decode b_Model_goMates 51 = .ok (.iload_n 1, 1) := by decide +kernel
theorem d_Model_goMates_52 : decode b_Model_goMates 52 = .ok (.ireturn, 1) := by decide +kernel
set_option maxRecDepth 20000 in
theorem c_Model_goMates {l : Launch} {g : GG} (hI : WI g) (M : Mem) (R : Int32 → Mem → Prop) (h : wp_Model_goMates  M R) : Met l y_Model_goMates (wm y_Model_goMates b_Model_goMates 3 (some .int)) (RM 3 73) (PP g M [.ref (g.2.2.2 29)]) (PQ g (RI R)) 0 0 (AW g) := by
  refine m_of (own := N_Model) (by decide) rfl (Nat.le_of_ble_eq_true rfl) ?_
  intro p e s m below meth c ls C hr hlocks hW hP hS hl
  obtain ⟨hx, hb, hml, hown, hts⟩ := id C
  have hl : lv_has ls 3 [(0, .ref (g.2.2.2 29))] := hl
  unfold wp_Model_goMates at h
  obtain ⟨X8, eX8⟩ : ∃ X : Int32 → Int32 → Mem → Prop, ∀ (x1 : Int32) (x2 : Int32) (M : Mem), X x1 x2 M ↔ (∀ (H : Heap) (locs : List Loc) (ls : Array Slot), WP g M H → va_S (AW g) s.heap H locs → lv_has ls 3 [(0, .ref (g.2.2.2 29)), (1, .int x1), (2, .int x2)] → W p l e (RM 3 73) s m ([.ref (g.2.2.2 29)] : List Value).toArray below meth c H locs 0 0 (MQ below (PQ g (RI R)) ([.ref (g.2.2.2 29)] : List Value).toArray s 0 0 (AW g)) (F0 m 8 ls [])) := ⟨fun x1 x2 M => _, fun _ _ _ => Iff.rfl⟩
  have J45 : ∀ (x1 : Int32) (x2 : Int32) (M : Mem), wp_Model_goMates_45 X8 R x1 x2 M → ∀ (H : Heap) (locs : List Loc) (ls : Array Slot), WP g M H → va_S (AW g) s.heap H locs → lv_has ls 3 [(0, .ref (g.2.2.2 29)), (1, .int x1), (2, .int x2)] → W p l e (RM 3 73) s m ([.ref (g.2.2.2 29)] : List Value).toArray below meth c H locs 0 0 (MQ below (PQ g (RI R)) ([.ref (g.2.2.2 29)] : List Value).toArray s 0 0 (AW g)) (F0 m 45 ls []) := by
    intro x1 x2 M hk H locs ls hP hS hl
    unfold wp_Model_goMates_45 at hk
    obtain ⟨x2_7, ex2_7⟩ : ∃ y : Int32, y = x2 + (1 : Int32) := ⟨_, rfl⟩
    have hk := hk x2_7 ex2_7
    refine lv_iinc (v := x2_7) (lv' := [(2, .int x2_7), (0, .ref (g.2.2.2 29)), (1, .int x1)]) hx hb d_Model_goMates_45 hl (k := 2) rfl (by rw [ex2_7]; rfl) (by decide) rfl (fun ls hl => ?_)
    refine lv_goto (tgt := 8) hx hb d_Model_goMates_48 (by decide) ?_
    exact (eX8 x1 x2_7 M).mp hk _ _ _ hP hS (lv_sub hl [1, 2, 0] rfl)
  suffices hcl : (∀ (x1 : Int32) (x2 : Int32) (M : Mem), wp_Model_goMates_8 X8 R x1 x2 M → X8 x1 x2 M) by
    have hk := h X8 hcl
    refine lv_aload_n hx hb d_Model_goMates_0 rfl (lv_at hl 0 rfl) ?_
    refine r_runV (k_V (As := []) (rest := []) C hW hP (c_Model_begin hI M _ hk) cb_Model_begin ml_Model_142 (io_29 g M) ⟨by decide, by decide⟩ rfl hl.1 rfl (Nat.le_of_ble_eq_true rfl) d_Model_goMates_1 ⟨by decide, by decide⟩) hS (fun M8 H locs hk hP hS => ?_)
    refine lv_iconst (v := 0) hx hb d_Model_goMates_4 (by decide) ?_
    refine lv_istore_n (lv' := [(1, .int (0 : Int32)), (0, .ref (g.2.2.2 29))]) hx hb d_Model_goMates_5 rfl hl (by decide) rfl (fun ls hl => ?_)
    refine lv_iconst (v := 0) hx hb d_Model_goMates_6 (by decide) ?_
    refine lv_istore_n (lv' := [(2, .int (0 : Int32)), (1, .int (0 : Int32)), (0, .ref (g.2.2.2 29))]) hx hb d_Model_goMates_7 rfl hl (by decide) rfl (fun ls hl => ?_)
    exact (eX8 (0 : Int32) (0 : Int32) M8).mp hk _ _ _ hP hS (lv_sub hl [2, 1, 0] rfl)
  · intro x1 x2 M hk
    refine (eX8 x1 x2 M).mpr ?_
    intro H locs ls hP hS hl
    unfold wp_Model_goMates_8 at hk
    refine lv_iload_n hx hb d_Model_goMates_8 rfl (lv_at hl 2 rfl) ?_
    refine lv_aload_n hx hb d_Model_goMates_9 rfl (lv_at hl 0 rfl) ?_
    refine gf_29_6 C hW hP fl_Model_74 d_Model_goMates_10 ?_
    refine lv_icmp_ge (tgt := 51) hx hb d_Model_goMates_13 (by decide) (fun c1 => ?_) (fun c1 => ?_)
    · have hk := hk.1 c1
      refine lv_iload_n hx hb d_Model_goMates_51 rfl (lv_at hl 1 rfl) ?_
      exact r_iret C hr hlocks hP hS hk d_Model_goMates_52
    · have hk := hk.2 c1
      refine lv_aload_n hx hb d_Model_goMates_16 rfl (lv_at hl 0 rfl) ?_
      refine gf_29_21 C hW hP fl_Model_50 d_Model_goMates_17 ?_
      refine lv_iload_n hx hb d_Model_goMates_20 rfl (lv_at hl 2 rfl) ?_
      obtain ⟨h2, hk⟩ := hk
      refine al_42 C hW hP h2 d_Model_goMates_21 ?_
      refine lv_iload_n hx hb d_Model_goMates_22 rfl (lv_at hl 2 rfl) ?_
      refine lv_icmp_lt (tgt := 45) hx hb d_Model_goMates_23 (by decide) (fun c3 => ?_) (fun c3 => ?_)
      · have hk := hk.1 c3
        exact J45 x1 x2 M hk _ _ _ hP hS (lv_sub hl [0, 1, 2] rfl)
      · have hk := hk.2 c3
        refine lv_aload_n hx hb d_Model_goMates_26 rfl (lv_at hl 0 rfl) ?_
        refine lv_iconst (v := 1) hx hb d_Model_goMates_27 (by decide) ?_
        refine lv_iload_n hx hb d_Model_goMates_28 rfl (lv_at hl 2 rfl) ?_
        refine lv_ishl hx hb d_Model_goMates_29 ?_
        refine lv_iconst (v := 1) hx hb d_Model_goMates_30 (by decide) ?_
        refine lv_aload_n hx hb d_Model_goMates_31 rfl (lv_at hl 0 rfl) ?_
        refine gf_29_21 C hW hP fl_Model_50 d_Model_goMates_32 ?_
        refine lv_iload_n hx hb d_Model_goMates_35 rfl (lv_at hl 2 rfl) ?_
        obtain ⟨h4, hk⟩ := hk
        refine al_42 C hW hP h4 d_Model_goMates_36 ?_
        refine lv_ishl hx hb d_Model_goMates_37 ?_
        refine lv_ior hx hb d_Model_goMates_38 ?_
        refine r_runV (k_V (As := [.int (((1 : Int32) <<< (x2 &&& (31 : Int32))) ||| ((1 : Int32) <<< ((M 42 x2.toNatClampNeg) &&& (31 : Int32))))]) (rest := []) C hW hP (c_Model_goThrough hI (((1 : Int32) <<< (x2 &&& (31 : Int32))) ||| ((1 : Int32) <<< ((M 42 x2.toNatClampNeg) &&& (31 : Int32)))) M _ hk) cb_Model_goThrough ml_Model_145 (io_29 g M) ⟨by decide, by decide⟩ rfl hl.1 rfl (Nat.le_of_ble_eq_true rfl) d_Model_goMates_39 ⟨by decide, by decide⟩) hS (fun M5 H locs hk hP hS => ?_)
        obtain ⟨x1_6, ex1_6⟩ : ∃ y : Int32, y = x1 + (1 : Int32) := ⟨_, rfl⟩
        have hk := hk x1_6 ex1_6
        refine lv_iinc (v := x1_6) (lv' := [(1, .int x1_6), (0, .ref (g.2.2.2 29)), (2, .int x2)]) hx hb d_Model_goMates_42 hl (k := 1) rfl (by rw [ex1_6]; rfl) (by decide) rfl (fun ls hl => ?_)
        exact J45 x1_6 x2 M5 hk _ _ _ hP hS (lv_sub hl [1, 0, 2] rfl)
theorem d_Model_twos_0 : decode b_Model_twos 0 = .ok (.iload_n 1, 1) := by decide +kernel
theorem d_Model_twos_1 : decode b_Model_twos 1 = .ok (.iconst (-1), 1) := by decide +kernel
theorem d_Model_twos_2 : decode b_Model_twos 2 = .ok (.if_icmp .eq 13, 3) := by decide +kernel
theorem d_Model_twos_5 : decode b_Model_twos 5 = .ok (.aload_n 0, 1) := by decide +kernel
theorem d_Model_twos_6 : decode b_Model_twos 6 = .ok (.iload_n 1, 1) := by decide +kernel
theorem d_Model_twos_7 : decode b_Model_twos 7 = .ok (.invokevirtual 124, 3) := by decide +kernel
theorem d_Model_twos_10 : decode b_Model_twos 10 = .ok (.ifCond .ne 5, 3) := by decide +kernel
theorem d_Model_twos_13 : decode b_Model_twos 13 = .ok (.iconst (-1), 1) := by decide +kernel
theorem d_Model_twos_14 : decode b_Model_twos 14 = .ok (.ireturn, 1) := by decide +kernel
theorem d_Model_twos_15 : decode b_Model_twos 15 = .ok (.aload_n 0, 1) := by decide +kernel
theorem d_Model_twos_16 : decode b_Model_twos 16 = .ok (.getfield 71, 3) := by decide +kernel
theorem d_Model_twos_19 : decode b_Model_twos 19 = .ok (.ifCond .ne 6, 3) := by decide +kernel
theorem d_Model_twos_22 : decode b_Model_twos 22 = .ok (.bipush (-3), 2) := by decide +kernel
theorem d_Model_twos_24 : decode b_Model_twos 24 = .ok (.ireturn, 1) := by decide +kernel
theorem d_Model_twos_25 : decode b_Model_twos 25 = .ok (.iconst 1, 1) := by decide +kernel
theorem d_Model_twos_26 : decode b_Model_twos 26 = .ok (.istore_n 2, 1) := by decide +kernel
theorem d_Model_twos_27 : decode b_Model_twos 27 = .ok (.iconst 0, 1) := by decide +kernel
theorem d_Model_twos_28 : decode b_Model_twos 28 = .ok (.istore_n 3, 1) := by decide +kernel
theorem d_Model_twos_29 : decode b_Model_twos 29 = .ok (.iload_n 3, 1) := by decide +kernel
theorem d_Model_twos_30 : decode b_Model_twos 30 = .ok (.aload_n 0, 1) := by decide +kernel
theorem d_Model_twos_31 : decode b_Model_twos 31 = .ok (.getfield 74, 3) := by decide +kernel
theorem d_Model_twos_34 : decode b_Model_twos 34 = .ok (.if_icmp .ge 16, 3) := by decide +kernel
theorem d_Model_twos_37 : decode b_Model_twos 37 = .ok (.iload_n 2, 1) := by decide +kernel
theorem d_Model_twos_38 : decode b_Model_twos 38 = .ok (.aload_n 0, 1) := by decide +kernel
theorem d_Model_twos_39 : decode b_Model_twos 39 = .ok (.getfield 74, 3) := by decide +kernel
theorem d_Model_twos_42 : decode b_Model_twos 42 = .ok (.imul, 1) := by decide +kernel
theorem d_Model_twos_43 : decode b_Model_twos 43 = .ok (.istore_n 2, 1) := by decide +kernel
theorem d_Model_twos_44 : decode b_Model_twos 44 = .ok (.iinc 3 1, 3) := by decide +kernel
theorem d_Model_twos_47 : decode b_Model_twos 47 = .ok (.goto (-18), 3) := by decide +kernel
theorem d_Model_twos_50 : decode b_Model_twos 50 = .ok (.bipush (-9), 2) := by decide +kernel
theorem d_Model_twos_52 : decode b_Model_twos 52 = .ok (.istore_n 3, 1) := by decide +kernel
theorem d_Model_twos_53 : decode b_Model_twos 53 = .ok (.iconst 0, 1) := by decide +kernel
theorem d_Model_twos_54 : decode b_Model_twos 54 = .ok (.istore 4, 2) := by decide +kernel
theorem d_Model_twos_56 : decode b_Model_twos 56 = .ok (.iconst 0, 1) := by decide +kernel
theorem d_Model_twos_57 : decode b_Model_twos 57 = .ok (.istore 5, 2) := by decide +kernel
theorem d_Model_twos_59 : decode b_Model_twos 59 = .ok (.iload 5, 2) := by decide +kernel
theorem d_Model_twos_61 : decode b_Model_twos 61 = .ok (.iload_n 2, 1) := by decide +kernel
theorem d_Model_twos_62 : decode b_Model_twos 62 = .ok (.if_icmp .ge 88, 3) := by decide +kernel
theorem d_Model_twos_65 : decode b_Model_twos 65 = .ok (.aload_n 0, 1) := by decide +kernel
theorem d_Model_twos_66 : decode b_Model_twos 66 = .ok (.iload 5, 2) := by decide +kernel
theorem d_Model_twos_68 : decode b_Model_twos 68 = .ok (.invokevirtual 179, 3) := by decide +kernel
theorem d_Model_twos_71 : decode b_Model_twos 71 = .ok (.ifCond .eq 73, 3) := by decide +kernel
theorem d_Model_twos_74 : decode b_Model_twos 74 = .ok (.aload_n 0, 1) := by decide +kernel
theorem d_Model_twos_75 : decode b_Model_twos 75 = .ok (.invokevirtual 182, 3) := by decide +kernel
theorem d_Model_twos_78 : decode b_Model_twos 78 = .ok (.istore 6, 2) := by decide +kernel
theorem d_Model_twos_80 : decode b_Model_twos 80 = .ok (.aload_n 0, 1) := by decide +kernel
theorem d_Model_twos_81 : decode b_Model_twos 81 = .ok (.invokevirtual 172, 3) := by decide +kernel
theorem d_Model_twos_84 : decode b_Model_twos 84 = .ok (.istore 7, 2) := by decide +kernel
theorem d_Model_twos_86 : decode b_Model_twos 86 = .ok (.iload 7, 2) := by decide +kernel
theorem d_Model_twos_88 : decode b_Model_twos 88 = .ok (.iload_n 3, 1) := by decide +kernel
theorem d_Model_twos_89 : decode b_Model_twos 89 = .ok (.if_icmp .gt 16, 3) := by decide +kernel
theorem d_Model_twos_92 : decode b_Model_twos 92 = .ok (.iload 7, 2) := by decide +kernel
theorem d_Model_twos_94 : decode b_Model_twos 94 = .ok (.iload_n 3, 1) := by decide +kernel
theorem d_Model_twos_95 : decode b_Model_twos 95 = .ok (.if_icmp .ne 49, 3) := by decide +kernel
theorem d_Model_twos_98 : decode b_Model_twos 98 = .ok (.iload 6, 2) := by decide +kernel
theorem d_Model_twos_100 : decode b_Model_twos 100 = .ok (.iload 4, 2) := by decide +kernel
theorem d_Model_twos_102 : decode b_Model_twos 102 = .ok (.if_icmp .ge 42, 3) := by decide +kernel
theorem d_Model_twos_105 : decode b_Model_twos 105 = .ok (.iload 7, 2) := by decide +kernel
theorem d_Model_twos_107 : decode b_Model_twos 107 = .ok (.istore_n 3, 1) := by decide +kernel
theorem d_Model_twos_108 : decode b_Model_twos 108 = .ok (.iload 6, 2) := by decide +kernel
theorem d_Model_twos_110 : decode b_Model_twos 110 = .ok (.istore 4, 2) := by decide +kernel
theorem d_Model_twos_112 : decode b_Model_twos 112 = .ok (.iconst 0, 1) := by decide +kernel
theorem d_Model_twos_113 : decode b_Model_twos 113 = .ok (.istore 8, 2) := by decide +kernel
theorem d_Model_twos_115 : decode b_Model_twos 115 = .ok (.iload 8, 2) := by decide +kernel
theorem d_Model_twos_117 : decode b_Model_twos 117 = .ok (.aload_n 0, 1) := by decide +kernel
theorem d_Model_twos_118 : decode b_Model_twos 118 = .ok (.getfield 74, 3) := by decide +kernel
theorem d_Model_twos_121 : decode b_Model_twos 121 = .ok (.if_icmp .ge 23, 3) := by decide +kernel
theorem d_Model_twos_124 : decode b_Model_twos 124 = .ok (.aload_n 0, 1) := by decide +kernel
theorem d_Model_twos_125 : decode b_Model_twos 125 = .ok (.getfield 53, 3) := by decide +kernel
theorem d_Model_twos_128 : decode b_Model_twos 128 = .ok (.iload 8, 2) := by decide +kernel
theorem d_Model_twos_130 : decode b_Model_twos 130 = .ok (.aload_n 0, 1) := by decide +kernel
theorem d_Model_twos_131 : decode b_Model_twos 131 = .ok (.getfield 50, 3) := by decide +kernel
theorem d_Model_twos_134 : decode b_Model_twos 134 = .ok (.iload 8, 2) := by decide +kernel
theorem d_Model_twos_136 : decode b_Model_twos 136 = .ok (.iaload, 1) := by decide +kernel
theorem d_Model_twos_137 : decode b_Model_twos 137 = .ok (.iastore, 1) := by decide +kernel
theorem d_Model_twos_138 : decode b_Model_twos 138 = .ok (.iinc 8 1, 3) := by decide +kernel
theorem d_Model_twos_141 : decode b_Model_twos 141 = .ok (.goto (-26), 3) := by decide +kernel
theorem d_Model_twos_144 : decode b_Model_twos 144 = .ok (.iinc 5 1, 3) := by decide +kernel
theorem d_Model_twos_147 : decode b_Model_twos 147 = .ok (.goto (-88), 3) := by decide +kernel
theorem d_Model_twos_150 : decode b_Model_twos 150 = .ok (.iload_n 1, 1) := by decide +kernel
theorem d_Model_twos_151 : decode b_Model_twos 151 = .ok (.iconst (-1), 1) := by decide +kernel
theorem d_Model_twos_152 : decode b_Model_twos 152 = .ok (.if_icmp .ne 7, 3) := by decide +kernel
theorem d_Model_twos_155 : decode b_Model_twos 155 = .ok (.iload_n 3, 1) := by decide +kernel
theorem d_Model_twos_156 : decode b_Model_twos 156 = .ok (.goto 9, 3) := by decide +kernel
theorem d_Model_twos_159 : decode b_Model_twos 159 = .ok (.aload_n 0, 1) := by decide +kernel
theorem d_Model_twos_160 : decode b_Model_twos 160 = .ok (.getfield 53, 3) := by decide +kernel
theorem d_Model_twos_163 : decode b_Model_twos 163 = .ok (.iload_n 1, 1) := by decide +kernel
theorem d_Model_twos_164 : decode b_Model_twos 164 = .ok (.iaload, 1) := by decide +kernel
theorem d_Model_twos_165 : decode b_Model_twos 165 = .ok (.ireturn, 1) := by decide +kernel
set_option maxRecDepth 20000 in
theorem c_Model_twos {l : Launch} {g : GG} (hI : WI g) (a1 : Int32) (M : Mem) (R : Int32 → Mem → Prop) (h : wp_Model_twos a1 M R) : Met l y_Model_twos (wm y_Model_twos b_Model_twos 9 (some .int)) (RM 4 95) (PP g M [.ref (g.2.2.2 29), .int a1]) (PQ g (RI R)) 0 0 (AW g) := by
  refine m_of (own := N_Model) (by decide) rfl (Nat.le_of_ble_eq_true rfl) ?_
  intro p e s m below meth c ls C hr hlocks hW hP hS hl
  obtain ⟨hx, hb, hml, hown, hts⟩ := id C
  have hl : lv_has ls 9 [(0, .ref (g.2.2.2 29)), (1, .int a1)] := hl
  unfold wp_Model_twos at h
  obtain ⟨X29, eX29⟩ : ∃ X : Int32 → Int32 → Int32 → Mem → Prop, ∀ (x1 : Int32) (x2 : Int32) (x3 : Int32) (M : Mem), X x1 x2 x3 M ↔ (∀ (H : Heap) (locs : List Loc) (ls : Array Slot), WP g M H → va_S (AW g) s.heap H locs → lv_has ls 9 [(0, .ref (g.2.2.2 29)), (1, .int x1), (2, .int x2), (3, .int x3)] → W p l e (RM 4 95) s m ([.ref (g.2.2.2 29), .int a1] : List Value).toArray below meth c H locs 0 0 (MQ below (PQ g (RI R)) ([.ref (g.2.2.2 29), .int a1] : List Value).toArray s 0 0 (AW g)) (F0 m 29 ls [])) := ⟨fun x1 x2 x3 M => _, fun _ _ _ _ => Iff.rfl⟩
  obtain ⟨X59, eX59⟩ : ∃ X : Int32 → Int32 → Int32 → Int32 → Int32 → Mem → Prop, ∀ (x1 : Int32) (x2 : Int32) (x3 : Int32) (x4 : Int32) (x5 : Int32) (M : Mem), X x1 x2 x3 x4 x5 M ↔ (∀ (H : Heap) (locs : List Loc) (ls : Array Slot), WP g M H → va_S (AW g) s.heap H locs → lv_has ls 9 [(0, .ref (g.2.2.2 29)), (1, .int x1), (2, .int x2), (3, .int x3), (4, .int x4), (5, .int x5)] → W p l e (RM 4 95) s m ([.ref (g.2.2.2 29), .int a1] : List Value).toArray below meth c H locs 0 0 (MQ below (PQ g (RI R)) ([.ref (g.2.2.2 29), .int a1] : List Value).toArray s 0 0 (AW g)) (F0 m 59 ls [])) := ⟨fun x1 x2 x3 x4 x5 M => _, fun _ _ _ _ _ _ => Iff.rfl⟩
  obtain ⟨X115, eX115⟩ : ∃ X : Int32 → Int32 → Int32 → Int32 → Int32 → Int32 → Mem → Prop, ∀ (x1 : Int32) (x2 : Int32) (x3 : Int32) (x4 : Int32) (x5 : Int32) (x8 : Int32) (M : Mem), X x1 x2 x3 x4 x5 x8 M ↔ (∀ (H : Heap) (locs : List Loc) (ls : Array Slot), WP g M H → va_S (AW g) s.heap H locs → lv_has ls 9 [(0, .ref (g.2.2.2 29)), (1, .int x1), (2, .int x2), (3, .int x3), (4, .int x4), (5, .int x5), (8, .int x8)] → W p l e (RM 4 95) s m ([.ref (g.2.2.2 29), .int a1] : List Value).toArray below meth c H locs 0 0 (MQ below (PQ g (RI R)) ([.ref (g.2.2.2 29), .int a1] : List Value).toArray s 0 0 (AW g)) (F0 m 115 ls [])) := ⟨fun x1 x2 x3 x4 x5 x8 M => _, fun _ _ _ _ _ _ _ => Iff.rfl⟩
  have J144 : ∀ (x1 : Int32) (x2 : Int32) (x3 : Int32) (x4 : Int32) (x5 : Int32) (M : Mem), wp_Model_twos_144 X29 X59 X115 R x1 x2 x3 x4 x5 M → ∀ (H : Heap) (locs : List Loc) (ls : Array Slot), WP g M H → va_S (AW g) s.heap H locs → lv_has ls 9 [(0, .ref (g.2.2.2 29)), (1, .int x1), (2, .int x2), (3, .int x3), (4, .int x4), (5, .int x5)] → W p l e (RM 4 95) s m ([.ref (g.2.2.2 29), .int a1] : List Value).toArray below meth c H locs 0 0 (MQ below (PQ g (RI R)) ([.ref (g.2.2.2 29), .int a1] : List Value).toArray s 0 0 (AW g)) (F0 m 144 ls []) := by
    intro x1 x2 x3 x4 x5 M hk H locs ls hP hS hl
    unfold wp_Model_twos_144 at hk
    obtain ⟨x5_23, ex5_23⟩ : ∃ y : Int32, y = x5 + (1 : Int32) := ⟨_, rfl⟩
    have hk := hk x5_23 ex5_23
    refine lv_iinc (v := x5_23) (lv' := [(5, .int x5_23), (0, .ref (g.2.2.2 29)), (1, .int x1), (2, .int x2), (3, .int x3), (4, .int x4)]) hx hb d_Model_twos_144 hl (k := 5) rfl (by rw [ex5_23]; rfl) (by decide) rfl (fun ls hl => ?_)
    refine lv_goto (tgt := 59) hx hb d_Model_twos_147 (by decide) ?_
    exact (eX59 x1 x2 x3 x4 x5_23 M).mp hk _ _ _ hP hS (lv_sub hl [1, 2, 3, 4, 5, 0] rfl)
  have J105 : ∀ (x1 : Int32) (x2 : Int32) (x5 : Int32) (x6 : Int32) (x7 : Int32) (M : Mem), wp_Model_twos_105 X29 X59 X115 R x1 x2 x5 x6 x7 M → ∀ (H : Heap) (locs : List Loc) (ls : Array Slot), WP g M H → va_S (AW g) s.heap H locs → lv_has ls 9 [(0, .ref (g.2.2.2 29)), (1, .int x1), (2, .int x2), (5, .int x5), (6, .int x6), (7, .int x7)] → W p l e (RM 4 95) s m ([.ref (g.2.2.2 29), .int a1] : List Value).toArray below meth c H locs 0 0 (MQ below (PQ g (RI R)) ([.ref (g.2.2.2 29), .int a1] : List Value).toArray s 0 0 (AW g)) (F0 m 105 ls []) := by
    intro x1 x2 x5 x6 x7 M hk H locs ls hP hS hl
    unfold wp_Model_twos_105 at hk
    refine lv_iload hx hb d_Model_twos_105 (lv_at hl 5 rfl) ?_
    refine lv_istore_n (lv' := [(3, .int x7), (0, .ref (g.2.2.2 29)), (1, .int x1), (2, .int x2), (5, .int x5), (6, .int x6), (7, .int x7)]) hx hb d_Model_twos_107 rfl hl (by decide) rfl (fun ls hl => ?_)
    refine lv_iload hx hb d_Model_twos_108 (lv_at hl 5 rfl) ?_
    refine lv_istore (lv' := [(4, .int x6), (3, .int x7), (0, .ref (g.2.2.2 29)), (1, .int x1), (2, .int x2), (5, .int x5), (6, .int x6), (7, .int x7)]) hx hb d_Model_twos_110 hl (by decide) rfl (fun ls hl => ?_)
    refine lv_iconst (v := 0) hx hb d_Model_twos_112 (by decide) ?_
    refine lv_istore (lv' := [(8, .int (0 : Int32)), (4, .int x6), (3, .int x7), (0, .ref (g.2.2.2 29)), (1, .int x1), (2, .int x2), (5, .int x5), (6, .int x6), (7, .int x7)]) hx hb d_Model_twos_113 hl (by decide) rfl (fun ls hl => ?_)
    exact (eX115 x1 x2 x7 x6 x5 (0 : Int32) M).mp hk _ _ _ hP hS (lv_sub hl [3, 4, 5, 2, 1, 6, 0] rfl)
  have J15 : ∀ (x1 : Int32) (M : Mem), wp_Model_twos_15 X29 X59 X115 R x1 M → ∀ (H : Heap) (locs : List Loc) (ls : Array Slot), WP g M H → va_S (AW g) s.heap H locs → lv_has ls 9 [(0, .ref (g.2.2.2 29)), (1, .int x1)] → W p l e (RM 4 95) s m ([.ref (g.2.2.2 29), .int a1] : List Value).toArray below meth c H locs 0 0 (MQ below (PQ g (RI R)) ([.ref (g.2.2.2 29), .int a1] : List Value).toArray s 0 0 (AW g)) (F0 m 15 ls []) := by
    intro x1 M hk H locs ls hP hS hl
    unfold wp_Model_twos_15 at hk
    refine lv_aload_n hx hb d_Model_twos_15 rfl (lv_at hl 0 rfl) ?_
    refine gf_29_5 C hW hP fl_Model_71 d_Model_twos_16 ?_
    refine lv_if_ne (tgt := 25) hx hb d_Model_twos_19 (by decide) (fun c1 => ?_) (fun c1 => ?_)
    · have hk := hk.1 c1
      refine lv_iconst (v := 1) hx hb d_Model_twos_25 (by decide) ?_
      refine lv_istore_n (lv' := [(2, .int (1 : Int32)), (0, .ref (g.2.2.2 29)), (1, .int x1)]) hx hb d_Model_twos_26 rfl hl (by decide) rfl (fun ls hl => ?_)
      refine lv_iconst (v := 0) hx hb d_Model_twos_27 (by decide) ?_
      refine lv_istore_n (lv' := [(3, .int (0 : Int32)), (2, .int (1 : Int32)), (0, .ref (g.2.2.2 29)), (1, .int x1)]) hx hb d_Model_twos_28 rfl hl (by decide) rfl (fun ls hl => ?_)
      exact (eX29 x1 (1 : Int32) (0 : Int32) M).mp hk _ _ _ hP hS (lv_sub hl [2, 3, 1, 0] rfl)
    · have hk := hk.2 c1
      refine lv_bipush (v := -3) hx hb d_Model_twos_22 (by decide) ?_
      exact r_iret C hr hlocks hP hS hk d_Model_twos_24
  suffices hcl : (∀ (x1 : Int32) (x2 : Int32) (x3 : Int32) (M : Mem), wp_Model_twos_29 X29 X59 X115 R x1 x2 x3 M → X29 x1 x2 x3 M) ∧ (∀ (x1 : Int32) (x2 : Int32) (x3 : Int32) (x4 : Int32) (x5 : Int32) (M : Mem), wp_Model_twos_59 X29 X59 X115 R x1 x2 x3 x4 x5 M → X59 x1 x2 x3 x4 x5 M) ∧ (∀ (x1 : Int32) (x2 : Int32) (x3 : Int32) (x4 : Int32) (x5 : Int32) (x8 : Int32) (M : Mem), wp_Model_twos_115 X29 X59 X115 R x1 x2 x3 x4 x5 x8 M → X115 x1 x2 x3 x4 x5 x8 M) by
    have hk := h X29 X59 X115 (hcl.1) (hcl.2.1) (hcl.2.2)
    refine lv_iload_n hx hb d_Model_twos_0 rfl (lv_at hl 1 rfl) ?_
    refine lv_iconst (v := -1) hx hb d_Model_twos_1 (by decide) ?_
    refine lv_icmp_eq (tgt := 15) hx hb d_Model_twos_2 (by decide) (fun c24 => ?_) (fun c24 => ?_)
    · have hk := hk.1 c24
      exact J15 a1 M hk _ _ _ hP hS (lv_sub hl [0, 1] rfl)
    · have hk := hk.2 c24
      refine lv_aload_n hx hb d_Model_twos_5 rfl (lv_at hl 0 rfl) ?_
      refine lv_iload_n hx hb d_Model_twos_6 rfl (lv_at hl 1 rfl) ?_
      refine r_runZ (k_V (As := [.int a1]) (rest := []) C hW hP (c_Model_isGuest hI a1 M _ hk) cb_Model_isGuest ml_Model_124 (io_29 g M) ⟨by decide, by decide⟩ rfl hl.1 rfl (Nat.le_of_ble_eq_true rfl) d_Model_twos_7 ⟨by decide, by decide⟩) hS (fun r26 M25 H locs zr26 hk hP hS => ?_)
      refine lv_if_ne (tgt := 15) hx hb d_Model_twos_10 (by decide) (fun c27 => ?_) (fun c27 => ?_)
      · have hk := hk.1 c27
        exact J15 a1 M25 hk _ _ _ hP hS (lv_sub hl [0, 1] rfl)
      · have hk := hk.2 c27
        refine lv_iconst (v := -1) hx hb d_Model_twos_13 (by decide) ?_
        exact r_iret C hr hlocks hP hS hk d_Model_twos_14
  refine ⟨?_, ?_, ?_⟩
  · intro x1 x2 x3 M hk
    refine (eX29 x1 x2 x3 M).mpr ?_
    intro H locs ls hP hS hl
    unfold wp_Model_twos_29 at hk
    refine lv_iload_n hx hb d_Model_twos_29 rfl (lv_at hl 3 rfl) ?_
    refine lv_aload_n hx hb d_Model_twos_30 rfl (lv_at hl 0 rfl) ?_
    refine gf_29_6 C hW hP fl_Model_74 d_Model_twos_31 ?_
    refine lv_icmp_ge (tgt := 50) hx hb d_Model_twos_34 (by decide) (fun c2 => ?_) (fun c2 => ?_)
    · have hk := hk.1 c2
      refine lv_bipush (v := -9) hx hb d_Model_twos_50 (by decide) ?_
      refine lv_istore_n (lv' := [(3, .int (-9 : Int32)), (0, .ref (g.2.2.2 29)), (1, .int x1), (2, .int x2)]) hx hb d_Model_twos_52 rfl hl (by decide) rfl (fun ls hl => ?_)
      refine lv_iconst (v := 0) hx hb d_Model_twos_53 (by decide) ?_
      refine lv_istore (lv' := [(4, .int (0 : Int32)), (3, .int (-9 : Int32)), (0, .ref (g.2.2.2 29)), (1, .int x1), (2, .int x2)]) hx hb d_Model_twos_54 hl (by decide) rfl (fun ls hl => ?_)
      refine lv_iconst (v := 0) hx hb d_Model_twos_56 (by decide) ?_
      refine lv_istore (lv' := [(5, .int (0 : Int32)), (4, .int (0 : Int32)), (3, .int (-9 : Int32)), (0, .ref (g.2.2.2 29)), (1, .int x1), (2, .int x2)]) hx hb d_Model_twos_57 hl (by decide) rfl (fun ls hl => ?_)
      exact (eX59 x1 x2 (-9 : Int32) (0 : Int32) (0 : Int32) M).mp hk _ _ _ hP hS (lv_sub hl [3, 4, 5, 2, 1, 0] rfl)
    · have hk := hk.2 c2
      refine lv_iload_n hx hb d_Model_twos_37 rfl (lv_at hl 2 rfl) ?_
      refine lv_aload_n hx hb d_Model_twos_38 rfl (lv_at hl 0 rfl) ?_
      refine gf_29_6 C hW hP fl_Model_74 d_Model_twos_39 ?_
      refine lv_imul hx hb d_Model_twos_42 ?_
      refine lv_topi (fun x2_3 ex2_3 => ?_)
      have hk := hk x2_3 ex2_3
      refine lv_istore_n (lv' := [(2, .int x2_3), (0, .ref (g.2.2.2 29)), (1, .int x1), (3, .int x3)]) hx hb d_Model_twos_43 rfl hl (by decide) rfl (fun ls hl => ?_)
      obtain ⟨x3_4, ex3_4⟩ : ∃ y : Int32, y = x3 + (1 : Int32) := ⟨_, rfl⟩
      have hk := hk x3_4 ex3_4
      refine lv_iinc (v := x3_4) (lv' := [(3, .int x3_4), (2, .int x2_3), (0, .ref (g.2.2.2 29)), (1, .int x1)]) hx hb d_Model_twos_44 hl (k := 3) rfl (by rw [ex3_4]; rfl) (by decide) rfl (fun ls hl => ?_)
      refine lv_goto (tgt := 29) hx hb d_Model_twos_47 (by decide) ?_
      exact (eX29 x1 x2_3 x3_4 M).mp hk _ _ _ hP hS (lv_sub hl [2, 3, 1, 0] rfl)
  · intro x1 x2 x3 x4 x5 M hk
    refine (eX59 x1 x2 x3 x4 x5 M).mpr ?_
    intro H locs ls hP hS hl
    unfold wp_Model_twos_59 at hk
    refine lv_iload hx hb d_Model_twos_59 (lv_at hl 5 rfl) ?_
    refine lv_iload_n hx hb d_Model_twos_61 rfl (lv_at hl 2 rfl) ?_
    refine lv_icmp_ge (tgt := 150) hx hb d_Model_twos_62 (by decide) (fun c5 => ?_) (fun c5 => ?_)
    · have hk := hk.1 c5
      refine lv_iload_n hx hb d_Model_twos_150 rfl (lv_at hl 1 rfl) ?_
      refine lv_iconst (v := -1) hx hb d_Model_twos_151 (by decide) ?_
      refine lv_icmp_ne (tgt := 159) hx hb d_Model_twos_152 (by decide) (fun c6 => ?_) (fun c6 => ?_)
      · have hk := hk.1 c6
        refine lv_aload_n hx hb d_Model_twos_159 rfl (lv_at hl 0 rfl) ?_
        refine gf_29_22 C hW hP fl_Model_53 d_Model_twos_160 ?_
        refine lv_iload_n hx hb d_Model_twos_163 rfl (lv_at hl 1 rfl) ?_
        obtain ⟨h7, hk⟩ := hk
        refine al_43 C hW hP h7 d_Model_twos_164 ?_
        exact r_iret C hr hlocks hP hS hk d_Model_twos_165
      · have hk := hk.2 c6
        refine lv_iload_n hx hb d_Model_twos_155 rfl (lv_at hl 3 rfl) ?_
        refine lv_goto (tgt := 165) hx hb d_Model_twos_156 (by decide) ?_
        exact r_iret C hr hlocks hP hS hk d_Model_twos_165
    · have hk := hk.2 c5
      refine lv_aload_n hx hb d_Model_twos_65 rfl (lv_at hl 0 rfl) ?_
      refine lv_iload hx hb d_Model_twos_66 (lv_at hl 5 rfl) ?_
      refine r_runZ (k_V (As := [.int x5]) (rest := []) C hW hP (c_Model_layMates hI x5 M _ hk) cb_Model_layMates ml_Model_179 (io_29 g M) ⟨by decide, by decide⟩ rfl hl.1 rfl (Nat.le_of_ble_eq_true rfl) d_Model_twos_68 ⟨by decide, by decide⟩) hS (fun r9 M8 H locs zr9 hk hP hS => ?_)
      refine lv_if_eq (tgt := 144) hx hb d_Model_twos_71 (by decide) (fun c10 => ?_) (fun c10 => ?_)
      · have hk := hk.1 c10
        exact J144 x1 x2 x3 x4 x5 M8 hk _ _ _ hP hS (lv_sub hl [0, 1, 2, 3, 4, 5] rfl)
      · have hk := hk.2 c10
        refine lv_aload_n hx hb d_Model_twos_74 rfl (lv_at hl 0 rfl) ?_
        refine r_runI (k_V (As := []) (rest := []) C hW hP (c_Model_goMates hI M8 _ hk) cb_Model_goMates ml_Model_182 (io_29 g M8) ⟨by decide, by decide⟩ rfl hl.1 rfl (Nat.le_of_ble_eq_true rfl) d_Model_twos_75 ⟨by decide, by decide⟩) hS (fun r12 M11 H locs hk hP hS => ?_)
        refine lv_istore (lv' := [(6, .int r12), (0, .ref (g.2.2.2 29)), (1, .int x1), (2, .int x2), (3, .int x3), (4, .int x4), (5, .int x5)]) hx hb d_Model_twos_78 hl (by decide) rfl (fun ls hl => ?_)
        refine lv_aload_n hx hb d_Model_twos_80 rfl (lv_at hl 1 rfl) ?_
        refine r_runI (k_V (As := []) (rest := []) C hW hP (c_Model_throughNow hI M11 _ hk) cb_Model_throughNow ml_Model_172 (io_29 g M11) ⟨by decide, by decide⟩ rfl hl.1 rfl (Nat.le_of_ble_eq_true rfl) d_Model_twos_81 ⟨by decide, by decide⟩) hS (fun r14 M13 H locs hk hP hS => ?_)
        refine lv_istore (lv' := [(7, .int r14), (6, .int r12), (0, .ref (g.2.2.2 29)), (1, .int x1), (2, .int x2), (3, .int x3), (4, .int x4), (5, .int x5)]) hx hb d_Model_twos_84 hl (by decide) rfl (fun ls hl => ?_)
        refine lv_iload hx hb d_Model_twos_86 (lv_at hl 0 rfl) ?_
        refine lv_iload_n hx hb d_Model_twos_88 rfl (lv_at hl 5 rfl) ?_
        refine lv_icmp_gt (tgt := 105) hx hb d_Model_twos_89 (by decide) (fun c15 => ?_) (fun c15 => ?_)
        · have hk := hk.1 c15
          exact J105 x1 x2 x5 r12 r14 M13 hk _ _ _ hP hS (lv_sub hl [2, 3, 4, 7, 1, 0] rfl)
        · have hk := hk.2 c15
          refine lv_iload hx hb d_Model_twos_92 (lv_at hl 0 rfl) ?_
          refine lv_iload_n hx hb d_Model_twos_94 rfl (lv_at hl 5 rfl) ?_
          refine lv_icmp_ne (tgt := 144) hx hb d_Model_twos_95 (by decide) (fun c16 => ?_) (fun c16 => ?_)
          · have hk := hk.1 c16
            exact J144 x1 x2 x3 x4 x5 M13 hk _ _ _ hP hS (lv_sub hl [2, 3, 4, 5, 6, 7] rfl)
          · have hk := hk.2 c16
            refine lv_iload hx hb d_Model_twos_98 (lv_at hl 1 rfl) ?_
            refine lv_iload hx hb d_Model_twos_100 (lv_at hl 6 rfl) ?_
            refine lv_icmp_ge (tgt := 144) hx hb d_Model_twos_102 (by decide) (fun c17 => ?_) (fun c17 => ?_)
            · have hk := hk.1 c17
              exact J144 x1 x2 x3 x4 x5 M13 hk _ _ _ hP hS (lv_sub hl [2, 3, 4, 5, 6, 7] rfl)
            · have hk := hk.2 c17
              exact J105 x1 x2 x5 r12 r14 M13 hk _ _ _ hP hS (lv_sub hl [2, 3, 4, 7, 1, 0] rfl)
  · intro x1 x2 x3 x4 x5 x8 M hk
    refine (eX115 x1 x2 x3 x4 x5 x8 M).mpr ?_
    intro H locs ls hP hS hl
    unfold wp_Model_twos_115 at hk
    refine lv_iload hx hb d_Model_twos_115 (lv_at hl 6 rfl) ?_
    refine lv_aload_n hx hb d_Model_twos_117 rfl (lv_at hl 0 rfl) ?_
    refine gf_29_6 C hW hP fl_Model_74 d_Model_twos_118 ?_
    refine lv_icmp_ge (tgt := 144) hx hb d_Model_twos_121 (by decide) (fun c18 => ?_) (fun c18 => ?_)
    · have hk := hk.1 c18
      exact J144 x1 x2 x3 x4 x5 M hk _ _ _ hP hS (lv_sub hl [0, 1, 2, 3, 4, 5] rfl)
    · have hk := hk.2 c18
      refine lv_aload_n hx hb d_Model_twos_124 rfl (lv_at hl 0 rfl) ?_
      refine gf_29_22 C hW hP fl_Model_53 d_Model_twos_125 ?_
      refine lv_iload hx hb d_Model_twos_128 (lv_at hl 6 rfl) ?_
      refine lv_aload_n hx hb d_Model_twos_130 rfl (lv_at hl 0 rfl) ?_
      refine gf_29_21 C hW hP fl_Model_50 d_Model_twos_131 ?_
      refine lv_iload hx hb d_Model_twos_134 (lv_at hl 6 rfl) ?_
      obtain ⟨h19, hk⟩ := hk
      refine al_42 C hW hP h19 d_Model_twos_136 ?_
      obtain ⟨h20, hk⟩ := hk
      refine as_43 hI C hW hP hS h20 d_Model_twos_137 (fun M21 eM21 H locs hP hS => ?_)
      have hk := hk M21 eM21
      obtain ⟨x8_22, ex8_22⟩ : ∃ y : Int32, y = x8 + (1 : Int32) := ⟨_, rfl⟩
      have hk := hk x8_22 ex8_22
      refine lv_iinc (v := x8_22) (lv' := [(8, .int x8_22), (0, .ref (g.2.2.2 29)), (1, .int x1), (2, .int x2), (3, .int x3), (4, .int x4), (5, .int x5)]) hx hb d_Model_twos_138 hl (k := 6) rfl (by rw [ex8_22]; rfl) (by decide) rfl (fun ls hl => ?_)
      refine lv_goto (tgt := 115) hx hb d_Model_twos_141 (by decide) ?_
      exact (eX115 x1 x2 x3 x4 x5 x8_22 M21).mp hk _ _ _ hP hS (lv_sub hl [1, 2, 3, 4, 5, 6, 0] rfl)
theorem d_Model_goAll_0 : decode b_Model_goAll 0 = .ok (.aload_n 0, 1) := by decide +kernel
theorem d_Model_goAll_1 : decode b_Model_goAll 1 = .ok (.invokevirtual 142, 3) := by decide +kernel
theorem d_Model_goAll_4 : decode b_Model_goAll 4 = .ok (.iconst 0, 1) := by decide +kernel
theorem d_Model_goAll_5 : decode b_Model_goAll 5 = .ok (.istore_n 1, 1) := by decide +kernel
theorem d_Model_goAll_6 : decode b_Model_goAll 6 = .ok (.iload_n 1, 1) := by decide +kernel
theorem d_Model_goAll_7 : decode b_Model_goAll 7 = .ok (.aload_n 0, 1) := by decide +kernel
theorem d_Model_goAll_8 : decode b_Model_goAll 8 = .ok (.getfield 74, 3) := by decide +kernel
theorem d_Model_goAll_11 : decode b_Model_goAll 11 = .ok (.if_icmp .ge 16, 3) := by decide +kernel
theorem d_Model_goAll_14 : decode b_Model_goAll 14 = .ok (.aload_n 0, 1) := by decide +kernel
theorem d_Model_goAll_15 : decode b_Model_goAll 15 = .ok (.iconst 1, 1) := by decide +kernel
theorem d_Model_goAll_16 : decode b_Model_goAll 16 = .ok (.iload_n 1, 1) := by decide +kernel
theorem d_Model_goAll_17 : decode b_Model_goAll 17 = .ok (.ishl, 1) := by decide +kernel
theorem d_Model_goAll_18 : decode b_Model_goAll 18 = .ok (.invokevirtual 145, 3) := by decide +kernel
theorem d_Model_goAll_21 : decode b_Model_goAll 21 = .ok (.iinc 1 1, 3) := by decide +kernel
theorem d_Model_goAll_24 : decode b_Model_goAll 24 = .ok (.goto (-18), 3) := by decide +kernel
theorem d_Model_goAll_27 : decode b_Model_goAll 27 = .ok (.return_, 1) := by decide +kernel
set_option maxRecDepth 20000 in
theorem c_Model_goAll {l : Launch} {g : GG} (hI : WI g) (M : Mem) (R : Mem → Prop) (h : wp_Model_goAll  M R) : Met l y_Model_goAll (wm y_Model_goAll b_Model_goAll 2 none) (RM 3 73) (PP g M [.ref (g.2.2.2 29)]) (PQ g (RV R)) 0 0 (AW g) := by
  refine m_of (own := N_Model) (by decide) rfl (Nat.le_of_ble_eq_true rfl) ?_
  intro p e s m below meth c ls C hr hlocks hW hP hS hl
  obtain ⟨hx, hb, hml, hown, hts⟩ := id C
  have hl : lv_has ls 2 [(0, .ref (g.2.2.2 29))] := hl
  unfold wp_Model_goAll at h
  obtain ⟨X6, eX6⟩ : ∃ X : Int32 → Mem → Prop, ∀ (x1 : Int32) (M : Mem), X x1 M ↔ (∀ (H : Heap) (locs : List Loc) (ls : Array Slot), WP g M H → va_S (AW g) s.heap H locs → lv_has ls 2 [(0, .ref (g.2.2.2 29)), (1, .int x1)] → W p l e (RM 3 73) s m ([.ref (g.2.2.2 29)] : List Value).toArray below meth c H locs 0 0 (MQ below (PQ g (RV R)) ([.ref (g.2.2.2 29)] : List Value).toArray s 0 0 (AW g)) (F0 m 6 ls [])) := ⟨fun x1 M => _, fun _ _ => Iff.rfl⟩
  suffices hcl : (∀ (x1 : Int32) (M : Mem), wp_Model_goAll_6 X6 R x1 M → X6 x1 M) by
    have hk := h X6 hcl
    refine lv_aload_n hx hb d_Model_goAll_0 rfl (lv_at hl 0 rfl) ?_
    refine r_runV (k_V (As := []) (rest := []) C hW hP (c_Model_begin hI M _ hk) cb_Model_begin ml_Model_142 (io_29 g M) ⟨by decide, by decide⟩ rfl hl.1 rfl (Nat.le_of_ble_eq_true rfl) d_Model_goAll_1 ⟨by decide, by decide⟩) hS (fun M4 H locs hk hP hS => ?_)
    refine lv_iconst (v := 0) hx hb d_Model_goAll_4 (by decide) ?_
    refine lv_istore_n (lv' := [(1, .int (0 : Int32)), (0, .ref (g.2.2.2 29))]) hx hb d_Model_goAll_5 rfl hl (by decide) rfl (fun ls hl => ?_)
    exact (eX6 (0 : Int32) M4).mp hk _ _ _ hP hS (lv_sub hl [1, 0] rfl)
  · intro x1 M hk
    refine (eX6 x1 M).mpr ?_
    intro H locs ls hP hS hl
    unfold wp_Model_goAll_6 at hk
    refine lv_iload_n hx hb d_Model_goAll_6 rfl (lv_at hl 1 rfl) ?_
    refine lv_aload_n hx hb d_Model_goAll_7 rfl (lv_at hl 0 rfl) ?_
    refine gf_29_6 C hW hP fl_Model_74 d_Model_goAll_8 ?_
    refine lv_icmp_ge (tgt := 27) hx hb d_Model_goAll_11 (by decide) (fun c1 => ?_) (fun c1 => ?_)
    · have hk := hk.1 c1
      exact r_vret C hr hlocks hP hS hk d_Model_goAll_27
    · have hk := hk.2 c1
      refine lv_aload_n hx hb d_Model_goAll_14 rfl (lv_at hl 0 rfl) ?_
      refine lv_iconst (v := 1) hx hb d_Model_goAll_15 (by decide) ?_
      refine lv_iload_n hx hb d_Model_goAll_16 rfl (lv_at hl 1 rfl) ?_
      refine lv_ishl hx hb d_Model_goAll_17 ?_
      refine r_runV (k_V (As := [.int ((1 : Int32) <<< (x1 &&& (31 : Int32)))]) (rest := []) C hW hP (c_Model_goThrough hI ((1 : Int32) <<< (x1 &&& (31 : Int32))) M _ hk) cb_Model_goThrough ml_Model_145 (io_29 g M) ⟨by decide, by decide⟩ rfl hl.1 rfl (Nat.le_of_ble_eq_true rfl) d_Model_goAll_18 ⟨by decide, by decide⟩) hS (fun M2 H locs hk hP hS => ?_)
      obtain ⟨x1_3, ex1_3⟩ : ∃ y : Int32, y = x1 + (1 : Int32) := ⟨_, rfl⟩
      have hk := hk x1_3 ex1_3
      refine lv_iinc (v := x1_3) (lv' := [(1, .int x1_3), (0, .ref (g.2.2.2 29))]) hx hb d_Model_goAll_21 hl (k := 1) rfl (by rw [ex1_3]; rfl) (by decide) rfl (fun ls hl => ?_)
      refine lv_goto (tgt := 6) hx hb d_Model_goAll_24 (by decide) ?_
      exact (eX6 x1_3 M2).mp hk _ _ _ hP hS (lv_sub hl [1, 0] rfl)
theorem d_Model_gift_0 : decode b_Model_gift 0 = .ok (.iload_n 1, 1) := by decide +kernel
theorem d_Model_gift_1 : decode b_Model_gift 1 = .ok (.iconst 0, 1) := by decide +kernel
theorem d_Model_gift_2 : decode b_Model_gift 2 = .ok (.iconst 1, 1) := by decide +kernel
theorem d_Model_gift_3 : decode b_Model_gift 3 = .ok (.invokestatic 67, 3) := by decide +kernel
theorem d_Model_gift_6 : decode b_Model_gift 6 = .ok (.ifCond .ne 6, 3) := by decide +kernel
theorem d_Model_gift_9 : decode b_Model_gift 9 = .ok (.bipush (-2), 2) := by decide +kernel
theorem d_Model_gift_11 : decode b_Model_gift 11 = .ok (.ireturn, 1) := by decide +kernel
theorem d_Model_gift_12 : decode b_Model_gift 12 = .ok (.aload_n 0, 1) := by decide +kernel
theorem d_Model_gift_13 : decode b_Model_gift 13 = .ok (.getfield 71, 3) := by decide +kernel
theorem d_Model_gift_16 : decode b_Model_gift 16 = .ok (.ifCond .ne 6, 3) := by decide +kernel
theorem d_Model_gift_19 : decode b_Model_gift 19 = .ok (.bipush (-3), 2) := by decide +kernel
theorem d_Model_gift_21 : decode b_Model_gift 21 = .ok (.ireturn, 1) := by decide +kernel
theorem d_Model_gift_22 : decode b_Model_gift 22 = .ok (.aload_n 0, 1) := by decide +kernel
theorem d_Model_gift_23 : decode b_Model_gift 23 = .ok (.invokevirtual 185, 3) := by decide +kernel
theorem d_Model_gift_26 : decode b_Model_gift 26 = .ok (.aload_n 0, 1) := by decide +kernel
theorem d_Model_gift_27 : decode b_Model_gift 27 = .ok (.invokevirtual 172, 3) := by decide +kernel
theorem d_Model_gift_30 : decode b_Model_gift 30 = .ok (.istore_n 2, 1) := by decide +kernel
theorem d_Model_gift_31 : decode b_Model_gift 31 = .ok (.bipush (-9), 2) := by decide +kernel
theorem d_Model_gift_33 : decode b_Model_gift 33 = .ok (.istore_n 3, 1) := by decide +kernel
theorem d_Model_gift_34 : decode b_Model_gift 34 = .ok (.iconst 0, 1) := by decide +kernel
theorem d_Model_gift_35 : decode b_Model_gift 35 = .ok (.istore 4, 2) := by decide +kernel
theorem d_Model_gift_37 : decode b_Model_gift 37 = .ok (.iload 4, 2) := by decide +kernel
theorem d_Model_gift_39 : decode b_Model_gift 39 = .ok (.aload_n 0, 1) := by decide +kernel
theorem d_Model_gift_40 : decode b_Model_gift 40 = .ok (.getfield 74, 3) := by decide +kernel
theorem d_Model_gift_43 : decode b_Model_gift 43 = .ok (.if_icmp .ge 83, 3) := by decide +kernel
theorem d_Model_gift_46 : decode b_Model_gift 46 = .ok (.aload_n 0, 1) := by decide +kernel
theorem d_Model_gift_47 : decode b_Model_gift 47 = .ok (.getfield 31, 3) := by decide +kernel
theorem d_Model_gift_50 : decode b_Model_gift 50 = .ok (.iload 4, 2) := by decide +kernel
theorem d_Model_gift_52 : decode b_Model_gift 52 = .ok (.iaload, 1) := by decide +kernel
theorem d_Model_gift_53 : decode b_Model_gift 53 = .ok (.istore 5, 2) := by decide +kernel
theorem d_Model_gift_55 : decode b_Model_gift 55 = .ok (.iconst 0, 1) := by decide +kernel
theorem d_Model_gift_56 : decode b_Model_gift 56 = .ok (.istore 6, 2) := by decide +kernel
theorem d_Model_gift_58 : decode b_Model_gift 58 = .ok (.iload 6, 2) := by decide +kernel
theorem d_Model_gift_60 : decode b_Model_gift 60 = .ok (.bipush 6, 2) := by decide +kernel
theorem d_Model_gift_62 : decode b_Model_gift 62 = .ok (.if_icmp .ge 49, 3) := by decide +kernel
theorem d_Model_gift_65 : decode b_Model_gift 65 = .ok (.aload_n 0, 1) := by decide +kernel
theorem d_Model_gift_66 : decode b_Model_gift 66 = .ok (.getfield 31, 3) := by decide +kernel
theorem d_Model_gift_69 : decode b_Model_gift 69 = .ok (.iload 4, 2) := by decide +kernel
theorem d_Model_gift_71 : decode b_Model_gift 71 = .ok (.iload 5, 2) := by decide +kernel
theorem d_Model_gift_73 : decode b_Model_gift 73 = .ok (.iconst 1, 1) := by decide +kernel
theorem d_Model_gift_74 : decode b_Model_gift 74 = .ok (.iload 6, 2) := by decide +kernel
theorem d_Model_gift_76 : decode b_Model_gift 76 = .ok (.ishl, 1) := by decide +kernel
theorem d_Model_gift_77 : decode b_Model_gift 77 = .ok (.ior, 1) := by decide +kernel
theorem d_Model_gift_78 : decode b_Model_gift 78 = .ok (.iastore, 1) := by decide +kernel
theorem d_Model_gift_79 : decode b_Model_gift 79 = .ok (.aload_n 0, 1) := by decide +kernel
theorem d_Model_gift_80 : decode b_Model_gift 80 = .ok (.invokevirtual 185, 3) := by decide +kernel
theorem d_Model_gift_83 : decode b_Model_gift 83 = .ok (.aload_n 0, 1) := by decide +kernel
theorem d_Model_gift_84 : decode b_Model_gift 84 = .ok (.invokevirtual 172, 3) := by decide +kernel
theorem d_Model_gift_87 : decode b_Model_gift 87 = .ok (.iload_n 2, 1) := by decide +kernel
theorem d_Model_gift_88 : decode b_Model_gift 88 = .ok (.if_icmp .le 17, 3) := by decide +kernel
theorem d_Model_gift_91 : decode b_Model_gift 91 = .ok (.aload_n 0, 1) := by decide +kernel
theorem d_Model_gift_92 : decode b_Model_gift 92 = .ok (.invokevirtual 172, 3) := by decide +kernel
theorem d_Model_gift_95 : decode b_Model_gift 95 = .ok (.istore_n 2, 1) := by decide +kernel
theorem d_Model_gift_96 : decode b_Model_gift 96 = .ok (.bipush 10, 2) := by decide +kernel
theorem d_Model_gift_98 : decode b_Model_gift 98 = .ok (.iload 4, 2) := by decide +kernel
theorem d_Model_gift_100 : decode b_Model_gift 100 = .ok (.imul, 1) := by decide +kernel
theorem d_Model_gift_101 : decode b_Model_gift 101 = .ok (.iload 6, 2) := by decide +kernel
theorem d_Model_gift_103 : decode b_Model_gift 103 = .ok (.iadd, 1) := by decide +kernel
theorem d_Model_gift_104 : decode b_Model_gift 104 = .ok (.istore_n 3, 1) := by decide +kernel
theorem d_Model_gift_105 : decode b_Model_gift 105 = .ok (.iinc 6 1, 3) := by decide +kernel
theorem d_Model_gift_108 : decode b_Model_gift 108 = .ok (.goto (-50), 3) := by decide +kernel
theorem d_Model_gift_111 : decode b_Model_gift 111 = .ok (.aload_n 0, 1) := by decide +kernel
theorem d_Model_gift_112 : decode b_Model_gift 112 = .ok (.getfield 31, 3) := by decide +kernel
theorem d_Model_gift_115 : decode b_Model_gift 115 = .ok (.iload 4, 2) := by decide +kernel
theorem d_Model_gift_117 : decode b_Model_gift 117 = .ok (.iload 5, 2) := by decide +kernel
theorem d_Model_gift_119 : decode b_Model_gift 119 = .ok (.iastore, 1) := by decide +kernel
theorem d_Model_gift_120 : decode b_Model_gift 120 = .ok (.iinc 4 1, 3) := by decide +kernel
theorem d_Model_gift_123 : decode b_Model_gift 123 = .ok (.goto (-86), 3) := by decide +kernel
theorem d_Model_gift_126 : decode b_Model_gift 126 = .ok (.iload_n 1, 1) := by decide +kernel
theorem d_Model_gift_127 : decode b_Model_gift 127 = .ok (.ifCond .ne 7, 3) := by decide +kernel
theorem d_Model_gift_130 : decode b_Model_gift 130 = .ok (.iload_n 3, 1) := by decide +kernel
theorem d_Model_gift_131 : decode b_Model_gift 131 = .ok (.goto 4, 3) := by decide +kernel
theorem d_Model_gift_134 : decode b_Model_gift 134 = .ok (.iload_n 2, 1) := by decide +kernel
theorem d_Model_gift_135 : decode b_Model_gift 135 = .ok (.ireturn, 1) := by decide +kernel
set_option maxRecDepth 20000 in
theorem c_Model_gift {l : Launch} {g : GG} (hI : WI g) (a1 : Int32) (M : Mem) (R : Int32 → Mem → Prop) (h : wp_Model_gift a1 M R) : Met l y_Model_gift (wm y_Model_gift b_Model_gift 7 (some .int)) (RM 4 94) (PP g M [.ref (g.2.2.2 29), .int a1]) (PQ g (RI R)) 0 0 (AW g) := by
  refine m_of (own := N_Model) (by decide) rfl (Nat.le_of_ble_eq_true rfl) ?_
  intro p e s m below meth c ls C hr hlocks hW hP hS hl
  obtain ⟨hx, hb, hml, hown, hts⟩ := id C
  have hl : lv_has ls 7 [(0, .ref (g.2.2.2 29)), (1, .int a1)] := hl
  unfold wp_Model_gift at h
  obtain ⟨X37, eX37⟩ : ∃ X : Int32 → Int32 → Int32 → Int32 → Mem → Prop, ∀ (x1 : Int32) (x2 : Int32) (x3 : Int32) (x4 : Int32) (M : Mem), X x1 x2 x3 x4 M ↔ (∀ (H : Heap) (locs : List Loc) (ls : Array Slot), WP g M H → va_S (AW g) s.heap H locs → lv_has ls 7 [(0, .ref (g.2.2.2 29)), (1, .int x1), (2, .int x2), (3, .int x3), (4, .int x4)] → W p l e (RM 4 94) s m ([.ref (g.2.2.2 29), .int a1] : List Value).toArray below meth c H locs 0 0 (MQ below (PQ g (RI R)) ([.ref (g.2.2.2 29), .int a1] : List Value).toArray s 0 0 (AW g)) (F0 m 37 ls [])) := ⟨fun x1 x2 x3 x4 M => _, fun _ _ _ _ _ => Iff.rfl⟩
  obtain ⟨X58, eX58⟩ : ∃ X : Int32 → Int32 → Int32 → Int32 → Int32 → Int32 → Mem → Prop, ∀ (x1 : Int32) (x2 : Int32) (x3 : Int32) (x4 : Int32) (x5 : Int32) (x6 : Int32) (M : Mem), X x1 x2 x3 x4 x5 x6 M ↔ (∀ (H : Heap) (locs : List Loc) (ls : Array Slot), WP g M H → va_S (AW g) s.heap H locs → lv_has ls 7 [(0, .ref (g.2.2.2 29)), (1, .int x1), (2, .int x2), (3, .int x3), (4, .int x4), (5, .int x5), (6, .int x6)] → W p l e (RM 4 94) s m ([.ref (g.2.2.2 29), .int a1] : List Value).toArray below meth c H locs 0 0 (MQ below (PQ g (RI R)) ([.ref (g.2.2.2 29), .int a1] : List Value).toArray s 0 0 (AW g)) (F0 m 58 ls [])) := ⟨fun x1 x2 x3 x4 x5 x6 M => _, fun _ _ _ _ _ _ _ => Iff.rfl⟩
  have J105 : ∀ (x1 : Int32) (x2 : Int32) (x3 : Int32) (x4 : Int32) (x5 : Int32) (x6 : Int32) (M : Mem), wp_Model_gift_105 X37 X58 R x1 x2 x3 x4 x5 x6 M → ∀ (H : Heap) (locs : List Loc) (ls : Array Slot), WP g M H → va_S (AW g) s.heap H locs → lv_has ls 7 [(0, .ref (g.2.2.2 29)), (1, .int x1), (2, .int x2), (3, .int x3), (4, .int x4), (5, .int x5), (6, .int x6)] → W p l e (RM 4 94) s m ([.ref (g.2.2.2 29), .int a1] : List Value).toArray below meth c H locs 0 0 (MQ below (PQ g (RI R)) ([.ref (g.2.2.2 29), .int a1] : List Value).toArray s 0 0 (AW g)) (F0 m 105 ls []) := by
    intro x1 x2 x3 x4 x5 x6 M hk H locs ls hP hS hl
    unfold wp_Model_gift_105 at hk
    obtain ⟨x6_18, ex6_18⟩ : ∃ y : Int32, y = x6 + (1 : Int32) := ⟨_, rfl⟩
    have hk := hk x6_18 ex6_18
    refine lv_iinc (v := x6_18) (lv' := [(6, .int x6_18), (0, .ref (g.2.2.2 29)), (1, .int x1), (2, .int x2), (3, .int x3), (4, .int x4), (5, .int x5)]) hx hb d_Model_gift_105 hl (k := 6) rfl (by rw [ex6_18]; rfl) (by decide) rfl (fun ls hl => ?_)
    refine lv_goto (tgt := 58) hx hb d_Model_gift_108 (by decide) ?_
    exact (eX58 x1 x2 x3 x4 x5 x6_18 M).mp hk _ _ _ hP hS (lv_sub hl [1, 2, 3, 4, 5, 6, 0] rfl)
  suffices hcl : (∀ (x1 : Int32) (x2 : Int32) (x3 : Int32) (x4 : Int32) (M : Mem), wp_Model_gift_37 X37 X58 R x1 x2 x3 x4 M → X37 x1 x2 x3 x4 M) ∧ (∀ (x1 : Int32) (x2 : Int32) (x3 : Int32) (x4 : Int32) (x5 : Int32) (x6 : Int32) (M : Mem), wp_Model_gift_58 X37 X58 R x1 x2 x3 x4 x5 x6 M → X58 x1 x2 x3 x4 x5 x6 M) by
    have hk := h X37 X58 (hcl.1) (hcl.2)
    refine lv_iload_n hx hb d_Model_gift_0 rfl (lv_at hl 1 rfl) ?_
    refine lv_iconst (v := 0) hx hb d_Model_gift_1 (by decide) ?_
    refine lv_iconst (v := 1) hx hb d_Model_gift_2 (by decide) ?_
    refine r_runZ (k_S (As := [.int a1, .int (0 : Int32), .int (1 : Int32)]) (rest := []) C hW hP (c_Model_within hI a1 (0 : Int32) (1 : Int32) M _ hk) cb_Model_within ml_Model_67 ⟨by decide, by decide⟩ rfl hl.1 rfl (Nat.le_of_ble_eq_true rfl) d_Model_gift_3 ⟨by decide, by decide⟩) hS (fun r20 M19 H locs zr20 hk hP hS => ?_)
    refine lv_if_ne (tgt := 12) hx hb d_Model_gift_6 (by decide) (fun c21 => ?_) (fun c21 => ?_)
    · have hk := hk.1 c21
      refine lv_aload_n hx hb d_Model_gift_12 rfl (lv_at hl 0 rfl) ?_
      refine gf_29_5 C hW hP fl_Model_71 d_Model_gift_13 ?_
      refine lv_if_ne (tgt := 22) hx hb d_Model_gift_16 (by decide) (fun c22 => ?_) (fun c22 => ?_)
      · have hk := hk.1 c22
        refine lv_aload_n hx hb d_Model_gift_22 rfl (lv_at hl 0 rfl) ?_
        refine r_runV (k_V (As := []) (rest := []) C hW hP (c_Model_goAll hI M19 _ hk) cb_Model_goAll ml_Model_185 (io_29 g M19) ⟨by decide, by decide⟩ rfl hl.1 rfl (Nat.le_of_ble_eq_true rfl) d_Model_gift_23 ⟨by decide, by decide⟩) hS (fun M23 H locs hk hP hS => ?_)
        refine lv_aload_n hx hb d_Model_gift_26 rfl (lv_at hl 0 rfl) ?_
        refine r_runI (k_V (As := []) (rest := []) C hW hP (c_Model_throughNow hI M23 _ hk) cb_Model_throughNow ml_Model_172 (io_29 g M23) ⟨by decide, by decide⟩ rfl hl.1 rfl (Nat.le_of_ble_eq_true rfl) d_Model_gift_27 ⟨by decide, by decide⟩) hS (fun r25 M24 H locs hk hP hS => ?_)
        refine lv_istore_n (lv' := [(2, .int r25), (0, .ref (g.2.2.2 29)), (1, .int a1)]) hx hb d_Model_gift_30 rfl hl (by decide) rfl (fun ls hl => ?_)
        refine lv_bipush (v := -9) hx hb d_Model_gift_31 (by decide) ?_
        refine lv_istore_n (lv' := [(3, .int (-9 : Int32)), (2, .int r25), (0, .ref (g.2.2.2 29)), (1, .int a1)]) hx hb d_Model_gift_33 rfl hl (by decide) rfl (fun ls hl => ?_)
        refine lv_iconst (v := 0) hx hb d_Model_gift_34 (by decide) ?_
        refine lv_istore (lv' := [(4, .int (0 : Int32)), (3, .int (-9 : Int32)), (2, .int r25), (0, .ref (g.2.2.2 29)), (1, .int a1)]) hx hb d_Model_gift_35 hl (by decide) rfl (fun ls hl => ?_)
        exact (eX37 a1 r25 (-9 : Int32) (0 : Int32) M24).mp hk _ _ _ hP hS (lv_sub hl [3, 4, 2, 1, 0] rfl)
      · have hk := hk.2 c22
        refine lv_bipush (v := -3) hx hb d_Model_gift_19 (by decide) ?_
        exact r_iret C hr hlocks hP hS hk d_Model_gift_21
    · have hk := hk.2 c21
      refine lv_bipush (v := -2) hx hb d_Model_gift_9 (by decide) ?_
      exact r_iret C hr hlocks hP hS hk d_Model_gift_11
  refine ⟨?_, ?_⟩
  · intro x1 x2 x3 x4 M hk
    refine (eX37 x1 x2 x3 x4 M).mpr ?_
    intro H locs ls hP hS hl
    unfold wp_Model_gift_37 at hk
    refine lv_iload hx hb d_Model_gift_37 (lv_at hl 4 rfl) ?_
    refine lv_aload_n hx hb d_Model_gift_39 rfl (lv_at hl 0 rfl) ?_
    refine gf_29_6 C hW hP fl_Model_74 d_Model_gift_40 ?_
    refine lv_icmp_ge (tgt := 126) hx hb d_Model_gift_43 (by decide) (fun c1 => ?_) (fun c1 => ?_)
    · have hk := hk.1 c1
      refine lv_iload_n hx hb d_Model_gift_126 rfl (lv_at hl 1 rfl) ?_
      refine lv_if_ne (tgt := 134) hx hb d_Model_gift_127 (by decide) (fun c2 => ?_) (fun c2 => ?_)
      · have hk := hk.1 c2
        refine lv_iload_n hx hb d_Model_gift_134 rfl (lv_at hl 2 rfl) ?_
        exact r_iret C hr hlocks hP hS hk d_Model_gift_135
      · have hk := hk.2 c2
        refine lv_iload_n hx hb d_Model_gift_130 rfl (lv_at hl 3 rfl) ?_
        refine lv_goto (tgt := 135) hx hb d_Model_gift_131 (by decide) ?_
        exact r_iret C hr hlocks hP hS hk d_Model_gift_135
    · have hk := hk.2 c1
      refine lv_aload_n hx hb d_Model_gift_46 rfl (lv_at hl 0 rfl) ?_
      refine gf_29_11 C hW hP fl_Model_31 d_Model_gift_47 ?_
      refine lv_iload hx hb d_Model_gift_50 (lv_at hl 4 rfl) ?_
      obtain ⟨h3, hk⟩ := hk
      refine al_37 C hW hP h3 d_Model_gift_52 ?_
      refine lv_topi (fun x5_4 ex5_4 => ?_)
      have hk := hk x5_4 ex5_4
      refine lv_istore (lv' := [(5, .int x5_4), (0, .ref (g.2.2.2 29)), (1, .int x1), (2, .int x2), (3, .int x3), (4, .int x4)]) hx hb d_Model_gift_53 hl (by decide) rfl (fun ls hl => ?_)
      refine lv_iconst (v := 0) hx hb d_Model_gift_55 (by decide) ?_
      refine lv_istore (lv' := [(6, .int (0 : Int32)), (5, .int x5_4), (0, .ref (g.2.2.2 29)), (1, .int x1), (2, .int x2), (3, .int x3), (4, .int x4)]) hx hb d_Model_gift_56 hl (by decide) rfl (fun ls hl => ?_)
      exact (eX58 x1 x2 x3 x4 x5_4 (0 : Int32) M).mp hk _ _ _ hP hS (lv_sub hl [2, 3, 4, 5, 6, 1, 0] rfl)
  · intro x1 x2 x3 x4 x5 x6 M hk
    refine (eX58 x1 x2 x3 x4 x5 x6 M).mpr ?_
    intro H locs ls hP hS hl
    unfold wp_Model_gift_58 at hk
    refine lv_iload hx hb d_Model_gift_58 (lv_at hl 6 rfl) ?_
    refine lv_bipush (v := 6) hx hb d_Model_gift_60 (by decide) ?_
    refine lv_icmp_ge (tgt := 111) hx hb d_Model_gift_62 (by decide) (fun c5 => ?_) (fun c5 => ?_)
    · have hk := hk.1 c5
      refine lv_aload_n hx hb d_Model_gift_111 rfl (lv_at hl 0 rfl) ?_
      refine gf_29_11 C hW hP fl_Model_31 d_Model_gift_112 ?_
      refine lv_iload hx hb d_Model_gift_115 (lv_at hl 4 rfl) ?_
      refine lv_iload hx hb d_Model_gift_117 (lv_at hl 5 rfl) ?_
      obtain ⟨h6, hk⟩ := hk
      refine as_37 hI C hW hP hS h6 d_Model_gift_119 (fun M7 eM7 H locs hP hS => ?_)
      have hk := hk M7 eM7
      obtain ⟨x4_8, ex4_8⟩ : ∃ y : Int32, y = x4 + (1 : Int32) := ⟨_, rfl⟩
      have hk := hk x4_8 ex4_8
      refine lv_iinc (v := x4_8) (lv' := [(4, .int x4_8), (0, .ref (g.2.2.2 29)), (1, .int x1), (2, .int x2), (3, .int x3), (5, .int x5), (6, .int x6)]) hx hb d_Model_gift_120 hl (k := 4) rfl (by rw [ex4_8]; rfl) (by decide) rfl (fun ls hl => ?_)
      refine lv_goto (tgt := 37) hx hb d_Model_gift_123 (by decide) ?_
      exact (eX37 x1 x2 x3 x4_8 M7).mp hk _ _ _ hP hS (lv_sub hl [1, 2, 3, 4, 0] rfl)
    · have hk := hk.2 c5
      refine lv_aload_n hx hb d_Model_gift_65 rfl (lv_at hl 0 rfl) ?_
      refine gf_29_11 C hW hP fl_Model_31 d_Model_gift_66 ?_
      refine lv_iload hx hb d_Model_gift_69 (lv_at hl 4 rfl) ?_
      refine lv_iload hx hb d_Model_gift_71 (lv_at hl 5 rfl) ?_
      refine lv_iconst (v := 1) hx hb d_Model_gift_73 (by decide) ?_
      refine lv_iload hx hb d_Model_gift_74 (lv_at hl 6 rfl) ?_
      refine lv_ishl hx hb d_Model_gift_76 ?_
      refine lv_ior hx hb d_Model_gift_77 ?_
      obtain ⟨h9, hk⟩ := hk
      refine as_37 hI C hW hP hS h9 d_Model_gift_78 (fun M10 eM10 H locs hP hS => ?_)
      have hk := hk M10 eM10
      refine lv_aload_n hx hb d_Model_gift_79 rfl (lv_at hl 0 rfl) ?_
      refine r_runV (k_V (As := []) (rest := []) C hW hP (c_Model_goAll hI M10 _ hk) cb_Model_goAll ml_Model_185 (io_29 g M10) ⟨by decide, by decide⟩ rfl hl.1 rfl (Nat.le_of_ble_eq_true rfl) d_Model_gift_80 ⟨by decide, by decide⟩) hS (fun M11 H locs hk hP hS => ?_)
      refine lv_aload_n hx hb d_Model_gift_83 rfl (lv_at hl 0 rfl) ?_
      refine r_runI (k_V (As := []) (rest := []) C hW hP (c_Model_throughNow hI M11 _ hk) cb_Model_throughNow ml_Model_172 (io_29 g M11) ⟨by decide, by decide⟩ rfl hl.1 rfl (Nat.le_of_ble_eq_true rfl) d_Model_gift_84 ⟨by decide, by decide⟩) hS (fun r13 M12 H locs hk hP hS => ?_)
      refine lv_iload_n hx hb d_Model_gift_87 rfl (lv_at hl 2 rfl) ?_
      refine lv_icmp_le (tgt := 105) hx hb d_Model_gift_88 (by decide) (fun c14 => ?_) (fun c14 => ?_)
      · have hk := hk.1 c14
        exact J105 x1 x2 x3 x4 x5 x6 M12 hk _ _ _ hP hS (lv_sub hl [0, 1, 2, 3, 4, 5, 6] rfl)
      · have hk := hk.2 c14
        refine lv_aload_n hx hb d_Model_gift_91 rfl (lv_at hl 0 rfl) ?_
        refine r_runI (k_V (As := []) (rest := []) C hW hP (c_Model_throughNow hI M12 _ hk) cb_Model_throughNow ml_Model_172 (io_29 g M12) ⟨by decide, by decide⟩ rfl hl.1 rfl (Nat.le_of_ble_eq_true rfl) d_Model_gift_92 ⟨by decide, by decide⟩) hS (fun r16 M15 H locs hk hP hS => ?_)
        refine lv_istore_n (lv' := [(2, .int r16), (0, .ref (g.2.2.2 29)), (1, .int x1), (3, .int x3), (4, .int x4), (5, .int x5), (6, .int x6)]) hx hb d_Model_gift_95 rfl hl (by decide) rfl (fun ls hl => ?_)
        refine lv_bipush (v := 10) hx hb d_Model_gift_96 (by decide) ?_
        refine lv_iload hx hb d_Model_gift_98 (lv_at hl 4 rfl) ?_
        refine lv_imul hx hb d_Model_gift_100 ?_
        refine lv_iload hx hb d_Model_gift_101 (lv_at hl 6 rfl) ?_
        refine lv_iadd hx hb d_Model_gift_103 ?_
        refine lv_topi (fun x3_17 ex3_17 => ?_)
        have hk := hk x3_17 ex3_17
        refine lv_istore_n (lv' := [(3, .int x3_17), (2, .int r16), (0, .ref (g.2.2.2 29)), (1, .int x1), (4, .int x4), (5, .int x5), (6, .int x6)]) hx hb d_Model_gift_104 rfl hl (by decide) rfl (fun ls hl => ?_)
        exact J105 x1 r16 x3_17 x4 x5 x6 M15 hk _ _ _ hP hS (lv_sub hl [2, 3, 1, 0, 4, 5, 6] rfl)
theorem d_Model_worst_0 : decode b_Model_worst 0 = .ok (.iload_n 1, 1) := by decide +kernel
theorem d_Model_worst_1 : decode b_Model_worst 1 = .ok (.iconst 0, 1) := by decide +kernel
theorem d_Model_worst_2 : decode b_Model_worst 2 = .ok (.iconst 1, 1) := by decide +kernel
theorem d_Model_worst_3 : decode b_Model_worst 3 = .ok (.invokestatic 67, 3) := by decide +kernel
theorem d_Model_worst_6 : decode b_Model_worst 6 = .ok (.ifCond .ne 6, 3) := by decide +kernel
theorem d_Model_worst_9 : decode b_Model_worst 9 = .ok (.bipush (-2), 2) := by decide +kernel
theorem d_Model_worst_11 : decode b_Model_worst 11 = .ok (.ireturn, 1) := by decide +kernel
theorem d_Model_worst_12 : decode b_Model_worst 12 = .ok (.aload_n 0, 1) := by decide +kernel
theorem d_Model_worst_13 : decode b_Model_worst 13 = .ok (.getfield 71, 3) := by decide +kernel
theorem d_Model_worst_16 : decode b_Model_worst 16 = .ok (.ifCond .ne 6, 3) := by decide +kernel
theorem d_Model_worst_19 : decode b_Model_worst 19 = .ok (.bipush (-3), 2) := by decide +kernel
theorem d_Model_worst_21 : decode b_Model_worst 21 = .ok (.ireturn, 1) := by decide +kernel
theorem d_Model_worst_22 : decode b_Model_worst 22 = .ok (.bipush 6, 2) := by decide +kernel
theorem d_Model_worst_24 : decode b_Model_worst 24 = .ok (.istore_n 2, 1) := by decide +kernel
theorem d_Model_worst_25 : decode b_Model_worst 25 = .ok (.bipush (-9), 2) := by decide +kernel
theorem d_Model_worst_27 : decode b_Model_worst 27 = .ok (.istore_n 3, 1) := by decide +kernel
theorem d_Model_worst_28 : decode b_Model_worst 28 = .ok (.iconst 0, 1) := by decide +kernel
theorem d_Model_worst_29 : decode b_Model_worst 29 = .ok (.istore 4, 2) := by decide +kernel
theorem d_Model_worst_31 : decode b_Model_worst 31 = .ok (.iload 4, 2) := by decide +kernel
theorem d_Model_worst_33 : decode b_Model_worst 33 = .ok (.bipush 6, 2) := by decide +kernel
theorem d_Model_worst_35 : decode b_Model_worst 35 = .ok (.if_icmp .ge 35, 3) := by decide +kernel
theorem d_Model_worst_38 : decode b_Model_worst 38 = .ok (.aload_n 0, 1) := by decide +kernel
theorem d_Model_worst_39 : decode b_Model_worst 39 = .ok (.iload 4, 2) := by decide +kernel
theorem d_Model_worst_41 : decode b_Model_worst 41 = .ok (.putfield 34, 3) := by decide +kernel
theorem d_Model_worst_44 : decode b_Model_worst 44 = .ok (.aload_n 0, 1) := by decide +kernel
theorem d_Model_worst_45 : decode b_Model_worst 45 = .ok (.invokevirtual 185, 3) := by decide +kernel
theorem d_Model_worst_48 : decode b_Model_worst 48 = .ok (.aload_n 0, 1) := by decide +kernel
theorem d_Model_worst_49 : decode b_Model_worst 49 = .ok (.invokevirtual 172, 3) := by decide +kernel
theorem d_Model_worst_52 : decode b_Model_worst 52 = .ok (.iload_n 2, 1) := by decide +kernel
theorem d_Model_worst_53 : decode b_Model_worst 53 = .ok (.if_icmp .ge 11, 3) := by decide +kernel
theorem d_Model_worst_56 : decode b_Model_worst 56 = .ok (.aload_n 0, 1) := by decide +kernel
theorem d_Model_worst_57 : decode b_Model_worst 57 = .ok (.invokevirtual 172, 3) := by decide +kernel
theorem d_Model_worst_60 : decode b_Model_worst 60 = .ok (.istore_n 2, 1) := by decide +kernel
theorem d_Model_worst_61 : decode b_Model_worst 61 = .ok (.iload 4, 2) := by decide +kernel
theorem d_Model_worst_63 : decode b_Model_worst 63 = .ok (.istore_n 3, 1) := by decide +kernel
theorem d_Model_worst_64 : decode b_Model_worst 64 = .ok (.iinc 4 1, 3) := by decide +kernel
theorem d_Model_worst_67 : decode b_Model_worst 67 = .ok (.goto (-36), 3) := by decide +kernel
theorem d_Model_worst_70 : decode b_Model_worst 70 = .ok (.aload_n 0, 1) := by decide +kernel
theorem d_Model_worst_71 : decode b_Model_worst 71 = .ok (.bipush 6, 2) := by decide +kernel
theorem d_Model_worst_73 : decode b_Model_worst 73 = .ok (.putfield 34, 3) := by decide +kernel
theorem d_Model_worst_76 : decode b_Model_worst 76 = .ok (.iload_n 1, 1) := by decide +kernel
theorem d_Model_worst_77 : decode b_Model_worst 77 = .ok (.ifCond .ne 7, 3) := by decide +kernel
theorem d_Model_worst_80 : decode b_Model_worst 80 = .ok (.iload_n 3, 1) := by decide +kernel
theorem d_Model_worst_81 : decode b_Model_worst 81 = .ok (.goto 4, 3) := by decide +kernel
theorem d_Model_worst_84 : decode b_Model_worst 84 = .ok (.iload_n 2, 1) := by decide +kernel
theorem d_Model_worst_85 : decode b_Model_worst 85 = .ok (.ireturn, 1) := by decide +kernel
set_option maxRecDepth 20000 in
theorem c_Model_worst {l : Launch} {g : GG} (hI : WI g) (a1 : Int32) (M : Mem) (R : Int32 → Mem → Prop) (h : wp_Model_worst a1 M R) : Met l y_Model_worst (wm y_Model_worst b_Model_worst 5 (some .int)) (RM 4 94) (PP g M [.ref (g.2.2.2 29), .int a1]) (PQ g (RI R)) 0 0 (AW g) := by
  refine m_of (own := N_Model) (by decide) rfl (Nat.le_of_ble_eq_true rfl) ?_
  intro p e s m below meth c ls C hr hlocks hW hP hS hl
  obtain ⟨hx, hb, hml, hown, hts⟩ := id C
  have hl : lv_has ls 5 [(0, .ref (g.2.2.2 29)), (1, .int a1)] := hl
  unfold wp_Model_worst at h
  obtain ⟨X31, eX31⟩ : ∃ X : Int32 → Int32 → Int32 → Int32 → Mem → Prop, ∀ (x1 : Int32) (x2 : Int32) (x3 : Int32) (x4 : Int32) (M : Mem), X x1 x2 x3 x4 M ↔ (∀ (H : Heap) (locs : List Loc) (ls : Array Slot), WP g M H → va_S (AW g) s.heap H locs → lv_has ls 5 [(0, .ref (g.2.2.2 29)), (1, .int x1), (2, .int x2), (3, .int x3), (4, .int x4)] → W p l e (RM 4 94) s m ([.ref (g.2.2.2 29), .int a1] : List Value).toArray below meth c H locs 0 0 (MQ below (PQ g (RI R)) ([.ref (g.2.2.2 29), .int a1] : List Value).toArray s 0 0 (AW g)) (F0 m 31 ls [])) := ⟨fun x1 x2 x3 x4 M => _, fun _ _ _ _ _ => Iff.rfl⟩
  have J64 : ∀ (x1 : Int32) (x2 : Int32) (x3 : Int32) (x4 : Int32) (M : Mem), wp_Model_worst_64 X31 R x1 x2 x3 x4 M → ∀ (H : Heap) (locs : List Loc) (ls : Array Slot), WP g M H → va_S (AW g) s.heap H locs → lv_has ls 5 [(0, .ref (g.2.2.2 29)), (1, .int x1), (2, .int x2), (3, .int x3), (4, .int x4)] → W p l e (RM 4 94) s m ([.ref (g.2.2.2 29), .int a1] : List Value).toArray below meth c H locs 0 0 (MQ below (PQ g (RI R)) ([.ref (g.2.2.2 29), .int a1] : List Value).toArray s 0 0 (AW g)) (F0 m 64 ls []) := by
    intro x1 x2 x3 x4 M hk H locs ls hP hS hl
    unfold wp_Model_worst_64 at hk
    obtain ⟨x4_11, ex4_11⟩ : ∃ y : Int32, y = x4 + (1 : Int32) := ⟨_, rfl⟩
    have hk := hk x4_11 ex4_11
    refine lv_iinc (v := x4_11) (lv' := [(4, .int x4_11), (0, .ref (g.2.2.2 29)), (1, .int x1), (2, .int x2), (3, .int x3)]) hx hb d_Model_worst_64 hl (k := 4) rfl (by rw [ex4_11]; rfl) (by decide) rfl (fun ls hl => ?_)
    refine lv_goto (tgt := 31) hx hb d_Model_worst_67 (by decide) ?_
    exact (eX31 x1 x2 x3 x4_11 M).mp hk _ _ _ hP hS (lv_sub hl [1, 2, 3, 4, 0] rfl)
  suffices hcl : (∀ (x1 : Int32) (x2 : Int32) (x3 : Int32) (x4 : Int32) (M : Mem), wp_Model_worst_31 X31 R x1 x2 x3 x4 M → X31 x1 x2 x3 x4 M) by
    have hk := h X31 hcl
    refine lv_iload_n hx hb d_Model_worst_0 rfl (lv_at hl 1 rfl) ?_
    refine lv_iconst (v := 0) hx hb d_Model_worst_1 (by decide) ?_
    refine lv_iconst (v := 1) hx hb d_Model_worst_2 (by decide) ?_
    refine r_runZ (k_S (As := [.int a1, .int (0 : Int32), .int (1 : Int32)]) (rest := []) C hW hP (c_Model_within hI a1 (0 : Int32) (1 : Int32) M _ hk) cb_Model_within ml_Model_67 ⟨by decide, by decide⟩ rfl hl.1 rfl (Nat.le_of_ble_eq_true rfl) d_Model_worst_3 ⟨by decide, by decide⟩) hS (fun r13 M12 H locs zr13 hk hP hS => ?_)
    refine lv_if_ne (tgt := 12) hx hb d_Model_worst_6 (by decide) (fun c14 => ?_) (fun c14 => ?_)
    · have hk := hk.1 c14
      refine lv_aload_n hx hb d_Model_worst_12 rfl (lv_at hl 0 rfl) ?_
      refine gf_29_5 C hW hP fl_Model_71 d_Model_worst_13 ?_
      refine lv_if_ne (tgt := 22) hx hb d_Model_worst_16 (by decide) (fun c15 => ?_) (fun c15 => ?_)
      · have hk := hk.1 c15
        refine lv_bipush (v := 6) hx hb d_Model_worst_22 (by decide) ?_
        refine lv_istore_n (lv' := [(2, .int (6 : Int32)), (0, .ref (g.2.2.2 29)), (1, .int a1)]) hx hb d_Model_worst_24 rfl hl (by decide) rfl (fun ls hl => ?_)
        refine lv_bipush (v := -9) hx hb d_Model_worst_25 (by decide) ?_
        refine lv_istore_n (lv' := [(3, .int (-9 : Int32)), (2, .int (6 : Int32)), (0, .ref (g.2.2.2 29)), (1, .int a1)]) hx hb d_Model_worst_27 rfl hl (by decide) rfl (fun ls hl => ?_)
        refine lv_iconst (v := 0) hx hb d_Model_worst_28 (by decide) ?_
        refine lv_istore (lv' := [(4, .int (0 : Int32)), (3, .int (-9 : Int32)), (2, .int (6 : Int32)), (0, .ref (g.2.2.2 29)), (1, .int a1)]) hx hb d_Model_worst_29 hl (by decide) rfl (fun ls hl => ?_)
        exact (eX31 a1 (6 : Int32) (-9 : Int32) (0 : Int32) M12).mp hk _ _ _ hP hS (lv_sub hl [3, 4, 2, 1, 0] rfl)
      · have hk := hk.2 c15
        refine lv_bipush (v := -3) hx hb d_Model_worst_19 (by decide) ?_
        exact r_iret C hr hlocks hP hS hk d_Model_worst_21
    · have hk := hk.2 c14
      refine lv_bipush (v := -2) hx hb d_Model_worst_9 (by decide) ?_
      exact r_iret C hr hlocks hP hS hk d_Model_worst_11
  · intro x1 x2 x3 x4 M hk
    refine (eX31 x1 x2 x3 x4 M).mpr ?_
    intro H locs ls hP hS hl
    unfold wp_Model_worst_31 at hk
    refine lv_iload hx hb d_Model_worst_31 (lv_at hl 4 rfl) ?_
    refine lv_bipush (v := 6) hx hb d_Model_worst_33 (by decide) ?_
    refine lv_icmp_ge (tgt := 70) hx hb d_Model_worst_35 (by decide) (fun c1 => ?_) (fun c1 => ?_)
    · have hk := hk.1 c1
      refine lv_aload_n hx hb d_Model_worst_70 rfl (lv_at hl 0 rfl) ?_
      refine lv_bipush (v := 6) hx hb d_Model_worst_71 (by decide) ?_
      refine pf_29_12 hI C hW hP hS fl_Model_34 d_Model_worst_73 (fun M2 eM2 H locs hP hS => ?_)
      have hk := hk M2 eM2
      refine lv_iload_n hx hb d_Model_worst_76 rfl (lv_at hl 1 rfl) ?_
      refine lv_if_ne (tgt := 84) hx hb d_Model_worst_77 (by decide) (fun c3 => ?_) (fun c3 => ?_)
      · have hk := hk.1 c3
        refine lv_iload_n hx hb d_Model_worst_84 rfl (lv_at hl 2 rfl) ?_
        exact r_iret C hr hlocks hP hS hk d_Model_worst_85
      · have hk := hk.2 c3
        refine lv_iload_n hx hb d_Model_worst_80 rfl (lv_at hl 3 rfl) ?_
        refine lv_goto (tgt := 85) hx hb d_Model_worst_81 (by decide) ?_
        exact r_iret C hr hlocks hP hS hk d_Model_worst_85
    · have hk := hk.2 c1
      refine lv_aload_n hx hb d_Model_worst_38 rfl (lv_at hl 0 rfl) ?_
      refine lv_iload hx hb d_Model_worst_39 (lv_at hl 4 rfl) ?_
      refine pf_29_12 hI C hW hP hS fl_Model_34 d_Model_worst_41 (fun M4 eM4 H locs hP hS => ?_)
      have hk := hk M4 eM4
      refine lv_aload_n hx hb d_Model_worst_44 rfl (lv_at hl 0 rfl) ?_
      refine r_runV (k_V (As := []) (rest := []) C hW hP (c_Model_goAll hI M4 _ hk) cb_Model_goAll ml_Model_185 (io_29 g M4) ⟨by decide, by decide⟩ rfl hl.1 rfl (Nat.le_of_ble_eq_true rfl) d_Model_worst_45 ⟨by decide, by decide⟩) hS (fun M5 H locs hk hP hS => ?_)
      refine lv_aload_n hx hb d_Model_worst_48 rfl (lv_at hl 0 rfl) ?_
      refine r_runI (k_V (As := []) (rest := []) C hW hP (c_Model_throughNow hI M5 _ hk) cb_Model_throughNow ml_Model_172 (io_29 g M5) ⟨by decide, by decide⟩ rfl hl.1 rfl (Nat.le_of_ble_eq_true rfl) d_Model_worst_49 ⟨by decide, by decide⟩) hS (fun r7 M6 H locs hk hP hS => ?_)
      refine lv_iload_n hx hb d_Model_worst_52 rfl (lv_at hl 2 rfl) ?_
      refine lv_icmp_ge (tgt := 64) hx hb d_Model_worst_53 (by decide) (fun c8 => ?_) (fun c8 => ?_)
      · have hk := hk.1 c8
        exact J64 x1 x2 x3 x4 M6 hk _ _ _ hP hS (lv_sub hl [0, 1, 2, 3, 4] rfl)
      · have hk := hk.2 c8
        refine lv_aload_n hx hb d_Model_worst_56 rfl (lv_at hl 0 rfl) ?_
        refine r_runI (k_V (As := []) (rest := []) C hW hP (c_Model_throughNow hI M6 _ hk) cb_Model_throughNow ml_Model_172 (io_29 g M6) ⟨by decide, by decide⟩ rfl hl.1 rfl (Nat.le_of_ble_eq_true rfl) d_Model_worst_57 ⟨by decide, by decide⟩) hS (fun r10 M9 H locs hk hP hS => ?_)
        refine lv_istore_n (lv' := [(2, .int r10), (0, .ref (g.2.2.2 29)), (1, .int x1), (3, .int x3), (4, .int x4)]) hx hb d_Model_worst_60 rfl hl (by decide) rfl (fun ls hl => ?_)
        refine lv_iload hx hb d_Model_worst_61 (lv_at hl 4 rfl) ?_
        refine lv_istore_n (lv' := [(3, .int x4), (2, .int r10), (0, .ref (g.2.2.2 29)), (1, .int x1), (4, .int x4)]) hx hb d_Model_worst_63 rfl hl (by decide) rfl (fun ls hl => ?_)
        exact J64 x1 r10 x4 x4 M9 hk _ _ _ hP hS (lv_sub hl [2, 3, 1, 0, 4] rfl)
