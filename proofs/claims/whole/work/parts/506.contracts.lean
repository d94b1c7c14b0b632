theorem d_Model_way_0 : decode b_Model_way 0 = .ok (.aload_n 0, 1) := by decide +kernel
theorem d_Model_way_1 : decode b_Model_way 1 = .ok (.iconst 0, 1) := by decide +kernel
theorem d_Model_way_2 : decode b_Model_way 2 = .ok (.putfield 62, 3) := by decide +kernel
theorem d_Model_way_5 : decode b_Model_way 5 = .ok (.iload_n 1, 1) := by decide +kernel
theorem d_Model_way_6 : decode b_Model_way 6 = .ok (.invokestatic 80, 3) := by decide +kernel
theorem d_Model_way_9 : decode b_Model_way 9 = .ok (.ifCond .ne 5, 3) := by decide +kernel
theorem d_Model_way_12 : decode b_Model_way 12 = .ok (.iconst (-1), 1) := by decide +kernel
theorem d_Model_way_13 : decode b_Model_way 13 = .ok (.ireturn, 1) := by decide +kernel
theorem d_Model_way_14 : decode b_Model_way 14 = .ok (.iload_n 2, 1) := by decide +kernel
theorem d_Model_way_15 : decode b_Model_way 15 = .ok (.invokestatic 84, 3) := by decide +kernel
theorem d_Model_way_18 : decode b_Model_way 18 = .ok (.ifCond .ne 6, 3) := by decide +kernel
theorem d_Model_way_21 : decode b_Model_way 21 = .ok (.bipush (-2), 2) := by decide +kernel
theorem d_Model_way_23 : decode b_Model_way 23 = .ok (.ireturn, 1) := by decide +kernel
theorem d_Model_way_24 : decode b_Model_way 24 = .ok (.aload_n 0, 1) := by decide +kernel
theorem d_Model_way_25 : decode b_Model_way 25 = .ok (.iload_n 1, 1) := by decide +kernel
theorem d_Model_way_26 : decode b_Model_way 26 = .ok (.iload_n 2, 1) := by decide +kernel
theorem d_Model_way_27 : decode b_Model_way 27 = .ok (.iload_n 3, 1) := by decide +kernel
theorem d_Model_way_28 : decode b_Model_way 28 = .ok (.iload 4, 2) := by decide +kernel
theorem d_Model_way_30 : decode b_Model_way 30 = .ok (.invokevirtual 87, 3) := by decide +kernel
theorem d_Model_way_33 : decode b_Model_way 33 = .ok (.istore 5, 2) := by decide +kernel
theorem d_Model_way_35 : decode b_Model_way 35 = .ok (.iload 5, 2) := by decide +kernel
theorem d_Model_way_37 : decode b_Model_way 37 = .ok (.ifCond .eq 10, 3) := by decide +kernel
theorem d_Model_way_40 : decode b_Model_way 40 = .ok (.aload_n 0, 1) := by decide +kernel
theorem d_Model_way_41 : decode b_Model_way 41 = .ok (.iload 5, 2) := by decide +kernel
theorem d_Model_way_43 : decode b_Model_way 43 = .ok (.invokevirtual 91, 3) := by decide +kernel
theorem d_Model_way_46 : decode b_Model_way 46 = .ok (.ireturn, 1) := by decide +kernel
theorem d_Model_way_47 : decode b_Model_way 47 = .ok (.bipush 60, 2) := by decide +kernel
theorem d_Model_way_49 : decode b_Model_way 49 = .ok (.iload_n 1, 1) := by decide +kernel
theorem d_Model_way_50 : decode b_Model_way 50 = .ok (.imul, 1) := by decide +kernel
theorem d_Model_way_51 : decode b_Model_way 51 = .ok (.iload_n 3, 1) := by decide +kernel
theorem d_Model_way_52 : decode b_Model_way 52 = .ok (.iadd, 1) := by decide +kernel
theorem d_Model_way_53 : decode b_Model_way 53 = .ok (.istore 6, 2) := by decide +kernel
theorem d_Model_way_55 : decode b_Model_way 55 = .ok (.aload_n 0, 1) := by decide +kernel
theorem d_Model_way_56 : decode b_Model_way 56 = .ok (.iload 6, 2) := by decide +kernel
theorem d_Model_way_58 : decode b_Model_way 58 = .ok (.putfield 77, 3) := by decide +kernel
theorem d_Model_way_61 : decode b_Model_way 61 = .ok (.aload_n 0, 1) := by decide +kernel
theorem d_Model_way_62 : decode b_Model_way 62 = .ok (.iload 6, 2) := by decide +kernel
theorem d_Model_way_64 : decode b_Model_way 64 = .ok (.iload 4, 2) := by decide +kernel
theorem d_Model_way_66 : decode b_Model_way 66 = .ok (.iadd, 1) := by decide +kernel
theorem d_Model_way_67 : decode b_Model_way 67 = .ok (.invokevirtual 95, 3) := by decide +kernel
theorem d_Model_way_70 : decode b_Model_way 70 = .ok (.ifCond .ne 14, 3) := by decide +kernel
theorem d_Model_way_73 : decode b_Model_way 73 = .ok (.bipush (-100), 2) := by decide +kernel
theorem d_Model_way_75 : decode b_Model_way 75 = .ok (.aload_n 0, 1) := by decide +kernel
theorem d_Model_way_76 : decode b_Model_way 76 = .ok (.getfield 77, 3) := by decide +kernel
theorem d_Model_way_79 : decode b_Model_way 79 = .ok (.iload 6, 2) := by decide +kernel
theorem d_Model_way_81 : decode b_Model_way 81 = .ok (.isub, 1) := by decide +kernel
theorem d_Model_way_82 : decode b_Model_way 82 = .ok (.isub, 1) := by decide +kernel
theorem d_Model_way_83 : decode b_Model_way 83 = .ok (.ireturn, 1) := by decide +kernel
theorem d_Model_way_84 : decode b_Model_way 84 = .ok (.aload_n 0, 1) := by decide +kernel
theorem d_Model_way_85 : decode b_Model_way 85 = .ok (.aload_n 0, 1) := by decide +kernel
theorem d_Model_way_86 : decode b_Model_way 86 = .ok (.getfield 98, 3) := by decide +kernel
theorem d_Model_way_89 : decode b_Model_way 89 = .ok (.putfield 71, 3) := by decide +kernel
theorem d_Model_way_92 : decode b_Model_way 92 = .ok (.aload_n 0, 1) := by decide +kernel
theorem d_Model_way_93 : decode b_Model_way 93 = .ok (.aload_n 0, 1) := by decide +kernel
theorem d_Model_way_94 : decode b_Model_way 94 = .ok (.getfield 101, 3) := by decide +kernel
theorem d_Model_way_97 : decode b_Model_way 97 = .ok (.putfield 74, 3) := by decide +kernel
theorem d_Model_way_100 : decode b_Model_way 100 = .ok (.iconst 0, 1) := by decide +kernel
theorem d_Model_way_101 : decode b_Model_way 101 = .ok (.istore 7, 2) := by decide +kernel
theorem d_Model_way_103 : decode b_Model_way 103 = .ok (.iload 7, 2) := by decide +kernel
theorem d_Model_way_105 : decode b_Model_way 105 = .ok (.aload_n 0, 1) := by decide +kernel
theorem d_Model_way_106 : decode b_Model_way 106 = .ok (.getfield 71, 3) := by decide +kernel
theorem d_Model_way_109 : decode b_Model_way 109 = .ok (.if_icmp .ge 79, 3) := by decide +kernel
theorem d_Model_way_112 : decode b_Model_way 112 = .ok (.aload_n 0, 1) := by decide +kernel
theorem d_Model_way_113 : decode b_Model_way 113 = .ok (.getfield 19, 3) := by decide +kernel
theorem d_Model_way_116 : decode b_Model_way 116 = .ok (.iload 7, 2) := by decide +kernel
theorem d_Model_way_118 : decode b_Model_way 118 = .ok (.aload_n 0, 1) := by decide +kernel
theorem d_Model_way_119 : decode b_Model_way 119 = .ok (.getfield 38, 3) := by decide +kernel
theorem d_Model_way_122 : decode b_Model_way 122 = .ok (.iconst 4, 1) := by decide +kernel
theorem d_Model_way_123 : decode b_Model_way 123 = .ok (.iload 7, 2) := by decide +kernel
theorem d_Model_way_125 : decode b_Model_way 125 = .ok (.imul, 1) := by decide +kernel
theorem d_Model_way_126 : decode b_Model_way 126 = .ok (.iaload, 1) := by decide +kernel
theorem d_Model_way_127 : decode b_Model_way 127 = .ok (.iastore, 1) := by decide +kernel
theorem d_Model_way_128 : decode b_Model_way 128 = .ok (.aload_n 0, 1) := by decide +kernel
theorem d_Model_way_129 : decode b_Model_way 129 = .ok (.getfield 22, 3) := by decide +kernel
theorem d_Model_way_132 : decode b_Model_way 132 = .ok (.iload 7, 2) := by decide +kernel
theorem d_Model_way_134 : decode b_Model_way 134 = .ok (.aload_n 0, 1) := by decide +kernel
theorem d_Model_way_135 : decode b_Model_way 135 = .ok (.getfield 38, 3) := by decide +kernel
theorem d_Model_way_138 : decode b_Model_way 138 = .ok (.iconst 4, 1) := by decide +kernel
theorem d_Model_way_139 : decode b_Model_way 139 = .ok (.iload 7, 2) := by decide +kernel
theorem d_Model_way_141 : decode b_Model_way 141 = .ok (.imul, 1) := by decide +kernel
theorem d_Model_way_142 : decode b_Model_way 142 = .ok (.iconst 1, 1) := by decide +kernel
theorem d_Model_way_143 : decode b_Model_way 143 = .ok (.iadd, 1) := by decide +kernel
theorem d_Model_way_144 : decode b_Model_way 144 = .ok (.iaload, 1) := by decide +kernel
theorem d_Model_way_145 : decode b_Model_way 145 = .ok (.iastore, 1) := by decide +kernel
theorem d_Model_way_146 : decode b_Model_way 146 = .ok (.aload_n 0, 1) := by decide +kernel
theorem d_Model_way_147 : decode b_Model_way 147 = .ok (.getfield 25, 3) := by decide +kernel
theorem d_Model_way_150 : decode b_Model_way 150 = .ok (.iload 7, 2) := by decide +kernel
theorem d_Model_way_152 : decode b_Model_way 152 = .ok (.aload_n 0, 1) := by decide +kernel
theorem d_Model_way_153 : decode b_Model_way 153 = .ok (.getfield 38, 3) := by decide +kernel
theorem d_Model_way_156 : decode b_Model_way 156 = .ok (.iconst 4, 1) := by decide +kernel
theorem d_Model_way_157 : decode b_Model_way 157 = .ok (.iload 7, 2) := by decide +kernel
theorem d_Model_way_159 : decode b_Model_way 159 = .ok (.imul, 1) := by decide +kernel
theorem d_Model_way_160 : decode b_Model_way 160 = .ok (.iconst 2, 1) := by decide +kernel
theorem d_Model_way_161 : decode b_Model_way 161 = .ok (.iadd, 1) := by decide +kernel
theorem d_Model_way_162 : decode b_Model_way 162 = .ok (.iaload, 1) := by decide +kernel
theorem d_Model_way_163 : decode b_Model_way 163 = .ok (.iastore, 1) := by decide +kernel
theorem d_Model_way_164 : decode b_Model_way 164 = .ok (.aload_n 0, 1) := by decide +kernel
theorem d_Model_way_165 : decode b_Model_way 165 = .ok (.getfield 28, 3) := by decide +kernel
theorem d_Model_way_168 : decode b_Model_way 168 = .ok (.iload 7, 2) := by decide +kernel
theorem d_Model_way_170 : decode b_Model_way 170 = .ok (.aload_n 0, 1) := by decide +kernel
theorem d_Model_way_171 : decode b_Model_way 171 = .ok (.getfield 38, 3) := by decide +kernel
theorem d_Model_way_174 : decode b_Model_way 174 = .ok (.iconst 4, 1) := by decide +kernel
theorem d_Model_way_175 : decode b_Model_way 175 = .ok (.iload 7, 2) := by decide +kernel
theorem d_Model_way_177 : decode b_Model_way 177 = .ok (.imul, 1) := by decide +kernel
theorem d_Model_way_178 : decode b_Model_way 178 = .ok (.iconst 3, 1) := by decide +kernel
theorem d_Model_way_179 : decode b_Model_way 179 = .ok (.iadd, 1) := by decide +kernel
theorem d_Model_way_180 : decode b_Model_way 180 = .ok (.iaload, 1) := by decide +kernel
theorem d_Model_way_181 : decode b_Model_way 181 = .ok (.iastore, 1) := by decide +kernel
theorem d_Model_way_182 : decode b_Model_way 182 = .ok (.iinc 7 1, 3) := by decide +kernel
theorem d_Model_way_185 : decode b_Model_way 185 = .ok (.goto (-82), 3) := by decide +kernel
theorem d_Model_way_188 : decode b_Model_way 188 = .ok (.iconst 0, 1) := by decide +kernel
theorem d_Model_way_189 : decode b_Model_way 189 = .ok (.istore 7, 2) := by decide +kernel
theorem d_Model_way_191 : decode b_Model_way 191 = .ok (.iload 7, 2) := by decide +kernel
theorem d_Model_way_193 : decode b_Model_way 193 = .ok (.aload_n 0, 1) := by decide +kernel
theorem d_Model_way_194 : decode b_Model_way 194 = .ok (.getfield 74, 3) := by decide +kernel
theorem d_Model_way_197 : decode b_Model_way 197 = .ok (.if_icmp .ge 23, 3) := by decide +kernel
theorem d_Model_way_200 : decode b_Model_way 200 = .ok (.aload_n 0, 1) := by decide +kernel
theorem d_Model_way_201 : decode b_Model_way 201 = .ok (.getfield 31, 3) := by decide +kernel
theorem d_Model_way_204 : decode b_Model_way 204 = .ok (.iload 7, 2) := by decide +kernel
theorem d_Model_way_206 : decode b_Model_way 206 = .ok (.aload_n 0, 1) := by decide +kernel
theorem d_Model_way_207 : decode b_Model_way 207 = .ok (.getfield 41, 3) := by decide +kernel
theorem d_Model_way_210 : decode b_Model_way 210 = .ok (.iload 7, 2) := by decide +kernel
theorem d_Model_way_212 : decode b_Model_way 212 = .ok (.iaload, 1) := by decide +kernel
theorem d_Model_way_213 : decode b_Model_way 213 = .ok (.iastore, 1) := by decide +kernel
theorem d_Model_way_214 : decode b_Model_way 214 = .ok (.iinc 7 1, 3) := by decide +kernel
theorem d_Model_way_217 : decode b_Model_way 217 = .ok (.goto (-26), 3) := by decide +kernel
theorem d_Model_way_220 : decode b_Model_way 220 = .ok (.aload_n 0, 1) := by decide +kernel
theorem d_Model_way_221 : decode b_Model_way 221 = .ok (.iconst 0, 1) := by decide +kernel
theorem d_Model_way_222 : decode b_Model_way 222 = .ok (.putfield 104, 3) := by decide +kernel
theorem d_Model_way_225 : decode b_Model_way 225 = .ok (.aload_n 0, 1) := by decide +kernel
theorem d_Model_way_226 : decode b_Model_way 226 = .ok (.getfield 71, 3) := by decide +kernel
theorem d_Model_way_229 : decode b_Model_way 229 = .ok (.ireturn, 1) := by decide +kernel
set_option maxRecDepth 20000 in
theorem c_Model_way {l : Launch} {g : GG} (hI : WI g) (a1 : Int32) (a2 : Int32) (a3 : Int32) (a4 : Int32) (M : Mem) (R : Int32 → Mem → Prop) (h : wp_Model_way a1 a2 a3 a4 M R) : Met l y_Model_way (wm y_Model_way b_Model_way 8 (some .int)) (RM 4 90) (PP g M [.ref (g.2.2.2 29), .int a1, .int a2, .int a3, .int a4]) (PQ g (RI R)) 0 0 (AW g) := by
  refine m_of (own := N_Model) (by decide) rfl (Nat.le_of_ble_eq_true rfl) ?_
  intro p e s m below meth c ls C hr hlocks hW hP hS hl
  obtain ⟨hx, hb, hml, hown, hts⟩ := id C
  have hl : lv_has ls 8 [(0, .ref (g.2.2.2 29)), (1, .int a1), (2, .int a2), (3, .int a3), (4, .int a4)] := hl
  unfold wp_Model_way at h
  obtain ⟨X103, eX103⟩ : ∃ X : Int32 → Mem → Prop, ∀ (x7 : Int32) (M : Mem), X x7 M ↔ (∀ (H : Heap) (locs : List Loc) (ls : Array Slot), WP g M H → va_S (AW g) s.heap H locs → lv_has ls 8 [(0, .ref (g.2.2.2 29)), (7, .int x7)] → W p l e (RM 4 90) s m ([.ref (g.2.2.2 29), .int a1, .int a2, .int a3, .int a4] : List Value).toArray below meth c H locs 0 0 (MQ below (PQ g (RI R)) ([.ref (g.2.2.2 29), .int a1, .int a2, .int a3, .int a4] : List Value).toArray s 0 0 (AW g)) (F0 m 103 ls [])) := ⟨fun x7 M => _, fun _ _ => Iff.rfl⟩
  obtain ⟨X191, eX191⟩ : ∃ X : Int32 → Mem → Prop, ∀ (x7 : Int32) (M : Mem), X x7 M ↔ (∀ (H : Heap) (locs : List Loc) (ls : Array Slot), WP g M H → va_S (AW g) s.heap H locs → lv_has ls 8 [(0, .ref (g.2.2.2 29)), (7, .int x7)] → W p l e (RM 4 90) s m ([.ref (g.2.2.2 29), .int a1, .int a2, .int a3, .int a4] : List Value).toArray below meth c H locs 0 0 (MQ below (PQ g (RI R)) ([.ref (g.2.2.2 29), .int a1, .int a2, .int a3, .int a4] : List Value).toArray s 0 0 (AW g)) (F0 m 191 ls [])) := ⟨fun x7 M => _, fun _ _ => Iff.rfl⟩
  suffices hcl : (∀ (x7 : Int32) (M : Mem), wp_Model_way_103 X103 X191 R x7 M → X103 x7 M) ∧ (∀ (x7 : Int32) (M : Mem), wp_Model_way_191 X103 X191 R x7 M → X191 x7 M) by
    have hk := h X103 X191 (hcl.1) (hcl.2)
    refine lv_aload_n hx hb d_Model_way_0 rfl (lv_at hl 0 rfl) ?_
    refine lv_iconst (v := 0) hx hb d_Model_way_1 (by decide) ?_
    refine pf_29_0 hI C hW hP hS fl_Model_62 d_Model_way_2 (fun M21 eM21 H locs hP hS => ?_)
    have hk := hk M21 eM21
    refine lv_iload_n hx hb d_Model_way_5 rfl (lv_at hl 1 rfl) ?_
    refine r_runZ (k_S (As := [.int a1]) (rest := []) C hW hP (c_Model_isSheet hI a1 M21 _ hk) cb_Model_isSheet ml_Model_80 ⟨by decide, by decide⟩ rfl hl.1 rfl (Nat.le_of_ble_eq_true rfl) d_Model_way_6 ⟨by decide, by decide⟩) hS (fun r23 M22 H locs zr23 hk hP hS => ?_)
    refine lv_if_ne (tgt := 14) hx hb d_Model_way_9 (by decide) (fun c24 => ?_) (fun c24 => ?_)
    · have hk := hk.1 c24
      refine lv_iload_n hx hb d_Model_way_14 rfl (lv_at hl 2 rfl) ?_
      refine r_runZ (k_S (As := [.int a2]) (rest := []) C hW hP (c_Model_isSort hI a2 M22 _ hk) cb_Model_isSort ml_Model_84 ⟨by decide, by decide⟩ rfl hl.1 rfl (Nat.le_of_ble_eq_true rfl) d_Model_way_15 ⟨by decide, by decide⟩) hS (fun r26 M25 H locs zr26 hk hP hS => ?_)
      refine lv_if_ne (tgt := 24) hx hb d_Model_way_18 (by decide) (fun c27 => ?_) (fun c27 => ?_)
      · have hk := hk.1 c27
        refine lv_aload_n hx hb d_Model_way_24 rfl (lv_at hl 0 rfl) ?_
        refine lv_iload_n hx hb d_Model_way_25 rfl (lv_at hl 1 rfl) ?_
        refine lv_iload_n hx hb d_Model_way_26 rfl (lv_at hl 2 rfl) ?_
        refine lv_iload_n hx hb d_Model_way_27 rfl (lv_at hl 3 rfl) ?_
        refine lv_iload hx hb d_Model_way_28 (lv_at hl 4 rfl) ?_
        refine r_runI (k_V (As := [.int a1, .int a2, .int a3, .int a4]) (rest := []) C hW hP (c_Model_against hI a1 a2 a3 a4 M25 _ hk) cb_Model_against ml_Model_87 (io_29 g M25) ⟨by decide, by decide⟩ rfl hl.1 rfl (Nat.le_of_ble_eq_true rfl) d_Model_way_30 ⟨by decide, by decide⟩) hS (fun r29 M28 H locs hk hP hS => ?_)
        refine lv_istore (lv' := [(5, .int r29), (0, .ref (g.2.2.2 29)), (1, .int a1), (2, .int a2), (3, .int a3), (4, .int a4)]) hx hb d_Model_way_33 hl (by decide) rfl (fun ls hl => ?_)
        refine lv_iload hx hb d_Model_way_35 (lv_at hl 0 rfl) ?_
        refine lv_if_eq (tgt := 47) hx hb d_Model_way_37 (by decide) (fun c30 => ?_) (fun c30 => ?_)
        · have hk := hk.1 c30
          refine lv_bipush (v := 60) hx hb d_Model_way_47 (by decide) ?_
          refine lv_iload_n hx hb d_Model_way_49 rfl (lv_at hl 2 rfl) ?_
          refine lv_imul hx hb d_Model_way_50 ?_
          refine lv_iload_n hx hb d_Model_way_51 rfl (lv_at hl 4 rfl) ?_
          refine lv_iadd hx hb d_Model_way_52 ?_
          refine lv_topi (fun x6_31 ex6_31 => ?_)
          have hk := hk x6_31 ex6_31
          refine lv_istore (lv' := [(6, .int x6_31), (5, .int r29), (0, .ref (g.2.2.2 29)), (1, .int a1), (2, .int a2), (3, .int a3), (4, .int a4)]) hx hb d_Model_way_53 hl (by decide) rfl (fun ls hl => ?_)
          refine lv_aload_n hx hb d_Model_way_55 rfl (lv_at hl 2 rfl) ?_
          refine lv_iload hx hb d_Model_way_56 (lv_at hl 0 rfl) ?_
          refine pf_29_13 hI C hW hP hS fl_Model_77 d_Model_way_58 (fun M32 eM32 H locs hP hS => ?_)
          have hk := hk M32 eM32
          refine lv_aload_n hx hb d_Model_way_61 rfl (lv_at hl 2 rfl) ?_
          refine lv_iload hx hb d_Model_way_62 (lv_at hl 0 rfl) ?_
          refine lv_iload hx hb d_Model_way_64 (lv_at hl 6 rfl) ?_
          refine lv_iadd hx hb d_Model_way_66 ?_
          refine r_runZ (k_V (As := [.int (x6_31 + a4)]) (rest := []) C hW hP (c_Model_readWay hI (x6_31 + a4) M32 _ hk) cb_Model_readWay ml_Model_95 (io_29 g M32) ⟨by decide, by decide⟩ rfl hl.1 rfl (Nat.le_of_ble_eq_true rfl) d_Model_way_67 ⟨by decide, by decide⟩) hS (fun r34 M33 H locs zr34 hk hP hS => ?_)
          refine lv_if_ne (tgt := 84) hx hb d_Model_way_70 (by decide) (fun c35 => ?_) (fun c35 => ?_)
          · have hk := hk.1 c35
            refine lv_aload_n hx hb d_Model_way_84 rfl (lv_at hl 2 rfl) ?_
            refine lv_aload_n hx hb d_Model_way_85 rfl (lv_at hl 2 rfl) ?_
            refine gf_29_14 C hW hP fl_Model_98 d_Model_way_86 ?_
            refine pf_29_5 hI C hW hP hS fl_Model_71 d_Model_way_89 (fun M36 eM36 H locs hP hS => ?_)
            have hk := hk M36 eM36
            refine lv_aload_n hx hb d_Model_way_92 rfl (lv_at hl 2 rfl) ?_
            refine lv_aload_n hx hb d_Model_way_93 rfl (lv_at hl 2 rfl) ?_
            refine gf_29_15 C hW hP fl_Model_101 d_Model_way_94 ?_
            refine pf_29_6 hI C hW hP hS fl_Model_74 d_Model_way_97 (fun M37 eM37 H locs hP hS => ?_)
            have hk := hk M37 eM37
            refine lv_iconst (v := 0) hx hb d_Model_way_100 (by decide) ?_
            refine lv_istore (lv' := [(7, .int (0 : Int32)), (6, .int x6_31), (5, .int r29), (0, .ref (g.2.2.2 29)), (1, .int a1), (2, .int a2), (3, .int a3), (4, .int a4)]) hx hb d_Model_way_101 hl (by decide) rfl (fun ls hl => ?_)
            exact (eX103 (0 : Int32) M37).mp hk _ _ _ hP hS (lv_sub hl [3, 0] rfl)
          · have hk := hk.2 c35
            refine lv_bipush (v := -100) hx hb d_Model_way_73 (by decide) ?_
            refine lv_aload_n hx hb d_Model_way_75 rfl (lv_at hl 2 rfl) ?_
            refine gf_29_13 C hW hP fl_Model_77 d_Model_way_76 ?_
            refine lv_iload hx hb d_Model_way_79 (lv_at hl 0 rfl) ?_
            refine lv_isub hx hb d_Model_way_81 ?_
            refine lv_isub hx hb d_Model_way_82 ?_
            exact r_iret C hr hlocks hP hS hk d_Model_way_83
        · have hk := hk.2 c30
          refine lv_aload_n hx hb d_Model_way_40 rfl (lv_at hl 1 rfl) ?_
          refine lv_iload hx hb d_Model_way_41 (lv_at hl 0 rfl) ?_
          refine r_runI (k_V (As := [.int r29]) (rest := []) C hW hP (c_Model_fails hI r29 M28 _ hk) cb_Model_fails ml_Model_91 (io_29 g M28) ⟨by decide, by decide⟩ rfl hl.1 rfl (Nat.le_of_ble_eq_true rfl) d_Model_way_43 ⟨by decide, by decide⟩) hS (fun r39 M38 H locs hk hP hS => ?_)
          exact r_iret C hr hlocks hP hS hk d_Model_way_46
      · have hk := hk.2 c27
        refine lv_bipush (v := -2) hx hb d_Model_way_21 (by decide) ?_
        exact r_iret C hr hlocks hP hS hk d_Model_way_23
    · have hk := hk.2 c24
      refine lv_iconst (v := -1) hx hb d_Model_way_12 (by decide) ?_
      exact r_iret C hr hlocks hP hS hk d_Model_way_13
  refine ⟨?_, ?_⟩
  · intro x7 M hk
    refine (eX103 x7 M).mpr ?_
    intro H locs ls hP hS hl
    unfold wp_Model_way_103 at hk
    refine lv_iload hx hb d_Model_way_103 (lv_at hl 1 rfl) ?_
    refine lv_aload_n hx hb d_Model_way_105 rfl (lv_at hl 0 rfl) ?_
    refine gf_29_5 C hW hP fl_Model_71 d_Model_way_106 ?_
    refine lv_icmp_ge (tgt := 188) hx hb d_Model_way_109 (by decide) (fun c1 => ?_) (fun c1 => ?_)
    · have hk := hk.1 c1
      refine lv_iconst (v := 0) hx hb d_Model_way_188 (by decide) ?_
      refine lv_istore (lv' := [(7, .int (0 : Int32)), (0, .ref (g.2.2.2 29))]) hx hb d_Model_way_189 hl (by decide) rfl (fun ls hl => ?_)
      exact (eX191 (0 : Int32) M).mp hk _ _ _ hP hS (lv_sub hl [1, 0] rfl)
    · have hk := hk.2 c1
      refine lv_aload_n hx hb d_Model_way_112 rfl (lv_at hl 0 rfl) ?_
      refine gf_29_7 C hW hP fl_Model_19 d_Model_way_113 ?_
      refine lv_iload hx hb d_Model_way_116 (lv_at hl 1 rfl) ?_
      refine lv_aload_n hx hb d_Model_way_118 rfl (lv_at hl 0 rfl) ?_
      refine gf_29_16 C hW hP fl_Model_38 d_Model_way_119 ?_
      refine lv_iconst (v := 4) hx hb d_Model_way_122 (by decide) ?_
      refine lv_iload hx hb d_Model_way_123 (lv_at hl 1 rfl) ?_
      refine lv_imul hx hb d_Model_way_125 ?_
      obtain ⟨h2, hk⟩ := hk
      refine al_38 C hW hP h2 d_Model_way_126 ?_
      obtain ⟨h3, hk⟩ := hk
      refine as_33 hI C hW hP hS h3 d_Model_way_127 (fun M4 eM4 H locs hP hS => ?_)
      have hk := hk M4 eM4
      refine lv_aload_n hx hb d_Model_way_128 rfl (lv_at hl 0 rfl) ?_
      refine gf_29_8 C hW hP fl_Model_22 d_Model_way_129 ?_
      refine lv_iload hx hb d_Model_way_132 (lv_at hl 1 rfl) ?_
      refine lv_aload_n hx hb d_Model_way_134 rfl (lv_at hl 0 rfl) ?_
      refine gf_29_16 C hW hP fl_Model_38 d_Model_way_135 ?_
      refine lv_iconst (v := 4) hx hb d_Model_way_138 (by decide) ?_
      refine lv_iload hx hb d_Model_way_139 (lv_at hl 1 rfl) ?_
      refine lv_imul hx hb d_Model_way_141 ?_
      refine lv_iconst (v := 1) hx hb d_Model_way_142 (by decide) ?_
      refine lv_iadd hx hb d_Model_way_143 ?_
      obtain ⟨h5, hk⟩ := hk
      refine al_38 C hW hP h5 d_Model_way_144 ?_
      obtain ⟨h6, hk⟩ := hk
      refine as_34 hI C hW hP hS h6 d_Model_way_145 (fun M7 eM7 H locs hP hS => ?_)
      have hk := hk M7 eM7
      refine lv_aload_n hx hb d_Model_way_146 rfl (lv_at hl 0 rfl) ?_
      refine gf_29_9 C hW hP fl_Model_25 d_Model_way_147 ?_
      refine lv_iload hx hb d_Model_way_150 (lv_at hl 1 rfl) ?_
      refine lv_aload_n hx hb d_Model_way_152 rfl (lv_at hl 0 rfl) ?_
      refine gf_29_16 C hW hP fl_Model_38 d_Model_way_153 ?_
      refine lv_iconst (v := 4) hx hb d_Model_way_156 (by decide) ?_
      refine lv_iload hx hb d_Model_way_157 (lv_at hl 1 rfl) ?_
      refine lv_imul hx hb d_Model_way_159 ?_
      refine lv_iconst (v := 2) hx hb d_Model_way_160 (by decide) ?_
      refine lv_iadd hx hb d_Model_way_161 ?_
      obtain ⟨h8, hk⟩ := hk
      refine al_38 C hW hP h8 d_Model_way_162 ?_
      obtain ⟨h9, hk⟩ := hk
      refine as_35 hI C hW hP hS h9 d_Model_way_163 (fun M10 eM10 H locs hP hS => ?_)
      have hk := hk M10 eM10
      refine lv_aload_n hx hb d_Model_way_164 rfl (lv_at hl 0 rfl) ?_
      refine gf_29_10 C hW hP fl_Model_28 d_Model_way_165 ?_
      refine lv_iload hx hb d_Model_way_168 (lv_at hl 1 rfl) ?_
      refine lv_aload_n hx hb d_Model_way_170 rfl (lv_at hl 0 rfl) ?_
      refine gf_29_16 C hW hP fl_Model_38 d_Model_way_171 ?_
      refine lv_iconst (v := 4) hx hb d_Model_way_174 (by decide) ?_
      refine lv_iload hx hb d_Model_way_175 (lv_at hl 1 rfl) ?_
      refine lv_imul hx hb d_Model_way_177 ?_
      refine lv_iconst (v := 3) hx hb d_Model_way_178 (by decide) ?_
      refine lv_iadd hx hb d_Model_way_179 ?_
      obtain ⟨h11, hk⟩ := hk
      refine al_38 C hW hP h11 d_Model_way_180 ?_
      obtain ⟨h12, hk⟩ := hk
      refine as_36 hI C hW hP hS h12 d_Model_way_181 (fun M13 eM13 H locs hP hS => ?_)
      have hk := hk M13 eM13
      obtain ⟨x7_14, ex7_14⟩ : ∃ y : Int32, y = x7 + (1 : Int32) := ⟨_, rfl⟩
      have hk := hk x7_14 ex7_14
      refine lv_iinc (v := x7_14) (lv' := [(7, .int x7_14), (0, .ref (g.2.2.2 29))]) hx hb d_Model_way_182 hl (k := 1) rfl (by rw [ex7_14]; rfl) (by decide) rfl (fun ls hl => ?_)
      refine lv_goto (tgt := 103) hx hb d_Model_way_185 (by decide) ?_
      exact (eX103 x7_14 M13).mp hk _ _ _ hP hS (lv_sub hl [1, 0] rfl)
  · intro x7 M hk
    refine (eX191 x7 M).mpr ?_
    intro H locs ls hP hS hl
    unfold wp_Model_way_191 at hk
    refine lv_iload hx hb d_Model_way_191 (lv_at hl 1 rfl) ?_
    refine lv_aload_n hx hb d_Model_way_193 rfl (lv_at hl 0 rfl) ?_
    refine gf_29_6 C hW hP fl_Model_74 d_Model_way_194 ?_
    refine lv_icmp_ge (tgt := 220) hx hb d_Model_way_197 (by decide) (fun c15 => ?_) (fun c15 => ?_)
    · have hk := hk.1 c15
      refine lv_aload_n hx hb d_Model_way_220 rfl (lv_at hl 0 rfl) ?_
      refine lv_iconst (v := 0) hx hb d_Model_way_221 (by decide) ?_
      refine pf_29_23 hI C hW hP hS fl_Model_104 d_Model_way_222 (fun M16 eM16 H locs hP hS => ?_)
      have hk := hk M16 eM16
      refine lv_aload_n hx hb d_Model_way_225 rfl (lv_at hl 0 rfl) ?_
      refine gf_29_5 C hW hP fl_Model_71 d_Model_way_226 ?_
      exact r_iret C hr hlocks hP hS hk d_Model_way_229
    · have hk := hk.2 c15
      refine lv_aload_n hx hb d_Model_way_200 rfl (lv_at hl 0 rfl) ?_
      refine gf_29_11 C hW hP fl_Model_31 d_Model_way_201 ?_
      refine lv_iload hx hb d_Model_way_204 (lv_at hl 1 rfl) ?_
      refine lv_aload_n hx hb d_Model_way_206 rfl (lv_at hl 0 rfl) ?_
      refine gf_29_17 C hW hP fl_Model_41 d_Model_way_207 ?_
      refine lv_iload hx hb d_Model_way_210 (lv_at hl 1 rfl) ?_
      obtain ⟨h17, hk⟩ := hk
      refine al_39 C hW hP h17 d_Model_way_212 ?_
      obtain ⟨h18, hk⟩ := hk
      refine as_37 hI C hW hP hS h18 d_Model_way_213 (fun M19 eM19 H locs hP hS => ?_)
      have hk := hk M19 eM19
      obtain ⟨x7_20, ex7_20⟩ : ∃ y : Int32, y = x7 + (1 : Int32) := ⟨_, rfl⟩
      have hk := hk x7_20 ex7_20
      refine lv_iinc (v := x7_20) (lv' := [(7, .int x7_20), (0, .ref (g.2.2.2 29))]) hx hb d_Model_way_214 hl (k := 1) rfl (by rw [ex7_20]; rfl) (by decide) rfl (fun ls hl => ?_)
      refine lv_goto (tgt := 191) hx hb d_Model_way_217 (by decide) ?_
      exact (eX191 x7_20 M19).mp hk _ _ _ hP hS (lv_sub hl [1, 0] rfl)
theorem d_Model_isHouse_0 : decode b_Model_isHouse 0 = .ok (.iload_n 1, 1) := by decide +kernel
theorem d_Model_isHouse_1 : decode b_Model_isHouse 1 = .ok (.ifCond .lt 15, 3) := by decide +kernel
theorem d_Model_isHouse_4 : decode b_Model_isHouse 4 = .ok (.iload_n 1, 1) := by decide +kernel
theorem d_Model_isHouse_5 : decode b_Model_isHouse 5 = .ok (.aload_n 0, 1) := by decide +kernel
theorem d_Model_isHouse_6 : decode b_Model_isHouse 6 = .ok (.getfield 71, 3) := by decide +kernel
theorem d_Model_isHouse_9 : decode b_Model_isHouse 9 = .ok (.if_icmp .ge 7, 3) := by decide +kernel
theorem d_Model_isHouse_12 : decode b_Model_isHouse 12 = .ok (.iconst 1, 1) := by decide +kernel
theorem d_Model_isHouse_13 : decode b_Model_isHouse 13 = .ok (.goto 4, 3) := by decide +kernel
theorem d_Model_isHouse_16 : decode b_Model_isHouse 16 = .ok (.iconst 0, 1) := by decide +kernel
theorem d_Model_isHouse_17 : decode b_Model_isHouse 17 = .ok (.ireturn, 1) := by decide +kernel
set_option maxRecDepth 20000 in
theorem c_Model_isHouse {l : Launch} {g : GG} (hI : WI g) (a1 : Int32) (M : Mem) (R : Int32 → Mem → Prop) (h : wp_Model_isHouse a1 M R) : Met l y_Model_isHouse (wm y_Model_isHouse b_Model_isHouse 2 (some .boolean)) (RM 0 0) (PP g M [.ref (g.2.2.2 29), .int a1]) (PQ g (RZ R)) 0 0 (AW g) := by
  refine m_of (own := N_Model) (by decide) rfl (Nat.le_of_ble_eq_true rfl) ?_
  intro p e s m below meth c ls C hr hlocks hW hP hS hl
  obtain ⟨hx, hb, hml, hown, hts⟩ := id C
  have hl : lv_has ls 2 [(0, .ref (g.2.2.2 29)), (1, .int a1)] := hl
  unfold wp_Model_isHouse at h
  have hk := h
  refine lv_iload_n hx hb d_Model_isHouse_0 rfl (lv_at hl 1 rfl) ?_
  refine lv_if_lt (tgt := 16) hx hb d_Model_isHouse_1 (by decide) (fun c1 => ?_) (fun c1 => ?_)
  · have hk := hk.1 c1
    refine lv_iconst (v := 0) hx hb d_Model_isHouse_16 (by decide) ?_
    exact r_zret rfl C hr hlocks hP hS hk d_Model_isHouse_17
  · have hk := hk.2 c1
    refine lv_iload_n hx hb d_Model_isHouse_4 rfl (lv_at hl 1 rfl) ?_
    refine lv_aload_n hx hb d_Model_isHouse_5 rfl (lv_at hl 0 rfl) ?_
    refine gf_29_5 C hW hP fl_Model_71 d_Model_isHouse_6 ?_
    refine lv_icmp_ge (tgt := 16) hx hb d_Model_isHouse_9 (by decide) (fun c2 => ?_) (fun c2 => ?_)
    · have hk := hk.1 c2
      refine lv_iconst (v := 0) hx hb d_Model_isHouse_16 (by decide) ?_
      exact r_zret rfl C hr hlocks hP hS hk d_Model_isHouse_17
    · have hk := hk.2 c2
      refine lv_iconst (v := 1) hx hb d_Model_isHouse_12 (by decide) ?_
      refine lv_goto (tgt := 17) hx hb d_Model_isHouse_13 (by decide) ?_
      exact r_zret rfl C hr hlocks hP hS hk d_Model_isHouse_17
theorem d_Model_ofHouse_0 : decode b_Model_ofHouse 0 = .ok (.aload_n 0, 1) := by decide +kernel
theorem d_Model_ofHouse_1 : decode b_Model_ofHouse 1 = .ok (.iload_n 1, 1) := by decide +kernel
theorem d_Model_ofHouse_2 : decode b_Model_ofHouse 2 = .ok (.invokevirtual 121, 3) := by decide +kernel
theorem d_Model_ofHouse_5 : decode b_Model_ofHouse 5 = .ok (.ifCond .ne 5, 3) := by decide +kernel
theorem d_Model_ofHouse_8 : decode b_Model_ofHouse 8 = .ok (.iconst (-1), 1) := by decide +kernel
theorem d_Model_ofHouse_9 : decode b_Model_ofHouse 9 = .ok (.ireturn, 1) := by decide +kernel
theorem d_Model_ofHouse_10 : decode b_Model_ofHouse 10 = .ok (.iload_n 2, 1) := by decide +kernel
theorem d_Model_ofHouse_11 : decode b_Model_ofHouse 11 = .ok (.ifCond .ne 12, 3) := by decide +kernel
theorem d_Model_ofHouse_14 : decode b_Model_ofHouse 14 = .ok (.aload_n 0, 1) := by decide +kernel
theorem d_Model_ofHouse_15 : decode b_Model_ofHouse 15 = .ok (.getfield 19, 3) := by decide +kernel
theorem d_Model_ofHouse_18 : decode b_Model_ofHouse 18 = .ok (.iload_n 1, 1) := by decide +kernel
theorem d_Model_ofHouse_19 : decode b_Model_ofHouse 19 = .ok (.iaload, 1) := by decide +kernel
theorem d_Model_ofHouse_20 : decode b_Model_ofHouse 20 = .ok (.goto 47, 3) := by decide +kernel
theorem d_Model_ofHouse_23 : decode b_Model_ofHouse 23 = .ok (.iload_n 2, 1) := by decide +kernel
theorem d_Model_ofHouse_24 : decode b_Model_ofHouse 24 = .ok (.iconst 1, 1) := by decide +kernel
theorem d_Model_ofHouse_25 : decode b_Model_ofHouse 25 = .ok (.if_icmp .ne 12, 3) := by decide +kernel
theorem d_Model_ofHouse_28 : decode b_Model_ofHouse 28 = .ok (.aload_n 0, 1) := by decide +kernel
theorem d_Model_ofHouse_29 : decode b_Model_ofHouse 29 = .ok (.getfield 22, 3) := by decide +kernel
theorem d_Model_ofHouse_32 : decode b_Model_ofHouse 32 = .ok (.iload_n 1, 1) := by decide +kernel
theorem d_Model_ofHouse_33 : decode b_Model_ofHouse 33 = .ok (.iaload, 1) := by decide +kernel
theorem d_Model_ofHouse_34 : decode b_Model_ofHouse 34 = .ok (.goto 33, 3) := by decide +kernel
theorem d_Model_ofHouse_37 : decode b_Model_ofHouse 37 = .ok (.iload_n 2, 1) := by decide +kernel
theorem d_Model_ofHouse_38 : decode b_Model_ofHouse 38 = .ok (.iconst 2, 1) := by decide +kernel
theorem d_Model_ofHouse_39 : decode b_Model_ofHouse 39 = .ok (.if_icmp .ne 12, 3) := by decide +kernel
theorem d_Model_ofHouse_42 : decode b_Model_ofHouse 42 = .ok (.aload_n 0, 1) := by decide +kernel
theorem d_Model_ofHouse_43 : decode b_Model_ofHouse 43 = .ok (.getfield 25, 3) := by decide +kernel
theorem d_Model_ofHouse_46 : decode b_Model_ofHouse 46 = .ok (.iload_n 1, 1) := by decide +kernel
theorem d_Model_ofHouse_47 : decode b_Model_ofHouse 47 = .ok (.iaload, 1) := by decide +kernel
theorem d_Model_ofHouse_48 : decode b_Model_ofHouse 48 = .ok (.goto 19, 3) := by decide +kernel
theorem d_Model_ofHouse_51 : decode b_Model_ofHouse 51 = .ok (.iload_n 2, 1) := by decide +kernel
theorem d_Model_ofHouse_52 : decode b_Model_ofHouse 52 = .ok (.iconst 3, 1) := by decide +kernel
theorem d_Model_ofHouse_53 : decode b_Model_ofHouse 53 = .ok (.if_icmp .ne 12, 3) := by decide +kernel
theorem d_Model_ofHouse_56 : decode b_Model_ofHouse 56 = .ok (.aload_n 0, 1) := by decide +kernel
theorem d_Model_ofHouse_57 : decode b_Model_ofHouse 57 = .ok (.getfield 28, 3) := by decide +kernel
theorem d_Model_ofHouse_60 : decode b_Model_ofHouse 60 = .ok (.iload_n 1, 1) := by decide +kernel
theorem d_Model_ofHouse_61 : decode b_Model_ofHouse 61 = .ok (.iaload, 1) := by decide +kernel
theorem d_Model_ofHouse_62 : decode b_Model_ofHouse 62 = .ok (.goto 5, 3) := by decide +kernel
theorem d_Model_ofHouse_65 : decode b_Model_ofHouse 65 = .ok (.bipush (-2), 2) := by decide +kernel
theorem d_Model_ofHouse_67 : decode b_Model_ofHouse 67 = .ok (.ireturn, 1) := by decide +kernel
set_option maxRecDepth 20000 in
theorem c_Model_ofHouse {l : Launch} {g : GG} (hI : WI g) (a1 : Int32) (a2 : Int32) (M : Mem) (R : Int32 → Mem → Prop) (h : wp_Model_ofHouse a1 a2 M R) : Met l y_Model_ofHouse (wm y_Model_ofHouse b_Model_ofHouse 3 (some .int)) (RM 1 21) (PP g M [.ref (g.2.2.2 29), .int a1, .int a2]) (PQ g (RI R)) 0 0 (AW g) := by
  refine m_of (own := N_Model) (by decide) rfl (Nat.le_of_ble_eq_true rfl) ?_
  intro p e s m below meth c ls C hr hlocks hW hP hS hl
  obtain ⟨hx, hb, hml, hown, hts⟩ := id C
  have hl : lv_has ls 3 [(0, .ref (g.2.2.2 29)), (1, .int a1), (2, .int a2)] := hl
  unfold wp_Model_ofHouse at h
  have hk := h
  refine lv_aload_n hx hb d_Model_ofHouse_0 rfl (lv_at hl 0 rfl) ?_
  refine lv_iload_n hx hb d_Model_ofHouse_1 rfl (lv_at hl 1 rfl) ?_
  refine r_runZ (k_V (As := [.int a1]) (rest := []) C hW hP (c_Model_isHouse hI a1 M _ hk) cb_Model_isHouse ml_Model_121 (io_29 g M) ⟨by decide, by decide⟩ rfl hl.1 rfl (Nat.le_of_ble_eq_true rfl) d_Model_ofHouse_2 ⟨by decide, by decide⟩) hS (fun r2 M1 H locs zr2 hk hP hS => ?_)
  refine lv_if_ne (tgt := 10) hx hb d_Model_ofHouse_5 (by decide) (fun c3 => ?_) (fun c3 => ?_)
  · have hk := hk.1 c3
    refine lv_iload_n hx hb d_Model_ofHouse_10 rfl (lv_at hl 2 rfl) ?_
    refine lv_if_ne (tgt := 23) hx hb d_Model_ofHouse_11 (by decide) (fun c4 => ?_) (fun c4 => ?_)
    · have hk := hk.1 c4
      refine lv_iload_n hx hb d_Model_ofHouse_23 rfl (lv_at hl 2 rfl) ?_
      refine lv_iconst (v := 1) hx hb d_Model_ofHouse_24 (by decide) ?_
      refine lv_icmp_ne (tgt := 37) hx hb d_Model_ofHouse_25 (by decide) (fun c5 => ?_) (fun c5 => ?_)
      · have hk := hk.1 c5
        refine lv_iload_n hx hb d_Model_ofHouse_37 rfl (lv_at hl 2 rfl) ?_
        refine lv_iconst (v := 2) hx hb d_Model_ofHouse_38 (by decide) ?_
        refine lv_icmp_ne (tgt := 51) hx hb d_Model_ofHouse_39 (by decide) (fun c6 => ?_) (fun c6 => ?_)
        · have hk := hk.1 c6
          refine lv_iload_n hx hb d_Model_ofHouse_51 rfl (lv_at hl 2 rfl) ?_
          refine lv_iconst (v := 3) hx hb d_Model_ofHouse_52 (by decide) ?_
          refine lv_icmp_ne (tgt := 65) hx hb d_Model_ofHouse_53 (by decide) (fun c7 => ?_) (fun c7 => ?_)
          · have hk := hk.1 c7
            refine lv_bipush (v := -2) hx hb d_Model_ofHouse_65 (by decide) ?_
            exact r_iret C hr hlocks hP hS hk d_Model_ofHouse_67
          · have hk := hk.2 c7
            refine lv_aload_n hx hb d_Model_ofHouse_56 rfl (lv_at hl 0 rfl) ?_
            refine gf_29_10 C hW hP fl_Model_28 d_Model_ofHouse_57 ?_
            refine lv_iload_n hx hb d_Model_ofHouse_60 rfl (lv_at hl 1 rfl) ?_
            obtain ⟨h8, hk⟩ := hk
            refine al_36 C hW hP h8 d_Model_ofHouse_61 ?_
            refine lv_goto (tgt := 67) hx hb d_Model_ofHouse_62 (by decide) ?_
            exact r_iret C hr hlocks hP hS hk d_Model_ofHouse_67
        · have hk := hk.2 c6
          refine lv_aload_n hx hb d_Model_ofHouse_42 rfl (lv_at hl 0 rfl) ?_
          refine gf_29_9 C hW hP fl_Model_25 d_Model_ofHouse_43 ?_
          refine lv_iload_n hx hb d_Model_ofHouse_46 rfl (lv_at hl 1 rfl) ?_
          obtain ⟨h9, hk⟩ := hk
          refine al_35 C hW hP h9 d_Model_ofHouse_47 ?_
          refine lv_goto (tgt := 67) hx hb d_Model_ofHouse_48 (by decide) ?_
          exact r_iret C hr hlocks hP hS hk d_Model_ofHouse_67
      · have hk := hk.2 c5
        refine lv_aload_n hx hb d_Model_ofHouse_28 rfl (lv_at hl 0 rfl) ?_
        refine gf_29_8 C hW hP fl_Model_22 d_Model_ofHouse_29 ?_
        refine lv_iload_n hx hb d_Model_ofHouse_32 rfl (lv_at hl 1 rfl) ?_
        obtain ⟨h10, hk⟩ := hk
        refine al_34 C hW hP h10 d_Model_ofHouse_33 ?_
        refine lv_goto (tgt := 67) hx hb d_Model_ofHouse_34 (by decide) ?_
        exact r_iret C hr hlocks hP hS hk d_Model_ofHouse_67
    · have hk := hk.2 c4
      refine lv_aload_n hx hb d_Model_ofHouse_14 rfl (lv_at hl 0 rfl) ?_
      refine gf_29_7 C hW hP fl_Model_19 d_Model_ofHouse_15 ?_
      refine lv_iload_n hx hb d_Model_ofHouse_18 rfl (lv_at hl 1 rfl) ?_
      obtain ⟨h11, hk⟩ := hk
      refine al_33 C hW hP h11 d_Model_ofHouse_19 ?_
      refine lv_goto (tgt := 67) hx hb d_Model_ofHouse_20 (by decide) ?_
      exact r_iret C hr hlocks hP hS hk d_Model_ofHouse_67
  · have hk := hk.2 c3
    refine lv_iconst (v := -1) hx hb d_Model_ofHouse_8 (by decide) ?_
    exact r_iret C hr hlocks hP hS hk d_Model_ofHouse_9
theorem d_Model_isGuest_0 : decode b_Model_isGuest 0 = .ok (.iload_n 1, 1) := by decide +kernel
theorem d_Model_isGuest_1 : decode b_Model_isGuest 1 = .ok (.ifCond .lt 15, 3) := by decide +kernel
theorem d_Model_isGuest_4 : decode b_Model_isGuest 4 = .ok (.iload_n 1, 1) := by decide +kernel
theorem d_Model_isGuest_5 : decode b_Model_isGuest 5 = .ok (.aload_n 0, 1) := by decide +kernel
theorem d_Model_isGuest_6 : decode b_Model_isGuest 6 = .ok (.getfield 74, 3) := by decide +kernel
theorem d_Model_isGuest_9 : decode b_Model_isGuest 9 = .ok (.if_icmp .ge 7, 3) := by decide +kernel
theorem d_Model_isGuest_12 : decode b_Model_isGuest 12 = .ok (.iconst 1, 1) := by decide +kernel
theorem d_Model_isGuest_13 : decode b_Model_isGuest 13 = .ok (.goto 4, 3) := by decide +kernel
theorem d_Model_isGuest_16 : decode b_Model_isGuest 16 = .ok (.iconst 0, 1) := by decide +kernel
theorem d_Model_isGuest_17 : decode b_Model_isGuest 17 = .ok (.ireturn, 1) := by decide +kernel
set_option maxRecDepth 20000 in
theorem c_Model_isGuest {l : Launch} {g : GG} (hI : WI g) (a1 : Int32) (M : Mem) (R : Int32 → Mem → Prop) (h : wp_Model_isGuest a1 M R) : Met l y_Model_isGuest (wm y_Model_isGuest b_Model_isGuest 2 (some .boolean)) (RM 0 0) (PP g M [.ref (g.2.2.2 29), .int a1]) (PQ g (RZ R)) 0 0 (AW g) := by
  refine m_of (own := N_Model) (by decide) rfl (Nat.le_of_ble_eq_true rfl) ?_
  intro p e s m below meth c ls C hr hlocks hW hP hS hl
  obtain ⟨hx, hb, hml, hown, hts⟩ := id C
  have hl : lv_has ls 2 [(0, .ref (g.2.2.2 29)), (1, .int a1)] := hl
  unfold wp_Model_isGuest at h
  have hk := h
  refine lv_iload_n hx hb d_Model_isGuest_0 rfl (lv_at hl 1 rfl) ?_
  refine lv_if_lt (tgt := 16) hx hb d_Model_isGuest_1 (by decide) (fun c1 => ?_) (fun c1 => ?_)
  · have hk := hk.1 c1
    refine lv_iconst (v := 0) hx hb d_Model_isGuest_16 (by decide) ?_
    exact r_zret rfl C hr hlocks hP hS hk d_Model_isGuest_17
  · have hk := hk.2 c1
    refine lv_iload_n hx hb d_Model_isGuest_4 rfl (lv_at hl 1 rfl) ?_
    refine lv_aload_n hx hb d_Model_isGuest_5 rfl (lv_at hl 0 rfl) ?_
    refine gf_29_6 C hW hP fl_Model_74 d_Model_isGuest_6 ?_
    refine lv_icmp_ge (tgt := 16) hx hb d_Model_isGuest_9 (by decide) (fun c2 => ?_) (fun c2 => ?_)
    · have hk := hk.1 c2
      refine lv_iconst (v := 0) hx hb d_Model_isGuest_16 (by decide) ?_
      exact r_zret rfl C hr hlocks hP hS hk d_Model_isGuest_17
    · have hk := hk.2 c2
      refine lv_iconst (v := 1) hx hb d_Model_isGuest_12 (by decide) ?_
      refine lv_goto (tgt := 17) hx hb d_Model_isGuest_13 (by decide) ?_
      exact r_zret rfl C hr hlocks hP hS hk d_Model_isGuest_17
theorem d_Model_gear_0 : decode b_Model_gear 0 = .ok (.aload_n 0, 1) := by decide +kernel
theorem d_Model_gear_1 : decode b_Model_gear 1 = .ok (.iload_n 1, 1) := by decide +kernel
theorem d_Model_gear_2 : decode b_Model_gear 2 = .ok (.invokevirtual 124, 3) := by decide +kernel
theorem d_Model_gear_5 : decode b_Model_gear 5 = .ok (.ifCond .eq 12, 3) := by decide +kernel
theorem d_Model_gear_8 : decode b_Model_gear 8 = .ok (.aload_n 0, 1) := by decide +kernel
theorem d_Model_gear_9 : decode b_Model_gear 9 = .ok (.getfield 31, 3) := by decide +kernel
theorem d_Model_gear_12 : decode b_Model_gear 12 = .ok (.iload_n 1, 1) := by decide +kernel
theorem d_Model_gear_13 : decode b_Model_gear 13 = .ok (.iaload, 1) := by decide +kernel
theorem d_Model_gear_14 : decode b_Model_gear 14 = .ok (.goto 4, 3) := by decide +kernel
theorem d_Model_gear_17 : decode b_Model_gear 17 = .ok (.iconst (-1), 1) := by decide +kernel
theorem d_Model_gear_18 : decode b_Model_gear 18 = .ok (.ireturn, 1) := by decide +kernel
set_option maxRecDepth 20000 in
theorem c_Model_gear {l : Launch} {g : GG} (hI : WI g) (a1 : Int32) (M : Mem) (R : Int32 → Mem → Prop) (h : wp_Model_gear a1 M R) : Met l y_Model_gear (wm y_Model_gear b_Model_gear 2 (some .int)) (RM 1 21) (PP g M [.ref (g.2.2.2 29), .int a1]) (PQ g (RI R)) 0 0 (AW g) := by
  refine m_of (own := N_Model) (by decide) rfl (Nat.le_of_ble_eq_true rfl) ?_
  intro p e s m below meth c ls C hr hlocks hW hP hS hl
  obtain ⟨hx, hb, hml, hown, hts⟩ := id C
  have hl : lv_has ls 2 [(0, .ref (g.2.2.2 29)), (1, .int a1)] := hl
  unfold wp_Model_gear at h
  have hk := h
  refine lv_aload_n hx hb d_Model_gear_0 rfl (lv_at hl 0 rfl) ?_
  refine lv_iload_n hx hb d_Model_gear_1 rfl (lv_at hl 1 rfl) ?_
  refine r_runZ (k_V (As := [.int a1]) (rest := []) C hW hP (c_Model_isGuest hI a1 M _ hk) cb_Model_isGuest ml_Model_124 (io_29 g M) ⟨by decide, by decide⟩ rfl hl.1 rfl (Nat.le_of_ble_eq_true rfl) d_Model_gear_2 ⟨by decide, by decide⟩) hS (fun r2 M1 H locs zr2 hk hP hS => ?_)
  refine lv_if_eq (tgt := 17) hx hb d_Model_gear_5 (by decide) (fun c3 => ?_) (fun c3 => ?_)
  · have hk := hk.1 c3
    refine lv_iconst (v := -1) hx hb d_Model_gear_17 (by decide) ?_
    exact r_iret C hr hlocks hP hS hk d_Model_gear_18
  · have hk := hk.2 c3
    refine lv_aload_n hx hb d_Model_gear_8 rfl (lv_at hl 0 rfl) ?_
    refine gf_29_11 C hW hP fl_Model_31 d_Model_gear_9 ?_
    refine lv_iload_n hx hb d_Model_gear_12 rfl (lv_at hl 1 rfl) ?_
    obtain ⟨h4, hk⟩ := hk
    refine al_37 C hW hP h4 d_Model_gear_13 ?_
    refine lv_goto (tgt := 18) hx hb d_Model_gear_14 (by decide) ?_
    exact r_iret C hr hlocks hP hS hk d_Model_gear_18
theorem d_Model_isSet_0 : decode b_Model_isSet 0 = .ok (.iload_n 0, 1) := by decide +kernel
theorem d_Model_isSet_1 : decode b_Model_isSet 1 = .ok (.iconst 0, 1) := by decide +kernel
theorem d_Model_isSet_2 : decode b_Model_isSet 2 = .ok (.bipush 63, 2) := by decide +kernel
theorem d_Model_isSet_4 : decode b_Model_isSet 4 = .ok (.invokestatic 67, 3) := by decide +kernel
theorem d_Model_isSet_7 : decode b_Model_isSet 7 = .ok (.ireturn, 1) := by decide +kernel
set_option maxRecDepth 20000 in
theorem c_Model_isSet {l : Launch} {g : GG} (hI : WI g) (a0 : Int32) (M : Mem) (R : Int32 → Mem → Prop) (h : wp_Model_isSet a0 M R) : Met l y_Model_isSet (wm y_Model_isSet b_Model_isSet 1 (some .boolean)) (RM 1 22) (PP g M [.int a0]) (PQ g (RZ R)) 0 0 (AW g) := by
  refine m_of (own := N_Model) (by decide) rfl (Nat.le_of_ble_eq_true rfl) ?_
  intro p e s m below meth c ls C hr hlocks hW hP hS hl
  obtain ⟨hx, hb, hml, hown, hts⟩ := id C
  have hl : lv_has ls 1 [(0, .int a0)] := hl
  unfold wp_Model_isSet at h
  have hk := h
  refine lv_iload_n hx hb d_Model_isSet_0 rfl (lv_at hl 0 rfl) ?_
  refine lv_iconst (v := 0) hx hb d_Model_isSet_1 (by decide) ?_
  refine lv_bipush (v := 63) hx hb d_Model_isSet_2 (by decide) ?_
  refine r_runZ (k_S (As := [.int a0, .int (0 : Int32), .int (63 : Int32)]) (rest := []) C hW hP (c_Model_within hI a0 (0 : Int32) (63 : Int32) M _ hk) cb_Model_within ml_Model_67 ⟨by decide, by decide⟩ rfl hl.1 rfl (Nat.le_of_ble_eq_true rfl) d_Model_isSet_4 ⟨by decide, by decide⟩) hS (fun r2 M1 H locs zr2 hk hP hS => ?_)
  exact r_zret zr2 C hr hlocks hP hS hk d_Model_isSet_7
theorem d_Model_give_0 : decode b_Model_give 0 = .ok (.aload_n 0, 1) := by decide +kernel
theorem d_Model_give_1 : decode b_Model_give 1 = .ok (.iload_n 1, 1) := by decide +kernel
theorem d_Model_give_2 : decode b_Model_give 2 = .ok (.invokevirtual 124, 3) := by decide +kernel
theorem d_Model_give_5 : decode b_Model_give 5 = .ok (.ifCond .ne 5, 3) := by decide +kernel
theorem d_Model_give_8 : decode b_Model_give 8 = .ok (.iconst (-1), 1) := by decide +kernel
theorem d_Model_give_9 : decode b_Model_give 9 = .ok (.ireturn, 1) := by decide +kernel
theorem d_Model_give_10 : decode b_Model_give 10 = .ok (.iload_n 2, 1) := by decide +kernel
theorem d_Model_give_11 : decode b_Model_give 11 = .ok (.invokestatic 127, 3) := by decide +kernel
theorem d_Model_give_14 : decode b_Model_give 14 = .ok (.ifCond .ne 6, 3) := by decide +kernel
theorem d_Model_give_17 : decode b_Model_give 17 = .ok (.bipush (-2), 2) := by decide +kernel
theorem d_Model_give_19 : decode b_Model_give 19 = .ok (.ireturn, 1) := by decide +kernel
theorem d_Model_give_20 : decode b_Model_give 20 = .ok (.aload_n 0, 1) := by decide +kernel
theorem d_Model_give_21 : decode b_Model_give 21 = .ok (.getfield 31, 3) := by decide +kernel
theorem d_Model_give_24 : decode b_Model_give 24 = .ok (.iload_n 1, 1) := by decide +kernel
theorem d_Model_give_25 : decode b_Model_give 25 = .ok (.iaload, 1) := by decide +kernel
theorem d_Model_give_26 : decode b_Model_give 26 = .ok (.istore_n 3, 1) := by decide +kernel
theorem d_Model_give_27 : decode b_Model_give 27 = .ok (.aload_n 0, 1) := by decide +kernel
theorem d_Model_give_28 : decode b_Model_give 28 = .ok (.getfield 31, 3) := by decide +kernel
theorem d_Model_give_31 : decode b_Model_give 31 = .ok (.iload_n 1, 1) := by decide +kernel
theorem d_Model_give_32 : decode b_Model_give 32 = .ok (.iload_n 2, 1) := by decide +kernel
theorem d_Model_give_33 : decode b_Model_give 33 = .ok (.iastore, 1) := by decide +kernel
theorem d_Model_give_34 : decode b_Model_give 34 = .ok (.iload_n 3, 1) := by decide +kernel
theorem d_Model_give_35 : decode b_Model_give 35 = .ok (.ireturn, 1) := by decide +kernel
set_option maxRecDepth 20000 in
theorem c_Model_give {l : Launch} {g : GG} (hI : WI g) (a1 : Int32) (a2 : Int32) (M : Mem) (R : Int32 → Mem → Prop) (h : wp_Model_give a1 a2 M R) : Met l y_Model_give (wm y_Model_give b_Model_give 4 (some .int)) (RM 2 42) (PP g M [.ref (g.2.2.2 29), .int a1, .int a2]) (PQ g (RI R)) 0 0 (AW g) := by
  refine m_of (own := N_Model) (by decide) rfl (Nat.le_of_ble_eq_true rfl) ?_
  intro p e s m below meth c ls C hr hlocks hW hP hS hl
  obtain ⟨hx, hb, hml, hown, hts⟩ := id C
  have hl : lv_has ls 4 [(0, .ref (g.2.2.2 29)), (1, .int a1), (2, .int a2)] := hl
  unfold wp_Model_give at h
  have hk := h
  refine lv_aload_n hx hb d_Model_give_0 rfl (lv_at hl 0 rfl) ?_
  refine lv_iload_n hx hb d_Model_give_1 rfl (lv_at hl 1 rfl) ?_
  refine r_runZ (k_V (As := [.int a1]) (rest := []) C hW hP (c_Model_isGuest hI a1 M _ hk) cb_Model_isGuest ml_Model_124 (io_29 g M) ⟨by decide, by decide⟩ rfl hl.1 rfl (Nat.le_of_ble_eq_true rfl) d_Model_give_2 ⟨by decide, by decide⟩) hS (fun r2 M1 H locs zr2 hk hP hS => ?_)
  refine lv_if_ne (tgt := 10) hx hb d_Model_give_5 (by decide) (fun c3 => ?_) (fun c3 => ?_)
  · have hk := hk.1 c3
    refine lv_iload_n hx hb d_Model_give_10 rfl (lv_at hl 2 rfl) ?_
    refine r_runZ (k_S (As := [.int a2]) (rest := []) C hW hP (c_Model_isSet hI a2 M1 _ hk) cb_Model_isSet ml_Model_127 ⟨by decide, by decide⟩ rfl hl.1 rfl (Nat.le_of_ble_eq_true rfl) d_Model_give_11 ⟨by decide, by decide⟩) hS (fun r5 M4 H locs zr5 hk hP hS => ?_)
    refine lv_if_ne (tgt := 20) hx hb d_Model_give_14 (by decide) (fun c6 => ?_) (fun c6 => ?_)
    · have hk := hk.1 c6
      refine lv_aload_n hx hb d_Model_give_20 rfl (lv_at hl 0 rfl) ?_
      refine gf_29_11 C hW hP fl_Model_31 d_Model_give_21 ?_
      refine lv_iload_n hx hb d_Model_give_24 rfl (lv_at hl 1 rfl) ?_
      obtain ⟨h7, hk⟩ := hk
      refine al_37 C hW hP h7 d_Model_give_25 ?_
      refine lv_topi (fun x3_8 ex3_8 => ?_)
      have hk := hk x3_8 ex3_8
      refine lv_istore_n (lv' := [(3, .int x3_8), (0, .ref (g.2.2.2 29)), (1, .int a1), (2, .int a2)]) hx hb d_Model_give_26 rfl hl (by decide) rfl (fun ls hl => ?_)
      refine lv_aload_n hx hb d_Model_give_27 rfl (lv_at hl 1 rfl) ?_
      refine gf_29_11 C hW hP fl_Model_31 d_Model_give_28 ?_
      refine lv_iload_n hx hb d_Model_give_31 rfl (lv_at hl 2 rfl) ?_
      refine lv_iload_n hx hb d_Model_give_32 rfl (lv_at hl 3 rfl) ?_
      obtain ⟨h9, hk⟩ := hk
      refine as_37 hI C hW hP hS h9 d_Model_give_33 (fun M10 eM10 H locs hP hS => ?_)
      have hk := hk M10 eM10
      refine lv_iload_n hx hb d_Model_give_34 rfl (lv_at hl 0 rfl) ?_
      exact r_iret C hr hlocks hP hS hk d_Model_give_35
    · have hk := hk.2 c6
      refine lv_bipush (v := -2) hx hb d_Model_give_17 (by decide) ?_
      exact r_iret C hr hlocks hP hS hk d_Model_give_19
  · have hk := hk.2 c3
    refine lv_iconst (v := -1) hx hb d_Model_give_8 (by decide) ?_
    exact r_iret C hr hlocks hP hS hk d_Model_give_9
theorem d_Model_bar_0 : decode b_Model_bar 0 = .ok (.aload_n 0, 1) := by decide +kernel
theorem d_Model_bar_1 : decode b_Model_bar 1 = .ok (.iload_n 1, 1) := by decide +kernel
theorem d_Model_bar_2 : decode b_Model_bar 2 = .ok (.invokevirtual 121, 3) := by decide +kernel
theorem d_Model_bar_5 : decode b_Model_bar 5 = .ok (.ifCond .ne 5, 3) := by decide +kernel
theorem d_Model_bar_8 : decode b_Model_bar 8 = .ok (.iconst (-1), 1) := by decide +kernel
theorem d_Model_bar_9 : decode b_Model_bar 9 = .ok (.ireturn, 1) := by decide +kernel
theorem d_Model_bar_10 : decode b_Model_bar 10 = .ok (.iload_n 2, 1) := by decide +kernel
theorem d_Model_bar_11 : decode b_Model_bar 11 = .ok (.iconst 0, 1) := by decide +kernel
theorem d_Model_bar_12 : decode b_Model_bar 12 = .ok (.bipush 6, 2) := by decide +kernel
theorem d_Model_bar_14 : decode b_Model_bar 14 = .ok (.invokestatic 67, 3) := by decide +kernel
theorem d_Model_bar_17 : decode b_Model_bar 17 = .ok (.ifCond .ne 6, 3) := by decide +kernel
theorem d_Model_bar_20 : decode b_Model_bar 20 = .ok (.bipush (-2), 2) := by decide +kernel
theorem d_Model_bar_22 : decode b_Model_bar 22 = .ok (.ireturn, 1) := by decide +kernel
theorem d_Model_bar_23 : decode b_Model_bar 23 = .ok (.aload_n 0, 1) := by decide +kernel
theorem d_Model_bar_24 : decode b_Model_bar 24 = .ok (.getfield 28, 3) := by decide +kernel
theorem d_Model_bar_27 : decode b_Model_bar 27 = .ok (.iload_n 1, 1) := by decide +kernel
theorem d_Model_bar_28 : decode b_Model_bar 28 = .ok (.iaload, 1) := by decide +kernel
theorem d_Model_bar_29 : decode b_Model_bar 29 = .ok (.istore_n 3, 1) := by decide +kernel
theorem d_Model_bar_30 : decode b_Model_bar 30 = .ok (.aload_n 0, 1) := by decide +kernel
theorem d_Model_bar_31 : decode b_Model_bar 31 = .ok (.getfield 28, 3) := by decide +kernel
theorem d_Model_bar_34 : decode b_Model_bar 34 = .ok (.iload_n 1, 1) := by decide +kernel
theorem d_Model_bar_35 : decode b_Model_bar 35 = .ok (.iload_n 2, 1) := by decide +kernel
theorem d_Model_bar_36 : decode b_Model_bar 36 = .ok (.iastore, 1) := by decide +kernel
theorem d_Model_bar_37 : decode b_Model_bar 37 = .ok (.iload_n 3, 1) := by decide +kernel
theorem d_Model_bar_38 : decode b_Model_bar 38 = .ok (.ireturn, 1) := by decide +kernel
set_option maxRecDepth 20000 in
theorem c_Model_bar {l : Launch} {g : GG} (hI : WI g) (a1 : Int32) (a2 : Int32) (M : Mem) (R : Int32 → Mem → Prop) (h : wp_Model_bar a1 a2 M R) : Met l y_Model_bar (wm y_Model_bar b_Model_bar 4 (some .int)) (RM 1 22) (PP g M [.ref (g.2.2.2 29), .int a1, .int a2]) (PQ g (RI R)) 0 0 (AW g) := by
  refine m_of (own := N_Model) (by decide) rfl (Nat.le_of_ble_eq_true rfl) ?_
  intro p e s m below meth c ls C hr hlocks hW hP hS hl
  obtain ⟨hx, hb, hml, hown, hts⟩ := id C
  have hl : lv_has ls 4 [(0, .ref (g.2.2.2 29)), (1, .int a1), (2, .int a2)] := hl
  unfold wp_Model_bar at h
  have hk := h
  refine lv_aload_n hx hb d_Model_bar_0 rfl (lv_at hl 0 rfl) ?_
  refine lv_iload_n hx hb d_Model_bar_1 rfl (lv_at hl 1 rfl) ?_
  refine r_runZ (k_V (As := [.int a1]) (rest := []) C hW hP (c_Model_isHouse hI a1 M _ hk) cb_Model_isHouse ml_Model_121 (io_29 g M) ⟨by decide, by decide⟩ rfl hl.1 rfl (Nat.le_of_ble_eq_true rfl) d_Model_bar_2 ⟨by decide, by decide⟩) hS (fun r2 M1 H locs zr2 hk hP hS => ?_)
  refine lv_if_ne (tgt := 10) hx hb d_Model_bar_5 (by decide) (fun c3 => ?_) (fun c3 => ?_)
  · have hk := hk.1 c3
    refine lv_iload_n hx hb d_Model_bar_10 rfl (lv_at hl 2 rfl) ?_
    refine lv_iconst (v := 0) hx hb d_Model_bar_11 (by decide) ?_
    refine lv_bipush (v := 6) hx hb d_Model_bar_12 (by decide) ?_
    refine r_runZ (k_S (As := [.int a2, .int (0 : Int32), .int (6 : Int32)]) (rest := []) C hW hP (c_Model_within hI a2 (0 : Int32) (6 : Int32) M1 _ hk) cb_Model_within ml_Model_67 ⟨by decide, by decide⟩ rfl hl.1 rfl (Nat.le_of_ble_eq_true rfl) d_Model_bar_14 ⟨by decide, by decide⟩) hS (fun r5 M4 H locs zr5 hk hP hS => ?_)
    refine lv_if_ne (tgt := 23) hx hb d_Model_bar_17 (by decide) (fun c6 => ?_) (fun c6 => ?_)
    · have hk := hk.1 c6
      refine lv_aload_n hx hb d_Model_bar_23 rfl (lv_at hl 0 rfl) ?_
      refine gf_29_10 C hW hP fl_Model_28 d_Model_bar_24 ?_
      refine lv_iload_n hx hb d_Model_bar_27 rfl (lv_at hl 1 rfl) ?_
      obtain ⟨h7, hk⟩ := hk
      refine al_36 C hW hP h7 d_Model_bar_28 ?_
      refine lv_topi (fun x3_8 ex3_8 => ?_)
      have hk := hk x3_8 ex3_8
      refine lv_istore_n (lv' := [(3, .int x3_8), (0, .ref (g.2.2.2 29)), (1, .int a1), (2, .int a2)]) hx hb d_Model_bar_29 rfl hl (by decide) rfl (fun ls hl => ?_)
      refine lv_aload_n hx hb d_Model_bar_30 rfl (lv_at hl 1 rfl) ?_
      refine gf_29_10 C hW hP fl_Model_28 d_Model_bar_31 ?_
      refine lv_iload_n hx hb d_Model_bar_34 rfl (lv_at hl 2 rfl) ?_
      refine lv_iload_n hx hb d_Model_bar_35 rfl (lv_at hl 3 rfl) ?_
      obtain ⟨h9, hk⟩ := hk
      refine as_36 hI C hW hP hS h9 d_Model_bar_36 (fun M10 eM10 H locs hP hS => ?_)
      have hk := hk M10 eM10
      refine lv_iload_n hx hb d_Model_bar_37 rfl (lv_at hl 0 rfl) ?_
      exact r_iret C hr hlocks hP hS hk d_Model_bar_38
    · have hk := hk.2 c6
      refine lv_bipush (v := -2) hx hb d_Model_bar_20 (by decide) ?_
      exact r_iret C hr hlocks hP hS hk d_Model_bar_22
  · have hk := hk.2 c3
    refine lv_iconst (v := -1) hx hb d_Model_bar_8 (by decide) ?_
    exact r_iret C hr hlocks hP hS hk d_Model_bar_9
theorem d_Model_used_0 : decode b_Model_used 0 = .ok (.iload_n 2, 1) := by decide +kernel
theorem d_Model_used_1 : decode b_Model_used 1 = .ok (.iload_n 3, 1) := by decide +kernel
theorem d_Model_used_2 : decode b_Model_used 2 = .ok (.iconst (-1), 1) := by decide +kernel
theorem d_Model_used_3 : decode b_Model_used 3 = .ok (.ixor, 1) := by decide +kernel
theorem d_Model_used_4 : decode b_Model_used 4 = .ok (.iand, 1) := by decide +kernel
theorem d_Model_used_5 : decode b_Model_used 5 = .ok (.iconst 1, 1) := by decide +kernel
theorem d_Model_used_6 : decode b_Model_used 6 = .ok (.aload_n 0, 1) := by decide +kernel
theorem d_Model_used_7 : decode b_Model_used 7 = .ok (.getfield 28, 3) := by decide +kernel
theorem d_Model_used_10 : decode b_Model_used 10 = .ok (.iload_n 1, 1) := by decide +kernel
theorem d_Model_used_11 : decode b_Model_used 11 = .ok (.iaload, 1) := by decide +kernel
theorem d_Model_used_12 : decode b_Model_used 12 = .ok (.ishl, 1) := by decide +kernel
theorem d_Model_used_13 : decode b_Model_used 13 = .ok (.iconst (-1), 1) := by decide +kernel
theorem d_Model_used_14 : decode b_Model_used 14 = .ok (.ixor, 1) := by decide +kernel
theorem d_Model_used_15 : decode b_Model_used 15 = .ok (.iand, 1) := by decide +kernel
theorem d_Model_used_16 : decode b_Model_used 16 = .ok (.iconst 1, 1) := by decide +kernel
theorem d_Model_used_17 : decode b_Model_used 17 = .ok (.aload_n 0, 1) := by decide +kernel
theorem d_Model_used_18 : decode b_Model_used 18 = .ok (.getfield 34, 3) := by decide +kernel
theorem d_Model_used_21 : decode b_Model_used 21 = .ok (.ishl, 1) := by decide +kernel
theorem d_Model_used_22 : decode b_Model_used 22 = .ok (.iconst (-1), 1) := by decide +kernel
theorem d_Model_used_23 : decode b_Model_used 23 = .ok (.ixor, 1) := by decide +kernel
theorem d_Model_used_24 : decode b_Model_used 24 = .ok (.iand, 1) := by decide +kernel
theorem d_Model_used_25 : decode b_Model_used 25 = .ok (.istore 4, 2) := by decide +kernel
theorem d_Model_used_27 : decode b_Model_used 27 = .ok (.iload 4, 2) := by decide +kernel
theorem d_Model_used_29 : decode b_Model_used 29 = .ok (.iconst 1, 1) := by decide +kernel
theorem d_Model_used_30 : decode b_Model_used 30 = .ok (.aload_n 0, 1) := by decide +kernel
theorem d_Model_used_31 : decode b_Model_used 31 = .ok (.getfield 22, 3) := by decide +kernel
theorem d_Model_used_34 : decode b_Model_used 34 = .ok (.iload_n 1, 1) := by decide +kernel
theorem d_Model_used_35 : decode b_Model_used 35 = .ok (.iaload, 1) := by decide +kernel
theorem d_Model_used_36 : decode b_Model_used 36 = .ok (.ishl, 1) := by decide +kernel
theorem d_Model_used_37 : decode b_Model_used 37 = .ok (.iand, 1) := by decide +kernel
theorem d_Model_used_38 : decode b_Model_used 38 = .ok (.istore 5, 2) := by decide +kernel
theorem d_Model_used_40 : decode b_Model_used 40 = .ok (.iload 4, 2) := by decide +kernel
theorem d_Model_used_42 : decode b_Model_used 42 = .ok (.iconst 1, 1) := by decide +kernel
theorem d_Model_used_43 : decode b_Model_used 43 = .ok (.aload_n 0, 1) := by decide +kernel
theorem d_Model_used_44 : decode b_Model_used 44 = .ok (.getfield 25, 3) := by decide +kernel
theorem d_Model_used_47 : decode b_Model_used 47 = .ok (.iload_n 1, 1) := by decide +kernel
theorem d_Model_used_48 : decode b_Model_used 48 = .ok (.iaload, 1) := by decide +kernel
theorem d_Model_used_49 : decode b_Model_used 49 = .ok (.ishl, 1) := by decide +kernel
theorem d_Model_used_50 : decode b_Model_used 50 = .ok (.iand, 1) := by decide +kernel
theorem d_Model_used_51 : decode b_Model_used 51 = .ok (.istore 6, 2) := by decide +kernel
theorem d_Model_used_53 : decode b_Model_used 53 = .ok (.aload_n 0, 1) := by decide +kernel
theorem d_Model_used_54 : decode b_Model_used 54 = .ok (.getfield 19, 3) := by decide +kernel
theorem d_Model_used_57 : decode b_Model_used 57 = .ok (.iload_n 1, 1) := by decide +kernel
theorem d_Model_used_58 : decode b_Model_used 58 = .ok (.iaload, 1) := by decide +kernel
theorem d_Model_used_59 : decode b_Model_used 59 = .ok (.iconst 1, 1) := by decide +kernel
theorem d_Model_used_60 : decode b_Model_used 60 = .ok (.if_icmp .ne 24, 3) := by decide +kernel
theorem d_Model_used_63 : decode b_Model_used 63 = .ok (.iload 5, 2) := by decide +kernel
theorem d_Model_used_65 : decode b_Model_used 65 = .ok (.ifCond .eq 16, 3) := by decide +kernel
theorem d_Model_used_68 : decode b_Model_used 68 = .ok (.iload 6, 2) := by decide +kernel
theorem d_Model_used_70 : decode b_Model_used 70 = .ok (.ifCond .eq 11, 3) := by decide +kernel
theorem d_Model_used_73 : decode b_Model_used 73 = .ok (.iload 5, 2) := by decide +kernel
theorem d_Model_used_75 : decode b_Model_used 75 = .ok (.iload 6, 2) := by decide +kernel
theorem d_Model_used_77 : decode b_Model_used 77 = .ok (.ior, 1) := by decide +kernel
theorem d_Model_used_78 : decode b_Model_used 78 = .ok (.goto 5, 3) := by decide +kernel
theorem d_Model_used_81 : decode b_Model_used 81 = .ok (.bipush (-9), 2) := by decide +kernel
theorem d_Model_used_83 : decode b_Model_used 83 = .ok (.ireturn, 1) := by decide +kernel
theorem d_Model_used_84 : decode b_Model_used 84 = .ok (.iload 5, 2) := by decide +kernel
theorem d_Model_used_86 : decode b_Model_used 86 = .ok (.ifCond .eq 8, 3) := by decide +kernel
theorem d_Model_used_89 : decode b_Model_used 89 = .ok (.iload 5, 2) := by decide +kernel
theorem d_Model_used_91 : decode b_Model_used 91 = .ok (.goto 15, 3) := by decide +kernel
theorem d_Model_used_94 : decode b_Model_used 94 = .ok (.iload 6, 2) := by decide +kernel
theorem d_Model_used_96 : decode b_Model_used 96 = .ok (.ifCond .eq 8, 3) := by decide +kernel
theorem d_Model_used_99 : decode b_Model_used 99 = .ok (.iload 6, 2) := by decide +kernel
theorem d_Model_used_101 : decode b_Model_used 101 = .ok (.goto 5, 3) := by decide +kernel
theorem d_Model_used_104 : decode b_Model_used 104 = .ok (.bipush (-9), 2) := by decide +kernel
theorem d_Model_used_106 : decode b_Model_used 106 = .ok (.ireturn, 1) := by decide +kernel
set_option maxRecDepth 20000 in
theorem c_Model_used {l : Launch} {g : GG} (hI : WI g) (a1 : Int32) (a2 : Int32) (a3 : Int32) (M : Mem) (R : Int32 → Mem → Prop) (h : wp_Model_used a1 a2 a3 M R) : Met l y_Model_used (wm y_Model_used b_Model_used 7 (some .int)) (RM 0 0) (PP g M [.ref (g.2.2.2 29), .int a1, .int a2, .int a3]) (PQ g (RI R)) 0 0 (AW g) := by
  refine m_of (own := N_Model) (by decide) rfl (Nat.le_of_ble_eq_true rfl) ?_
  intro p e s m below meth c ls C hr hlocks hW hP hS hl
  obtain ⟨hx, hb, hml, hown, hts⟩ := id C
  have hl : lv_has ls 7 [(0, .ref (g.2.2.2 29)), (1, .int a1), (2, .int a2), (3, .int a3)] := hl
  unfold wp_Model_used at h
  have hk := h
  refine lv_iload_n hx hb d_Model_used_0 rfl (lv_at hl 2 rfl) ?_
  refine lv_iload_n hx hb d_Model_used_1 rfl (lv_at hl 3 rfl) ?_
  refine lv_iconst (v := -1) hx hb d_Model_used_2 (by decide) ?_
  refine lv_ixor hx hb d_Model_used_3 ?_
  refine lv_iand hx hb d_Model_used_4 ?_
  refine lv_iconst (v := 1) hx hb d_Model_used_5 (by decide) ?_
  refine lv_aload_n hx hb d_Model_used_6 rfl (lv_at hl 0 rfl) ?_
  refine gf_29_10 C hW hP fl_Model_28 d_Model_used_7 ?_
  refine lv_iload_n hx hb d_Model_used_10 rfl (lv_at hl 1 rfl) ?_
  obtain ⟨h1, hk⟩ := hk
  refine al_36 C hW hP h1 d_Model_used_11 ?_
  refine lv_ishl hx hb d_Model_used_12 ?_
  refine lv_iconst (v := -1) hx hb d_Model_used_13 (by decide) ?_
  refine lv_ixor hx hb d_Model_used_14 ?_
  refine lv_iand hx hb d_Model_used_15 ?_
  refine lv_iconst (v := 1) hx hb d_Model_used_16 (by decide) ?_
  refine lv_aload_n hx hb d_Model_used_17 rfl (lv_at hl 0 rfl) ?_
  refine gf_29_12 C hW hP fl_Model_34 d_Model_used_18 ?_
  refine lv_ishl hx hb d_Model_used_21 ?_
  refine lv_iconst (v := -1) hx hb d_Model_used_22 (by decide) ?_
  refine lv_ixor hx hb d_Model_used_23 ?_
  refine lv_iand hx hb d_Model_used_24 ?_
  refine lv_topi (fun x4_2 ex4_2 => ?_)
  have hk := hk x4_2 ex4_2
  refine lv_istore (lv' := [(4, .int x4_2), (0, .ref (g.2.2.2 29)), (1, .int a1), (2, .int a2), (3, .int a3)]) hx hb d_Model_used_25 hl (by decide) rfl (fun ls hl => ?_)
  refine lv_iload hx hb d_Model_used_27 (lv_at hl 0 rfl) ?_
  refine lv_iconst (v := 1) hx hb d_Model_used_29 (by decide) ?_
  refine lv_aload_n hx hb d_Model_used_30 rfl (lv_at hl 1 rfl) ?_
  refine gf_29_8 C hW hP fl_Model_22 d_Model_used_31 ?_
  refine lv_iload_n hx hb d_Model_used_34 rfl (lv_at hl 2 rfl) ?_
  obtain ⟨h3, hk⟩ := hk
  refine al_34 C hW hP h3 d_Model_used_35 ?_
  refine lv_ishl hx hb d_Model_used_36 ?_
  refine lv_iand hx hb d_Model_used_37 ?_
  refine lv_topi (fun x5_4 ex5_4 => ?_)
  have hk := hk x5_4 ex5_4
  refine lv_istore (lv' := [(5, .int x5_4), (4, .int x4_2), (0, .ref (g.2.2.2 29)), (1, .int a1), (2, .int a2), (3, .int a3)]) hx hb d_Model_used_38 hl (by decide) rfl (fun ls hl => ?_)
  refine lv_iload hx hb d_Model_used_40 (lv_at hl 1 rfl) ?_
  refine lv_iconst (v := 1) hx hb d_Model_used_42 (by decide) ?_
  refine lv_aload_n hx hb d_Model_used_43 rfl (lv_at hl 2 rfl) ?_
  refine gf_29_9 C hW hP fl_Model_25 d_Model_used_44 ?_
  refine lv_iload_n hx hb d_Model_used_47 rfl (lv_at hl 3 rfl) ?_
  obtain ⟨h5, hk⟩ := hk
  refine al_35 C hW hP h5 d_Model_used_48 ?_
  refine lv_ishl hx hb d_Model_used_49 ?_
  refine lv_iand hx hb d_Model_used_50 ?_
  refine lv_topi (fun x6_6 ex6_6 => ?_)
  have hk := hk x6_6 ex6_6
  refine lv_istore (lv' := [(6, .int x6_6), (5, .int x5_4), (4, .int x4_2), (0, .ref (g.2.2.2 29)), (1, .int a1), (2, .int a2), (3, .int a3)]) hx hb d_Model_used_51 hl (by decide) rfl (fun ls hl => ?_)
  refine lv_aload_n hx hb d_Model_used_53 rfl (lv_at hl 3 rfl) ?_
  refine gf_29_7 C hW hP fl_Model_19 d_Model_used_54 ?_
  refine lv_iload_n hx hb d_Model_used_57 rfl (lv_at hl 4 rfl) ?_
  obtain ⟨h7, hk⟩ := hk
  refine al_33 C hW hP h7 d_Model_used_58 ?_
  refine lv_iconst (v := 1) hx hb d_Model_used_59 (by decide) ?_
  refine lv_icmp_ne (tgt := 84) hx hb d_Model_used_60 (by decide) (fun c8 => ?_) (fun c8 => ?_)
  · have hk := hk.1 c8
    refine lv_iload hx hb d_Model_used_84 (lv_at hl 1 rfl) ?_
    refine lv_if_eq (tgt := 94) hx hb d_Model_used_86 (by decide) (fun c9 => ?_) (fun c9 => ?_)
    · have hk := hk.1 c9
      refine lv_iload hx hb d_Model_used_94 (lv_at hl 0 rfl) ?_
      refine lv_if_eq (tgt := 104) hx hb d_Model_used_96 (by decide) (fun c10 => ?_) (fun c10 => ?_)
      · have hk := hk.1 c10
        refine lv_bipush (v := -9) hx hb d_Model_used_104 (by decide) ?_
        exact r_iret C hr hlocks hP hS hk d_Model_used_106
      · have hk := hk.2 c10
        refine lv_iload hx hb d_Model_used_99 (lv_at hl 0 rfl) ?_
        refine lv_goto (tgt := 106) hx hb d_Model_used_101 (by decide) ?_
        exact r_iret C hr hlocks hP hS hk d_Model_used_106
    · have hk := hk.2 c9
      refine lv_iload hx hb d_Model_used_89 (lv_at hl 1 rfl) ?_
      refine lv_goto (tgt := 106) hx hb d_Model_used_91 (by decide) ?_
      exact r_iret C hr hlocks hP hS hk d_Model_used_106
  · have hk := hk.2 c8
    refine lv_iload hx hb d_Model_used_63 (lv_at hl 1 rfl) ?_
    refine lv_if_eq (tgt := 81) hx hb d_Model_used_65 (by decide) (fun c11 => ?_) (fun c11 => ?_)
    · have hk := hk.1 c11
      refine lv_bipush (v := -9) hx hb d_Model_used_81 (by decide) ?_
      exact r_iret C hr hlocks hP hS hk d_Model_used_83
    · have hk := hk.2 c11
      refine lv_iload hx hb d_Model_used_68 (lv_at hl 0 rfl) ?_
      refine lv_if_eq (tgt := 81) hx hb d_Model_used_70 (by decide) (fun c12 => ?_) (fun c12 => ?_)
      · have hk := hk.1 c12
        refine lv_bipush (v := -9) hx hb d_Model_used_81 (by decide) ?_
        exact r_iret C hr hlocks hP hS hk d_Model_used_83
      · have hk := hk.2 c12
        refine lv_iload hx hb d_Model_used_73 (lv_at hl 1 rfl) ?_
        refine lv_iload hx hb d_Model_used_75 (lv_at hl 0 rfl) ?_
        refine lv_ior hx hb d_Model_used_77 ?_
        refine lv_goto (tgt := 83) hx hb d_Model_used_78 (by decide) ?_
        exact r_iret C hr hlocks hP hS hk d_Model_used_83
theorem d_Model_passes_0 : decode b_Model_passes 0 = .ok (.aload_n 0, 1) := by decide +kernel
theorem d_Model_passes_1 : decode b_Model_passes 1 = .ok (.iload_n 1, 1) := by decide +kernel
theorem d_Model_passes_2 : decode b_Model_passes 2 = .ok (.invokevirtual 121, 3) := by decide +kernel
theorem d_Model_passes_5 : decode b_Model_passes 5 = .ok (.ifCond .ne 5, 3) := by decide +kernel
theorem d_Model_passes_8 : decode b_Model_passes 8 = .ok (.iconst (-1), 1) := by decide +kernel
theorem d_Model_passes_9 : decode b_Model_passes 9 = .ok (.ireturn, 1) := by decide +kernel
theorem d_Model_passes_10 : decode b_Model_passes 10 = .ok (.iload_n 2, 1) := by decide +kernel
theorem d_Model_passes_11 : decode b_Model_passes 11 = .ok (.invokestatic 127, 3) := by decide +kernel
theorem d_Model_passes_14 : decode b_Model_passes 14 = .ok (.ifCond .eq 20, 3) := by decide +kernel
theorem d_Model_passes_17 : decode b_Model_passes 17 = .ok (.iload_n 3, 1) := by decide +kernel
theorem d_Model_passes_18 : decode b_Model_passes 18 = .ok (.invokestatic 127, 3) := by decide +kernel
theorem d_Model_passes_21 : decode b_Model_passes 21 = .ok (.ifCond .eq 13, 3) := by decide +kernel
theorem d_Model_passes_24 : decode b_Model_passes 24 = .ok (.aload_n 0, 1) := by decide +kernel
theorem d_Model_passes_25 : decode b_Model_passes 25 = .ok (.iload_n 1, 1) := by decide +kernel
theorem d_Model_passes_26 : decode b_Model_passes 26 = .ok (.iload_n 2, 1) := by decide +kernel
theorem d_Model_passes_27 : decode b_Model_passes 27 = .ok (.iload_n 3, 1) := by decide +kernel
theorem d_Model_passes_28 : decode b_Model_passes 28 = .ok (.invokevirtual 130, 3) := by decide +kernel
theorem d_Model_passes_31 : decode b_Model_passes 31 = .ok (.goto 5, 3) := by decide +kernel
theorem d_Model_passes_34 : decode b_Model_passes 34 = .ok (.bipush (-2), 2) := by decide +kernel
theorem d_Model_passes_36 : decode b_Model_passes 36 = .ok (.ireturn, 1) := by decide +kernel
set_option maxRecDepth 20000 in
theorem c_Model_passes {l : Launch} {g : GG} (hI : WI g) (a1 : Int32) (a2 : Int32) (a3 : Int32) (M : Mem) (R : Int32 → Mem → Prop) (h : wp_Model_passes a1 a2 a3 M R) : Met l y_Model_passes (wm y_Model_passes b_Model_passes 4 (some .int)) (RM 2 42) (PP g M [.ref (g.2.2.2 29), .int a1, .int a2, .int a3]) (PQ g (RI R)) 0 0 (AW g) := by
  refine m_of (own := N_Model) (by decide) rfl (Nat.le_of_ble_eq_true rfl) ?_
  intro p e s m below meth c ls C hr hlocks hW hP hS hl
  obtain ⟨hx, hb, hml, hown, hts⟩ := id C
  have hl : lv_has ls 4 [(0, .ref (g.2.2.2 29)), (1, .int a1), (2, .int a2), (3, .int a3)] := hl
  unfold wp_Model_passes at h
  have hk := h
  refine lv_aload_n hx hb d_Model_passes_0 rfl (lv_at hl 0 rfl) ?_
  refine lv_iload_n hx hb d_Model_passes_1 rfl (lv_at hl 1 rfl) ?_
  refine r_runZ (k_V (As := [.int a1]) (rest := []) C hW hP (c_Model_isHouse hI a1 M _ hk) cb_Model_isHouse ml_Model_121 (io_29 g M) ⟨by decide, by decide⟩ rfl hl.1 rfl (Nat.le_of_ble_eq_true rfl) d_Model_passes_2 ⟨by decide, by decide⟩) hS (fun r2 M1 H locs zr2 hk hP hS => ?_)
  refine lv_if_ne (tgt := 10) hx hb d_Model_passes_5 (by decide) (fun c3 => ?_) (fun c3 => ?_)
  · have hk := hk.1 c3
    refine lv_iload_n hx hb d_Model_passes_10 rfl (lv_at hl 2 rfl) ?_
    refine r_runZ (k_S (As := [.int a2]) (rest := []) C hW hP (c_Model_isSet hI a2 M1 _ hk) cb_Model_isSet ml_Model_127 ⟨by decide, by decide⟩ rfl hl.1 rfl (Nat.le_of_ble_eq_true rfl) d_Model_passes_11 ⟨by decide, by decide⟩) hS (fun r5 M4 H locs zr5 hk hP hS => ?_)
    refine lv_if_eq (tgt := 34) hx hb d_Model_passes_14 (by decide) (fun c6 => ?_) (fun c6 => ?_)
    · have hk := hk.1 c6
      refine lv_bipush (v := -2) hx hb d_Model_passes_34 (by decide) ?_
      exact r_iret C hr hlocks hP hS hk d_Model_passes_36
    · have hk := hk.2 c6
      refine lv_iload_n hx hb d_Model_passes_17 rfl (lv_at hl 3 rfl) ?_
      refine r_runZ (k_S (As := [.int a3]) (rest := []) C hW hP (c_Model_isSet hI a3 M4 _ hk) cb_Model_isSet ml_Model_127 ⟨by decide, by decide⟩ rfl hl.1 rfl (Nat.le_of_ble_eq_true rfl) d_Model_passes_18 ⟨by decide, by decide⟩) hS (fun r8 M7 H locs zr8 hk hP hS => ?_)
      refine lv_if_eq (tgt := 34) hx hb d_Model_passes_21 (by decide) (fun c9 => ?_) (fun c9 => ?_)
      · have hk := hk.1 c9
        refine lv_bipush (v := -2) hx hb d_Model_passes_34 (by decide) ?_
        exact r_iret C hr hlocks hP hS hk d_Model_passes_36
      · have hk := hk.2 c9
        refine lv_aload_n hx hb d_Model_passes_24 rfl (lv_at hl 0 rfl) ?_
        refine lv_iload_n hx hb d_Model_passes_25 rfl (lv_at hl 1 rfl) ?_
        refine lv_iload_n hx hb d_Model_passes_26 rfl (lv_at hl 2 rfl) ?_
        refine lv_iload_n hx hb d_Model_passes_27 rfl (lv_at hl 3 rfl) ?_
        refine r_runI (k_V (As := [.int a1, .int a2, .int a3]) (rest := []) C hW hP (c_Model_used hI a1 a2 a3 M7 _ hk) cb_Model_used ml_Model_130 (io_29 g M7) ⟨by decide, by decide⟩ rfl hl.1 rfl (Nat.le_of_ble_eq_true rfl) d_Model_passes_28 ⟨by decide, by decide⟩) hS (fun r11 M10 H locs hk hP hS => ?_)
        refine lv_goto (tgt := 36) hx hb d_Model_passes_31 (by decide) ?_
        exact r_iret C hr hlocks hP hS hk d_Model_passes_36
  · have hk := hk.2 c3
    refine lv_iconst (v := -1) hx hb d_Model_passes_8 (by decide) ?_
    exact r_iret C hr hlocks hP hS hk d_Model_passes_9
theorem d_Model_allGuests_0 : decode b_Model_allGuests 0 = .ok (.iconst 1, 1) := by decide +kernel
theorem d_Model_allGuests_1 : decode b_Model_allGuests 1 = .ok (.aload_n 0, 1) := by decide +kernel
theorem d_Model_allGuests_2 : decode b_Model_allGuests 2 = .ok (.getfield 74, 3) := by decide +kernel
theorem d_Model_allGuests_5 : decode b_Model_allGuests 5 = .ok (.ishl, 1) := by decide +kernel
theorem d_Model_allGuests_6 : decode b_Model_allGuests 6 = .ok (.iconst 1, 1) := by decide +kernel
theorem d_Model_allGuests_7 : decode b_Model_allGuests 7 = .ok (.isub, 1) := by decide +kernel
theorem d_Model_allGuests_8 : decode b_Model_allGuests 8 = .ok (.ireturn, 1) := by decide +kernel
set_option maxRecDepth 20000 in
theorem c_Model_allGuests {l : Launch} {g : GG} (hI : WI g) (M : Mem) (R : Int32 → Mem → Prop) (h : wp_Model_allGuests  M R) : Met l y_Model_allGuests (wm y_Model_allGuests b_Model_allGuests 1 (some .int)) (RM 0 0) (PP g M [.ref (g.2.2.2 29)]) (PQ g (RI R)) 0 0 (AW g) := by
  refine m_of (own := N_Model) (by decide) rfl (Nat.le_of_ble_eq_true rfl) ?_
  intro p e s m below meth c ls C hr hlocks hW hP hS hl
  obtain ⟨hx, hb, hml, hown, hts⟩ := id C
  have hl : lv_has ls 1 [(0, .ref (g.2.2.2 29))] := hl
  unfold wp_Model_allGuests at h
  have hk := h
  refine lv_iconst (v := 1) hx hb d_Model_allGuests_0 (by decide) ?_
  refine lv_aload_n hx hb d_Model_allGuests_1 rfl (lv_at hl 0 rfl) ?_
  refine gf_29_6 C hW hP fl_Model_74 d_Model_allGuests_2 ?_
  refine lv_ishl hx hb d_Model_allGuests_5 ?_
  refine lv_iconst (v := 1) hx hb d_Model_allGuests_6 (by decide) ?_
  refine lv_isub hx hb d_Model_allGuests_7 ?_
  exact r_iret C hr hlocks hP hS hk d_Model_allGuests_8
theorem d_Model_begin_0 : decode b_Model_begin 0 = .ok (.aload_n 0, 1) := by decide +kernel
theorem d_Model_begin_1 : decode b_Model_begin 1 = .ok (.iconst 0, 1) := by decide +kernel
theorem d_Model_begin_2 : decode b_Model_begin 2 = .ok (.putfield 133, 3) := by decide +kernel
theorem d_Model_begin_5 : decode b_Model_begin 5 = .ok (.iconst 0, 1) := by decide +kernel
theorem d_Model_begin_6 : decode b_Model_begin 6 = .ok (.istore_n 1, 1) := by decide +kernel
theorem d_Model_begin_7 : decode b_Model_begin 7 = .ok (.iload_n 1, 1) := by decide +kernel
theorem d_Model_begin_8 : decode b_Model_begin 8 = .ok (.aload_n 0, 1) := by decide +kernel
theorem d_Model_begin_9 : decode b_Model_begin 9 = .ok (.getfield 74, 3) := by decide +kernel
theorem d_Model_begin_12 : decode b_Model_begin 12 = .ok (.if_icmp .ge 17, 3) := by decide +kernel
theorem d_Model_begin_15 : decode b_Model_begin 15 = .ok (.aload_n 0, 1) := by decide +kernel
theorem d_Model_begin_16 : decode b_Model_begin 16 = .ok (.getfield 44, 3) := by decide +kernel
theorem d_Model_begin_19 : decode b_Model_begin 19 = .ok (.iload_n 1, 1) := by decide +kernel
theorem d_Model_begin_20 : decode b_Model_begin 20 = .ok (.bipush (-9), 2) := by decide +kernel
theorem d_Model_begin_22 : decode b_Model_begin 22 = .ok (.iastore, 1) := by decide +kernel
theorem d_Model_begin_23 : decode b_Model_begin 23 = .ok (.iinc 1 1, 3) := by decide +kernel
theorem d_Model_begin_26 : decode b_Model_begin 26 = .ok (.goto (-19), 3) := by decide +kernel
theorem d_Model_begin_29 : decode b_Model_begin 29 = .ok (.iconst 0, 1) := by decide +kernel
theorem d_Model_begin_30 : decode b_Model_begin 30 = .ok (.istore_n 1, 1) := by decide +kernel
theorem d_Model_begin_31 : decode b_Model_begin 31 = .ok (.iload_n 1, 1) := by decide +kernel
theorem d_Model_begin_32 : decode b_Model_begin 32 = .ok (.aload_n 0, 1) := by decide +kernel
theorem d_Model_begin_33 : decode b_Model_begin 33 = .ok (.getfield 71, 3) := by decide +kernel
theorem d_Model_begin_36 : decode b_Model_begin 36 = .ok (.if_icmp .ge 16, 3) := by decide +kernel
theorem d_Model_begin_39 : decode b_Model_begin 39 = .ok (.aload_n 0, 1) := by decide +kernel
theorem d_Model_begin_40 : decode b_Model_begin 40 = .ok (.getfield 47, 3) := by decide +kernel
theorem d_Model_begin_43 : decode b_Model_begin 43 = .ok (.iload_n 1, 1) := by decide +kernel
theorem d_Model_begin_44 : decode b_Model_begin 44 = .ok (.iconst 0, 1) := by decide +kernel
theorem d_Model_begin_45 : decode b_Model_begin 45 = .ok (.iastore, 1) := by decide +kernel
theorem d_Model_begin_46 : decode b_Model_begin 46 = .ok (.iinc 1 1, 3) := by decide +kernel
theorem d_Model_begin_49 : decode b_Model_begin 49 = .ok (.goto (-18), 3) := by decide +kernel
theorem d_Model_begin_52 : decode b_Model_begin 52 = .ok (.return_, 1) := by decide +kernel
set_option maxRecDepth 20000 in
theorem c_Model_begin {l : Launch} {g : GG} (hI : WI g) (M : Mem) (R : Mem → Prop) (h : wp_Model_begin  M R) : Met l y_Model_begin (wm y_Model_begin b_Model_begin 2 none) (RM 0 0) (PP g M [.ref (g.2.2.2 29)]) (PQ g (RV R)) 0 0 (AW g) := by
  refine m_of (own := N_Model) (by decide) rfl (Nat.le_of_ble_eq_true rfl) ?_
  intro p e s m below meth c ls C hr hlocks hW hP hS hl
  obtain ⟨hx, hb, hml, hown, hts⟩ := id C
  have hl : lv_has ls 2 [(0, .ref (g.2.2.2 29))] := hl
  unfold wp_Model_begin at h
  obtain ⟨X7, eX7⟩ : ∃ X : Int32 → Mem → Prop, ∀ (x1 : Int32) (M : Mem), X x1 M ↔ (∀ (H : Heap) (locs : List Loc) (ls : Array Slot), WP g M H → va_S (AW g) s.heap H locs → lv_has ls 2 [(0, .ref (g.2.2.2 29)), (1, .int x1)] → W p l e (RM 0 0) s m ([.ref (g.2.2.2 29)] : List Value).toArray below meth c H locs 0 0 (MQ below (PQ g (RV R)) ([.ref (g.2.2.2 29)] : List Value).toArray s 0 0 (AW g)) (F0 m 7 ls [])) := ⟨fun x1 M => _, fun _ _ => Iff.rfl⟩
  obtain ⟨X31, eX31⟩ : ∃ X : Int32 → Mem → Prop, ∀ (x1 : Int32) (M : Mem), X x1 M ↔ (∀ (H : Heap) (locs : List Loc) (ls : Array Slot), WP g M H → va_S (AW g) s.heap H locs → lv_has ls 2 [(0, .ref (g.2.2.2 29)), (1, .int x1)] → W p l e (RM 0 0) s m ([.ref (g.2.2.2 29)] : List Value).toArray below meth c H locs 0 0 (MQ below (PQ g (RV R)) ([.ref (g.2.2.2 29)] : List Value).toArray s 0 0 (AW g)) (F0 m 31 ls [])) := ⟨fun x1 M => _, fun _ _ => Iff.rfl⟩
  suffices hcl : (∀ (x1 : Int32) (M : Mem), wp_Model_begin_7 X7 X31 R x1 M → X7 x1 M) ∧ (∀ (x1 : Int32) (M : Mem), wp_Model_begin_31 X7 X31 R x1 M → X31 x1 M) by
    have hk := h X7 X31 (hcl.1) (hcl.2)
    refine lv_aload_n hx hb d_Model_begin_0 rfl (lv_at hl 0 rfl) ?_
    refine lv_iconst (v := 0) hx hb d_Model_begin_1 (by decide) ?_
    refine pf_29_18 hI C hW hP hS fl_Model_133 d_Model_begin_2 (fun M9 eM9 H locs hP hS => ?_)
    have hk := hk M9 eM9
    refine lv_iconst (v := 0) hx hb d_Model_begin_5 (by decide) ?_
    refine lv_istore_n (lv' := [(1, .int (0 : Int32)), (0, .ref (g.2.2.2 29))]) hx hb d_Model_begin_6 rfl hl (by decide) rfl (fun ls hl => ?_)
    exact (eX7 (0 : Int32) M9).mp hk _ _ _ hP hS (lv_sub hl [1, 0] rfl)
  refine ⟨?_, ?_⟩
  · intro x1 M hk
    refine (eX7 x1 M).mpr ?_
    intro H locs ls hP hS hl
    unfold wp_Model_begin_7 at hk
    refine lv_iload_n hx hb d_Model_begin_7 rfl (lv_at hl 1 rfl) ?_
    refine lv_aload_n hx hb d_Model_begin_8 rfl (lv_at hl 0 rfl) ?_
    refine gf_29_6 C hW hP fl_Model_74 d_Model_begin_9 ?_
    refine lv_icmp_ge (tgt := 29) hx hb d_Model_begin_12 (by decide) (fun c1 => ?_) (fun c1 => ?_)
    · have hk := hk.1 c1
      refine lv_iconst (v := 0) hx hb d_Model_begin_29 (by decide) ?_
      refine lv_istore_n (lv' := [(1, .int (0 : Int32)), (0, .ref (g.2.2.2 29))]) hx hb d_Model_begin_30 rfl hl (by decide) rfl (fun ls hl => ?_)
      exact (eX31 (0 : Int32) M).mp hk _ _ _ hP hS (lv_sub hl [1, 0] rfl)
    · have hk := hk.2 c1
      refine lv_aload_n hx hb d_Model_begin_15 rfl (lv_at hl 0 rfl) ?_
      refine gf_29_19 C hW hP fl_Model_44 d_Model_begin_16 ?_
      refine lv_iload_n hx hb d_Model_begin_19 rfl (lv_at hl 1 rfl) ?_
      refine lv_bipush (v := -9) hx hb d_Model_begin_20 (by decide) ?_
      obtain ⟨h2, hk⟩ := hk
      refine as_40 hI C hW hP hS h2 d_Model_begin_22 (fun M3 eM3 H locs hP hS => ?_)
      have hk := hk M3 eM3
      obtain ⟨x1_4, ex1_4⟩ : ∃ y : Int32, y = x1 + (1 : Int32) := ⟨_, rfl⟩
      have hk := hk x1_4 ex1_4
      refine lv_iinc (v := x1_4) (lv' := [(1, .int x1_4), (0, .ref (g.2.2.2 29))]) hx hb d_Model_begin_23 hl (k := 1) rfl (by rw [ex1_4]; rfl) (by decide) rfl (fun ls hl => ?_)
      refine lv_goto (tgt := 7) hx hb d_Model_begin_26 (by decide) ?_
      exact (eX7 x1_4 M3).mp hk _ _ _ hP hS (lv_sub hl [1, 0] rfl)
  · intro x1 M hk
    refine (eX31 x1 M).mpr ?_
    intro H locs ls hP hS hl
    unfold wp_Model_begin_31 at hk
    refine lv_iload_n hx hb d_Model_begin_31 rfl (lv_at hl 1 rfl) ?_
    refine lv_aload_n hx hb d_Model_begin_32 rfl (lv_at hl 0 rfl) ?_
    refine gf_29_5 C hW hP fl_Model_71 d_Model_begin_33 ?_
    refine lv_icmp_ge (tgt := 52) hx hb d_Model_begin_36 (by decide) (fun c5 => ?_) (fun c5 => ?_)
    · have hk := hk.1 c5
      exact r_vret C hr hlocks hP hS hk d_Model_begin_52
    · have hk := hk.2 c5
      refine lv_aload_n hx hb d_Model_begin_39 rfl (lv_at hl 0 rfl) ?_
      refine gf_29_20 C hW hP fl_Model_47 d_Model_begin_40 ?_
      refine lv_iload_n hx hb d_Model_begin_43 rfl (lv_at hl 1 rfl) ?_
      refine lv_iconst (v := 0) hx hb d_Model_begin_44 (by decide) ?_
      obtain ⟨h6, hk⟩ := hk
      refine as_41 hI C hW hP hS h6 d_Model_begin_45 (fun M7 eM7 H locs hP hS => ?_)
      have hk := hk M7 eM7
      obtain ⟨x1_8, ex1_8⟩ : ∃ y : Int32, y = x1 + (1 : Int32) := ⟨_, rfl⟩
      have hk := hk x1_8 ex1_8
      refine lv_iinc (v := x1_8) (lv' := [(1, .int x1_8), (0, .ref (g.2.2.2 29))]) hx hb d_Model_begin_46 hl (k := 1) rfl (by rw [ex1_8]; rfl) (by decide) rfl (fun ls hl => ?_)
      refine lv_goto (tgt := 31) hx hb d_Model_begin_49 (by decide) ?_
      exact (eX31 x1_8 M7).mp hk _ _ _ hP hS (lv_sub hl [1, 0] rfl)
theorem d_Model_gearOfAll_0 : decode b_Model_gearOfAll 0 = .ok (.iconst 0, 1) := by decide +kernel
theorem d_Model_gearOfAll_1 : decode b_Model_gearOfAll 1 = .ok (.istore_n 2, 1) := by decide +kernel
theorem d_Model_gearOfAll_2 : decode b_Model_gearOfAll 2 = .ok (.iconst 0, 1) := by decide +kernel
theorem d_Model_gearOfAll_3 : decode b_Model_gearOfAll 3 = .ok (.istore_n 3, 1) := by decide +kernel
theorem d_Model_gearOfAll_4 : decode b_Model_gearOfAll 4 = .ok (.iload_n 3, 1) := by decide +kernel
theorem d_Model_gearOfAll_5 : decode b_Model_gearOfAll 5 = .ok (.aload_n 0, 1) := by decide +kernel
theorem d_Model_gearOfAll_6 : decode b_Model_gearOfAll 6 = .ok (.getfield 74, 3) := by decide +kernel
theorem d_Model_gearOfAll_9 : decode b_Model_gearOfAll 9 = .ok (.if_icmp .ge 31, 3) := by decide +kernel
theorem d_Model_gearOfAll_12 : decode b_Model_gearOfAll 12 = .ok (.iload_n 2, 1) := by decide +kernel
theorem d_Model_gearOfAll_13 : decode b_Model_gearOfAll 13 = .ok (.iload_n 1, 1) := by decide +kernel
theorem d_Model_gearOfAll_14 : decode b_Model_gearOfAll 14 = .ok (.iload_n 3, 1) := by decide +kernel
theorem d_Model_gearOfAll_15 : decode b_Model_gearOfAll 15 = .ok (.ishr, 1) := by decide +kernel
theorem d_Model_gearOfAll_16 : decode b_Model_gearOfAll 16 = .ok (.iconst 1, 1) := by decide +kernel
theorem d_Model_gearOfAll_17 : decode b_Model_gearOfAll 17 = .ok (.iand, 1) := by decide +kernel
theorem d_Model_gearOfAll_18 : decode b_Model_gearOfAll 18 = .ok (.iconst 1, 1) := by decide +kernel
theorem d_Model_gearOfAll_19 : decode b_Model_gearOfAll 19 = .ok (.if_icmp .ne 12, 3) := by decide +kernel
theorem d_Model_gearOfAll_22 : decode b_Model_gearOfAll 22 = .ok (.aload_n 0, 1) := by decide +kernel
theorem d_Model_gearOfAll_23 : decode b_Model_gearOfAll 23 = .ok (.getfield 31, 3) := by decide +kernel
theorem d_Model_gearOfAll_26 : decode b_Model_gearOfAll 26 = .ok (.iload_n 3, 1) := by decide +kernel
theorem d_Model_gearOfAll_27 : decode b_Model_gearOfAll 27 = .ok (.iaload, 1) := by decide +kernel
theorem d_Model_gearOfAll_28 : decode b_Model_gearOfAll 28 = .ok (.goto 4, 3) := by decide +kernel
theorem d_Model_gearOfAll_31 : decode b_Model_gearOfAll 31 = .ok (.iconst 0, 1) := by decide +kernel
theorem d_Model_gearOfAll_32 : decode b_Model_gearOfAll 32 = .ok (.ior, 1) := by decide +kernel
theorem d_Model_gearOfAll_33 : decode b_Model_gearOfAll 33 = .ok (.istore_n 2, 1) := by decide +kernel
theorem d_Model_gearOfAll_34 : decode b_Model_gearOfAll 34 = .ok (.iinc 3 1, 3) := by decide +kernel
theorem d_Model_gearOfAll_37 : decode b_Model_gearOfAll 37 = .ok (.goto (-33), 3) := by decide +kernel
theorem d_Model_gearOfAll_40 : decode b_Model_gearOfAll 40 = .ok (.iload_n 2, 1) := by decide +kernel
theorem d_Model_gearOfAll_41 : decode b_Model_gearOfAll 41 = .ok (.ireturn, 1) := by decide +kernel
set_option maxRecDepth 20000 in
theorem c_Model_gearOfAll {l : Launch} {g : GG} (hI : WI g) (a1 : Int32) (M : Mem) (R : Int32 → Mem → Prop) (h : wp_Model_gearOfAll a1 M R) : Met l y_Model_gearOfAll (wm y_Model_gearOfAll b_Model_gearOfAll 4 (some .int)) (RM 0 0) (PP g M [.ref (g.2.2.2 29), .int a1]) (PQ g (RI R)) 0 0 (AW g) := by
  refine m_of (own := N_Model) (by decide) rfl (Nat.le_of_ble_eq_true rfl) ?_
  intro p e s m below meth c ls C hr hlocks hW hP hS hl
  obtain ⟨hx, hb, hml, hown, hts⟩ := id C
  have hl : lv_has ls 4 [(0, .ref (g.2.2.2 29)), (1, .int a1)] := hl
  unfold wp_Model_gearOfAll at h
  obtain ⟨X4, eX4⟩ : ∃ X : Int32 → Int32 → Int32 → Mem → Prop, ∀ (x1 : Int32) (x2 : Int32) (x3 : Int32) (M : Mem), X x1 x2 x3 M ↔ (∀ (H : Heap) (locs : List Loc) (ls : Array Slot), WP g M H → va_S (AW g) s.heap H locs → lv_has ls 4 [(0, .ref (g.2.2.2 29)), (1, .int x1), (2, .int x2), (3, .int x3)] → W p l e (RM 0 0) s m ([.ref (g.2.2.2 29), .int a1] : List Value).toArray below meth c H locs 0 0 (MQ below (PQ g (RI R)) ([.ref (g.2.2.2 29), .int a1] : List Value).toArray s 0 0 (AW g)) (F0 m 4 ls [])) := ⟨fun x1 x2 x3 M => _, fun _ _ _ _ => Iff.rfl⟩
  have J32 : ∀ (x1 : Int32) (x3 : Int32) (s0 : Int32) (s1 : Int32) (M : Mem), wp_Model_gearOfAll_32 X4 R x1 x3 s0 s1 M → ∀ (H : Heap) (locs : List Loc) (ls : Array Slot), WP g M H → va_S (AW g) s.heap H locs → lv_has ls 4 [(0, .ref (g.2.2.2 29)), (1, .int x1), (3, .int x3)] → W p l e (RM 0 0) s m ([.ref (g.2.2.2 29), .int a1] : List Value).toArray below meth c H locs 0 0 (MQ below (PQ g (RI R)) ([.ref (g.2.2.2 29), .int a1] : List Value).toArray s 0 0 (AW g)) (F0 m 32 ls [.int s1, .int s0]) := by
    intro x1 x3 s0 s1 M hk H locs ls hP hS hl
    unfold wp_Model_gearOfAll_32 at hk
    refine lv_ior hx hb d_Model_gearOfAll_32 ?_
    refine lv_topi (fun x2_4 ex2_4 => ?_)
    have hk := hk x2_4 ex2_4
    refine lv_istore_n (lv' := [(2, .int x2_4), (0, .ref (g.2.2.2 29)), (1, .int x1), (3, .int x3)]) hx hb d_Model_gearOfAll_33 rfl hl (by decide) rfl (fun ls hl => ?_)
    obtain ⟨x3_5, ex3_5⟩ : ∃ y : Int32, y = x3 + (1 : Int32) := ⟨_, rfl⟩
    have hk := hk x3_5 ex3_5
    refine lv_iinc (v := x3_5) (lv' := [(3, .int x3_5), (2, .int x2_4), (0, .ref (g.2.2.2 29)), (1, .int x1)]) hx hb d_Model_gearOfAll_34 hl (k := 3) rfl (by rw [ex3_5]; rfl) (by decide) rfl (fun ls hl => ?_)
    refine lv_goto (tgt := 4) hx hb d_Model_gearOfAll_37 (by decide) ?_
    exact (eX4 x1 x2_4 x3_5 M).mp hk _ _ _ hP hS (lv_sub hl [2, 3, 1, 0] rfl)
  suffices hcl : (∀ (x1 : Int32) (x2 : Int32) (x3 : Int32) (M : Mem), wp_Model_gearOfAll_4 X4 R x1 x2 x3 M → X4 x1 x2 x3 M) by
    have hk := h X4 hcl
    refine lv_iconst (v := 0) hx hb d_Model_gearOfAll_0 (by decide) ?_
    refine lv_istore_n (lv' := [(2, .int (0 : Int32)), (0, .ref (g.2.2.2 29)), (1, .int a1)]) hx hb d_Model_gearOfAll_1 rfl hl (by decide) rfl (fun ls hl => ?_)
    refine lv_iconst (v := 0) hx hb d_Model_gearOfAll_2 (by decide) ?_
    refine lv_istore_n (lv' := [(3, .int (0 : Int32)), (2, .int (0 : Int32)), (0, .ref (g.2.2.2 29)), (1, .int a1)]) hx hb d_Model_gearOfAll_3 rfl hl (by decide) rfl (fun ls hl => ?_)
    exact (eX4 a1 (0 : Int32) (0 : Int32) M).mp hk _ _ _ hP hS (lv_sub hl [2, 3, 1, 0] rfl)
  · intro x1 x2 x3 M hk
    refine (eX4 x1 x2 x3 M).mpr ?_
    intro H locs ls hP hS hl
    unfold wp_Model_gearOfAll_4 at hk
    refine lv_iload_n hx hb d_Model_gearOfAll_4 rfl (lv_at hl 3 rfl) ?_
    refine lv_aload_n hx hb d_Model_gearOfAll_5 rfl (lv_at hl 0 rfl) ?_
    refine gf_29_6 C hW hP fl_Model_74 d_Model_gearOfAll_6 ?_
    refine lv_icmp_ge (tgt := 40) hx hb d_Model_gearOfAll_9 (by decide) (fun c1 => ?_) (fun c1 => ?_)
    · have hk := hk.1 c1
      refine lv_iload_n hx hb d_Model_gearOfAll_40 rfl (lv_at hl 2 rfl) ?_
      exact r_iret C hr hlocks hP hS hk d_Model_gearOfAll_41
    · have hk := hk.2 c1
      refine lv_iload_n hx hb d_Model_gearOfAll_12 rfl (lv_at hl 2 rfl) ?_
      refine lv_iload_n hx hb d_Model_gearOfAll_13 rfl (lv_at hl 1 rfl) ?_
      refine lv_iload_n hx hb d_Model_gearOfAll_14 rfl (lv_at hl 3 rfl) ?_
      refine lv_ishr hx hb d_Model_gearOfAll_15 ?_
      refine lv_iconst (v := 1) hx hb d_Model_gearOfAll_16 (by decide) ?_
      refine lv_iand hx hb d_Model_gearOfAll_17 ?_
      refine lv_iconst (v := 1) hx hb d_Model_gearOfAll_18 (by decide) ?_
      refine lv_icmp_ne (tgt := 31) hx hb d_Model_gearOfAll_19 (by decide) (fun c2 => ?_) (fun c2 => ?_)
      · have hk := hk.1 c2
        refine lv_iconst (v := 0) hx hb d_Model_gearOfAll_31 (by decide) ?_
        exact J32 x1 x3 x2 (0 : Int32) M hk _ _ _ hP hS (lv_sub hl [0, 1, 3] rfl)
      · have hk := hk.2 c2
        refine lv_aload_n hx hb d_Model_gearOfAll_22 rfl (lv_at hl 0 rfl) ?_
        refine gf_29_11 C hW hP fl_Model_31 d_Model_gearOfAll_23 ?_
        refine lv_iload_n hx hb d_Model_gearOfAll_26 rfl (lv_at hl 3 rfl) ?_
        obtain ⟨h3, hk⟩ := hk
        refine al_37 C hW hP h3 d_Model_gearOfAll_27 ?_
        refine lv_goto (tgt := 32) hx hb d_Model_gearOfAll_28 (by decide) ?_
        exact J32 x1 x3 x2 (M 37 x3.toNatClampNeg) M hk _ _ _ hP hS (lv_sub hl [0, 1, 3] rfl)
theorem d_Model_visit_0 : decode b_Model_visit 0 = .ok (.iload_n 1, 1) := by decide +kernel
theorem d_Model_visit_1 : decode b_Model_visit 1 = .ok (.aload_n 0, 1) := by decide +kernel
theorem d_Model_visit_2 : decode b_Model_visit 2 = .ok (.getfield 133, 3) := by decide +kernel
theorem d_Model_visit_5 : decode b_Model_visit 5 = .ok (.iconst (-1), 1) := by decide +kernel
theorem d_Model_visit_6 : decode b_Model_visit 6 = .ok (.ixor, 1) := by decide +kernel
theorem d_Model_visit_7 : decode b_Model_visit 7 = .ok (.iand, 1) := by decide +kernel
theorem d_Model_visit_8 : decode b_Model_visit 8 = .ok (.istore_n 3, 1) := by decide +kernel
theorem d_Model_visit_9 : decode b_Model_visit 9 = .ok (.iload_n 3, 1) := by decide +kernel
theorem d_Model_visit_10 : decode b_Model_visit 10 = .ok (.ifCond .ne 5, 3) := by decide +kernel
theorem d_Model_visit_13 : decode b_Model_visit 13 = .ok (.iconst 0, 1) := by decide +kernel
theorem d_Model_visit_14 : decode b_Model_visit 14 = .ok (.ireturn, 1) := by decide +kernel
theorem d_Model_visit_15 : decode b_Model_visit 15 = .ok (.aload_n 0, 1) := by decide +kernel
theorem d_Model_visit_16 : decode b_Model_visit 16 = .ok (.iload_n 2, 1) := by decide +kernel
theorem d_Model_visit_17 : decode b_Model_visit 17 = .ok (.aload_n 0, 1) := by decide +kernel
theorem d_Model_visit_18 : decode b_Model_visit 18 = .ok (.iload_n 3, 1) := by decide +kernel
theorem d_Model_visit_19 : decode b_Model_visit 19 = .ok (.invokevirtual 136, 3) := by decide +kernel
theorem d_Model_visit_22 : decode b_Model_visit 22 = .ok (.aload_n 0, 1) := by decide +kernel
theorem d_Model_visit_23 : decode b_Model_visit 23 = .ok (.getfield 47, 3) := by decide +kernel
theorem d_Model_visit_26 : decode b_Model_visit 26 = .ok (.iload_n 2, 1) := by decide +kernel
theorem d_Model_visit_27 : decode b_Model_visit 27 = .ok (.iaload, 1) := by decide +kernel
theorem d_Model_visit_28 : decode b_Model_visit 28 = .ok (.invokevirtual 130, 3) := by decide +kernel
theorem d_Model_visit_31 : decode b_Model_visit 31 = .ok (.istore 4, 2) := by decide +kernel
theorem d_Model_visit_33 : decode b_Model_visit 33 = .ok (.iload 4, 2) := by decide +kernel
theorem d_Model_visit_35 : decode b_Model_visit 35 = .ok (.bipush (-9), 2) := by decide +kernel
theorem d_Model_visit_37 : decode b_Model_visit 37 = .ok (.if_icmp .eq 30, 3) := by decide +kernel
theorem d_Model_visit_40 : decode b_Model_visit 40 = .ok (.aload_n 0, 1) := by decide +kernel
theorem d_Model_visit_41 : decode b_Model_visit 41 = .ok (.getfield 47, 3) := by decide +kernel
theorem d_Model_visit_44 : decode b_Model_visit 44 = .ok (.iload_n 2, 1) := by decide +kernel
theorem d_Model_visit_45 : decode b_Model_visit 45 = .ok (.dup2, 1) := by decide +kernel
theorem d_Model_visit_46 : decode b_Model_visit 46 = .ok (.iaload, 1) := by decide +kernel
theorem d_Model_visit_47 : decode b_Model_visit 47 = .ok (.aload_n 0, 1) := by decide +kernel
theorem d_Model_visit_48 : decode b_Model_visit 48 = .ok (.getfield 19, 3) := by decide +kernel
theorem d_Model_visit_51 : decode b_Model_visit 51 = .ok (.iload_n 2, 1) := by decide +kernel
theorem d_Model_visit_52 : decode b_Model_visit 52 = .ok (.iaload, 1) := by decide +kernel
theorem d_Model_visit_53 : decode b_Model_visit 53 = .ok (.iconst 2, 1) := by decide +kernel
theorem d_Model_visit_54 : decode b_Model_visit 54 = .ok (.if_icmp .ne 8, 3) := by decide +kernel
theorem d_Model_visit_57 : decode b_Model_visit 57 = .ok (.iload 4, 2) := by decide +kernel
theorem d_Model_visit_59 : decode b_Model_visit 59 = .ok (.goto 4, 3) := by decide +kernel
theorem d_Model_visit_62 : decode b_Model_visit 62 = .ok (.iconst 0, 1) := by decide +kernel
theorem d_Model_visit_63 : decode b_Model_visit 63 = .ok (.ior, 1) := by decide +kernel
theorem d_Model_visit_64 : decode b_Model_visit 64 = .ok (.iastore, 1) := by decide +kernel
theorem d_Model_visit_65 : decode b_Model_visit 65 = .ok (.iconst 0, 1) := by decide +kernel
theorem d_Model_visit_66 : decode b_Model_visit 66 = .ok (.ireturn, 1) := by decide +kernel
theorem d_Model_visit_67 : decode b_Model_visit 67 = .ok (.aload_n 0, 1) := by decide +kernel
theorem d_Model_visit_68 : decode b_Model_visit 68 = .ok (.dup, 1) := by decide +kernel
theorem d_Model_visit_69 : decode b_Model_visit 69 = .ok (.getfield 133, 3) := by decide +kernel
theorem d_Model_visit_72 : decode b_Model_visit 72 = .ok (.iload_n 3, 1) := by decide +kernel
theorem d_Model_visit_73 : decode b_Model_visit 73 = .ok (.ior, 1) := by decide +kernel
theorem d_Model_visit_74 : decode b_Model_visit 74 = .ok (.putfield 133, 3) := by decide +kernel
theorem d_Model_visit_77 : decode b_Model_visit 77 = .ok (.iconst 0, 1) := by decide +kernel
theorem d_Model_visit_78 : decode b_Model_visit 78 = .ok (.istore 5, 2) := by decide +kernel
theorem d_Model_visit_80 : decode b_Model_visit 80 = .ok (.iload 5, 2) := by decide +kernel
theorem d_Model_visit_82 : decode b_Model_visit 82 = .ok (.aload_n 0, 1) := by decide +kernel
theorem d_Model_visit_83 : decode b_Model_visit 83 = .ok (.getfield 74, 3) := by decide +kernel
theorem d_Model_visit_86 : decode b_Model_visit 86 = .ok (.if_icmp .ge 37, 3) := by decide +kernel
theorem d_Model_visit_89 : decode b_Model_visit 89 = .ok (.aload_n 0, 1) := by decide +kernel
theorem d_Model_visit_90 : decode b_Model_visit 90 = .ok (.getfield 44, 3) := by decide +kernel
theorem d_Model_visit_93 : decode b_Model_visit 93 = .ok (.iload 5, 2) := by decide +kernel
theorem d_Model_visit_95 : decode b_Model_visit 95 = .ok (.iload_n 3, 1) := by decide +kernel
theorem d_Model_visit_96 : decode b_Model_visit 96 = .ok (.iload 5, 2) := by decide +kernel
theorem d_Model_visit_98 : decode b_Model_visit 98 = .ok (.ishr, 1) := by decide +kernel
theorem d_Model_visit_99 : decode b_Model_visit 99 = .ok (.iconst 1, 1) := by decide +kernel
theorem d_Model_visit_100 : decode b_Model_visit 100 = .ok (.iand, 1) := by decide +kernel
theorem d_Model_visit_101 : decode b_Model_visit 101 = .ok (.iconst 1, 1) := by decide +kernel
theorem d_Model_visit_102 : decode b_Model_visit 102 = .ok (.if_icmp .ne 7, 3) := by decide +kernel
theorem d_Model_visit_105 : decode b_Model_visit 105 = .ok (.iload_n 2, 1) := by decide +kernel
theorem d_Model_visit_106 : decode b_Model_visit 106 = .ok (.goto 10, 3) := by decide +kernel
theorem d_Model_visit_109 : decode b_Model_visit 109 = .ok (.aload_n 0, 1) := by decide +kernel
theorem d_Model_visit_110 : decode b_Model_visit 110 = .ok (.getfield 44, 3) := by decide +kernel
theorem d_Model_visit_113 : decode b_Model_visit 113 = .ok (.iload 5, 2) := by decide +kernel
theorem d_Model_visit_115 : decode b_Model_visit 115 = .ok (.iaload, 1) := by decide +kernel
theorem d_Model_visit_116 : decode b_Model_visit 116 = .ok (.iastore, 1) := by decide +kernel
theorem d_Model_visit_117 : decode b_Model_visit 117 = .ok (.iinc 5 1, 3) := by decide +kernel
theorem d_Model_visit_120 : decode b_Model_visit 120 = .ok (.goto (-40), 3) := by decide +kernel
theorem d_Model_visit_123 : decode b_Model_visit 123 = .ok (.iconst 1, 1) := by decide +kernel
theorem d_Model_visit_124 : decode b_Model_visit 124 = .ok (.ireturn, 1) := by decide +kernel
set_option maxRecDepth 20000 in
theorem c_Model_visit {l : Launch} {g : GG} (hI : WI g) (a1 : Int32) (a2 : Int32) (M : Mem) (R : Int32 → Mem → Prop) (h : wp_Model_visit a1 a2 M R) : Met l y_Model_visit (wm y_Model_visit b_Model_visit 6 (some .boolean)) (RM 1 26) (PP g M [.ref (g.2.2.2 29), .int a1, .int a2]) (PQ g (RZ R)) 0 0 (AW g) := by
  refine m_of (own := N_Model) (by decide) rfl (Nat.le_of_ble_eq_true rfl) ?_
  intro p e s m below meth c ls C hr hlocks hW hP hS hl
  obtain ⟨hx, hb, hml, hown, hts⟩ := id C
  have hl : lv_has ls 6 [(0, .ref (g.2.2.2 29)), (1, .int a1), (2, .int a2)] := hl
  unfold wp_Model_visit at h
  obtain ⟨X80, eX80⟩ : ∃ X : Int32 → Int32 → Int32 → Mem → Prop, ∀ (x2 : Int32) (x3 : Int32) (x5 : Int32) (M : Mem), X x2 x3 x5 M ↔ (∀ (H : Heap) (locs : List Loc) (ls : Array Slot), WP g M H → va_S (AW g) s.heap H locs → lv_has ls 6 [(0, .ref (g.2.2.2 29)), (2, .int x2), (3, .int x3), (5, .int x5)] → W p l e (RM 1 26) s m ([.ref (g.2.2.2 29), .int a1, .int a2] : List Value).toArray below meth c H locs 0 0 (MQ below (PQ g (RZ R)) ([.ref (g.2.2.2 29), .int a1, .int a2] : List Value).toArray s 0 0 (AW g)) (F0 m 80 ls [])) := ⟨fun x2 x3 x5 M => _, fun _ _ _ _ => Iff.rfl⟩
  have J116 : ∀ (x2 : Int32) (x3 : Int32) (x5 : Int32) (s1 : Int32) (s2 : Int32) (M : Mem), wp_Model_visit_116 X80 R x2 x3 x5 s1 s2 M → ∀ (H : Heap) (locs : List Loc) (ls : Array Slot), WP g M H → va_S (AW g) s.heap H locs → lv_has ls 6 [(0, .ref (g.2.2.2 29)), (2, .int x2), (3, .int x3), (5, .int x5)] → W p l e (RM 1 26) s m ([.ref (g.2.2.2 29), .int a1, .int a2] : List Value).toArray below meth c H locs 0 0 (MQ below (PQ g (RZ R)) ([.ref (g.2.2.2 29), .int a1, .int a2] : List Value).toArray s 0 0 (AW g)) (F0 m 116 ls [.int s2, .int s1, .ref (g.2.2.2 40)]) := by
    intro x2 x3 x5 s1 s2 M hk H locs ls hP hS hl
    unfold wp_Model_visit_116 at hk
    obtain ⟨h4, hk⟩ := hk
    refine as_40 hI C hW hP hS h4 d_Model_visit_116 (fun M5 eM5 H locs hP hS => ?_)
    have hk := hk M5 eM5
    obtain ⟨x5_6, ex5_6⟩ : ∃ y : Int32, y = x5 + (1 : Int32) := ⟨_, rfl⟩
    have hk := hk x5_6 ex5_6
    refine lv_iinc (v := x5_6) (lv' := [(5, .int x5_6), (0, .ref (g.2.2.2 29)), (2, .int x2), (3, .int x3)]) hx hb d_Model_visit_117 hl (k := 3) rfl (by rw [ex5_6]; rfl) (by decide) rfl (fun ls hl => ?_)
    refine lv_goto (tgt := 80) hx hb d_Model_visit_120 (by decide) ?_
    exact (eX80 x2 x3 x5_6 M5).mp hk _ _ _ hP hS (lv_sub hl [1, 2, 3, 0] rfl)
  suffices hcl : (∀ (x2 : Int32) (x3 : Int32) (x5 : Int32) (M : Mem), wp_Model_visit_80 X80 R x2 x3 x5 M → X80 x2 x3 x5 M) by
    have hk := h X80 hcl
    refine lv_iload_n hx hb d_Model_visit_0 rfl (lv_at hl 1 rfl) ?_
    refine lv_aload_n hx hb d_Model_visit_1 rfl (lv_at hl 0 rfl) ?_
    refine gf_29_18 C hW hP fl_Model_133 d_Model_visit_2 ?_
    refine lv_iconst (v := -1) hx hb d_Model_visit_5 (by decide) ?_
    refine lv_ixor hx hb d_Model_visit_6 ?_
    refine lv_iand hx hb d_Model_visit_7 ?_
    refine lv_topi (fun x3_7 ex3_7 => ?_)
    have hk := hk x3_7 ex3_7
    refine lv_istore_n (lv' := [(3, .int x3_7), (0, .ref (g.2.2.2 29)), (1, .int a1), (2, .int a2)]) hx hb d_Model_visit_8 rfl hl (by decide) rfl (fun ls hl => ?_)
    refine lv_iload_n hx hb d_Model_visit_9 rfl (lv_at hl 0 rfl) ?_
    refine lv_if_ne (tgt := 15) hx hb d_Model_visit_10 (by decide) (fun c8 => ?_) (fun c8 => ?_)
    · have hk := hk.1 c8
      refine lv_aload_n hx hb d_Model_visit_15 rfl (lv_at hl 1 rfl) ?_
      refine lv_iload_n hx hb d_Model_visit_16 rfl (lv_at hl 3 rfl) ?_
      refine lv_aload_n hx hb d_Model_visit_17 rfl (lv_at hl 1 rfl) ?_
      refine lv_iload_n hx hb d_Model_visit_18 rfl (lv_at hl 0 rfl) ?_
      refine r_runI (k_V (As := [.int x3_7]) (rest := [.int a2, .ref (g.2.2.2 29)]) C hW hP (c_Model_gearOfAll hI x3_7 M _ hk) cb_Model_gearOfAll ml_Model_136 (io_29 g M) ⟨by decide, by decide⟩ rfl hl.1 rfl (Nat.le_of_ble_eq_true rfl) d_Model_visit_19 ⟨by decide, by decide⟩) hS (fun r10 M9 H locs hk hP hS => ?_)
      refine lv_aload_n hx hb d_Model_visit_22 rfl (lv_at hl 1 rfl) ?_
      refine gf_29_20 C hW hP fl_Model_47 d_Model_visit_23 ?_
      refine lv_iload_n hx hb d_Model_visit_26 rfl (lv_at hl 3 rfl) ?_
      obtain ⟨h11, hk⟩ := hk
      refine al_41 C hW hP h11 d_Model_visit_27 ?_
      refine r_runI (k_V (As := [.int a2, .int r10, .int (M9 41 a2.toNatClampNeg)]) (rest := []) C hW hP (c_Model_used hI a2 r10 (M9 41 a2.toNatClampNeg) M9 _ hk) cb_Model_used ml_Model_130 (io_29 g M9) ⟨by decide, by decide⟩ rfl hl.1 rfl (Nat.le_of_ble_eq_true rfl) d_Model_visit_28 ⟨by decide, by decide⟩) hS (fun r13 M12 H locs hk hP hS => ?_)
      refine lv_istore (lv' := [(4, .int r13), (3, .int x3_7), (0, .ref (g.2.2.2 29)), (1, .int a1), (2, .int a2)]) hx hb d_Model_visit_31 hl (by decide) rfl (fun ls hl => ?_)
      refine lv_iload hx hb d_Model_visit_33 (lv_at hl 0 rfl) ?_
      refine lv_bipush (v := -9) hx hb d_Model_visit_35 (by decide) ?_
      refine lv_icmp_eq (tgt := 67) hx hb d_Model_visit_37 (by decide) (fun c14 => ?_) (fun c14 => ?_)
      · have hk := hk.1 c14
        refine lv_aload_n hx hb d_Model_visit_67 rfl (lv_at hl 2 rfl) ?_
        refine lv_dup hx hb d_Model_visit_68 rfl ?_
        refine gf_29_18 C hW hP fl_Model_133 d_Model_visit_69 ?_
        refine lv_iload_n hx hb d_Model_visit_72 rfl (lv_at hl 1 rfl) ?_
        refine lv_ior hx hb d_Model_visit_73 ?_
        refine pf_29_18 hI C hW hP hS fl_Model_133 d_Model_visit_74 (fun M15 eM15 H locs hP hS => ?_)
        have hk := hk M15 eM15
        refine lv_iconst (v := 0) hx hb d_Model_visit_77 (by decide) ?_
        refine lv_istore (lv' := [(5, .int (0 : Int32)), (4, .int r13), (3, .int x3_7), (0, .ref (g.2.2.2 29)), (1, .int a1), (2, .int a2)]) hx hb d_Model_visit_78 hl (by decide) rfl (fun ls hl => ?_)
        exact (eX80 a2 x3_7 (0 : Int32) M15).mp hk _ _ _ hP hS (lv_sub hl [3, 5, 2, 0] rfl)
      · have hk := hk.2 c14
        refine lv_aload_n hx hb d_Model_visit_40 rfl (lv_at hl 2 rfl) ?_
        refine gf_29_20 C hW hP fl_Model_47 d_Model_visit_41 ?_
        refine lv_iload_n hx hb d_Model_visit_44 rfl (lv_at hl 4 rfl) ?_
        refine lv_dup2_11 hx hb d_Model_visit_45 rfl rfl ?_
        obtain ⟨h16, hk⟩ := hk
        refine al_41 C hW hP h16 d_Model_visit_46 ?_
        refine lv_aload_n hx hb d_Model_visit_47 rfl (lv_at hl 2 rfl) ?_
        refine gf_29_7 C hW hP fl_Model_19 d_Model_visit_48 ?_
        refine lv_iload_n hx hb d_Model_visit_51 rfl (lv_at hl 4 rfl) ?_
        obtain ⟨h17, hk⟩ := hk
        refine al_33 C hW hP h17 d_Model_visit_52 ?_
        refine lv_iconst (v := 2) hx hb d_Model_visit_53 (by decide) ?_
        refine lv_icmp_ne (tgt := 62) hx hb d_Model_visit_54 (by decide) (fun c18 => ?_) (fun c18 => ?_)
        · have hk := hk.1 c18
          refine lv_iconst (v := 0) hx hb d_Model_visit_62 (by decide) ?_
          refine lv_ior hx hb d_Model_visit_63 ?_
          obtain ⟨h19, hk⟩ := hk
          refine as_41 hI C hW hP hS h19 d_Model_visit_64 (fun M20 eM20 H locs hP hS => ?_)
          have hk := hk M20 eM20
          refine lv_iconst (v := 0) hx hb d_Model_visit_65 (by decide) ?_
          exact r_zret rfl C hr hlocks hP hS hk d_Model_visit_66
        · have hk := hk.2 c18
          refine lv_iload hx hb d_Model_visit_57 (lv_at hl 0 rfl) ?_
          refine lv_goto (tgt := 63) hx hb d_Model_visit_59 (by decide) ?_
          refine lv_ior hx hb d_Model_visit_63 ?_
          obtain ⟨h21, hk⟩ := hk
          refine as_41 hI C hW hP hS h21 d_Model_visit_64 (fun M22 eM22 H locs hP hS => ?_)
          have hk := hk M22 eM22
          refine lv_iconst (v := 0) hx hb d_Model_visit_65 (by decide) ?_
          exact r_zret rfl C hr hlocks hP hS hk d_Model_visit_66
    · have hk := hk.2 c8
      refine lv_iconst (v := 0) hx hb d_Model_visit_13 (by decide) ?_
      exact r_zret rfl C hr hlocks hP hS hk d_Model_visit_14
  · intro x2 x3 x5 M hk
    refine (eX80 x2 x3 x5 M).mpr ?_
    intro H locs ls hP hS hl
    unfold wp_Model_visit_80 at hk
    refine lv_iload hx hb d_Model_visit_80 (lv_at hl 3 rfl) ?_
    refine lv_aload_n hx hb d_Model_visit_82 rfl (lv_at hl 0 rfl) ?_
    refine gf_29_6 C hW hP fl_Model_74 d_Model_visit_83 ?_
    refine lv_icmp_ge (tgt := 123) hx hb d_Model_visit_86 (by decide) (fun c1 => ?_) (fun c1 => ?_)
    · have hk := hk.1 c1
      refine lv_iconst (v := 1) hx hb d_Model_visit_123 (by decide) ?_
      exact r_zret rfl C hr hlocks hP hS hk d_Model_visit_124
    · have hk := hk.2 c1
      refine lv_aload_n hx hb d_Model_visit_89 rfl (lv_at hl 0 rfl) ?_
      refine gf_29_19 C hW hP fl_Model_44 d_Model_visit_90 ?_
      refine lv_iload hx hb d_Model_visit_93 (lv_at hl 3 rfl) ?_
      refine lv_iload_n hx hb d_Model_visit_95 rfl (lv_at hl 2 rfl) ?_
      refine lv_iload hx hb d_Model_visit_96 (lv_at hl 3 rfl) ?_
      refine lv_ishr hx hb d_Model_visit_98 ?_
      refine lv_iconst (v := 1) hx hb d_Model_visit_99 (by decide) ?_
      refine lv_iand hx hb d_Model_visit_100 ?_
      refine lv_iconst (v := 1) hx hb d_Model_visit_101 (by decide) ?_
      refine lv_icmp_ne (tgt := 109) hx hb d_Model_visit_102 (by decide) (fun c2 => ?_) (fun c2 => ?_)
      · have hk := hk.1 c2
        refine lv_aload_n hx hb d_Model_visit_109 rfl (lv_at hl 0 rfl) ?_
        refine gf_29_19 C hW hP fl_Model_44 d_Model_visit_110 ?_
        refine lv_iload hx hb d_Model_visit_113 (lv_at hl 3 rfl) ?_
        obtain ⟨h3, hk⟩ := hk
        refine al_40 C hW hP h3 d_Model_visit_115 ?_
        exact J116 x2 x3 x5 x5 (M 40 x5.toNatClampNeg) M hk _ _ _ hP hS (lv_sub hl [0, 1, 2, 3] rfl)
      · have hk := hk.2 c2
        refine lv_iload_n hx hb d_Model_visit_105 rfl (lv_at hl 1 rfl) ?_
        refine lv_goto (tgt := 116) hx hb d_Model_visit_106 (by decide) ?_
        exact J116 x2 x3 x5 x5 x2 M hk _ _ _ hP hS (lv_sub hl [0, 1, 2, 3] rfl)
