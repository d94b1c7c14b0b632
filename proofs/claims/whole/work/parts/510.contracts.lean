theorem d_Model_copy_0 : decode b_Model_copy 0 = .ok (.aload_n 0, 1) := by decide +kernel
theorem d_Model_copy_1 : decode b_Model_copy 1 = .ok (.iconst 0, 1) := by decide +kernel
theorem d_Model_copy_2 : decode b_Model_copy 2 = .ok (.putfield 62, 3) := by decide +kernel
theorem d_Model_copy_5 : decode b_Model_copy 5 = .ok (.iload_n 1, 1) := by decide +kernel
theorem d_Model_copy_6 : decode b_Model_copy 6 = .ok (.invokestatic 80, 3) := by decide +kernel
theorem d_Model_copy_9 : decode b_Model_copy 9 = .ok (.ifCond .eq 10, 3) := by decide +kernel
theorem d_Model_copy_12 : decode b_Model_copy 12 = .ok (.iload_n 3, 1) := by decide +kernel
theorem d_Model_copy_13 : decode b_Model_copy 13 = .ok (.invokestatic 80, 3) := by decide +kernel
theorem d_Model_copy_16 : decode b_Model_copy 16 = .ok (.ifCond .ne 5, 3) := by decide +kernel
theorem d_Model_copy_19 : decode b_Model_copy 19 = .ok (.iconst (-1), 1) := by decide +kernel
theorem d_Model_copy_20 : decode b_Model_copy 20 = .ok (.ireturn, 1) := by decide +kernel
theorem d_Model_copy_21 : decode b_Model_copy 21 = .ok (.aload_n 0, 1) := by decide +kernel
theorem d_Model_copy_22 : decode b_Model_copy 22 = .ok (.getfield 9, 3) := by decide +kernel
theorem d_Model_copy_25 : decode b_Model_copy 25 = .ok (.iload_n 1, 1) := by decide +kernel
theorem d_Model_copy_26 : decode b_Model_copy 26 = .ok (.iaload, 1) := by decide +kernel
theorem d_Model_copy_27 : decode b_Model_copy 27 = .ok (.bipush (-9), 2) := by decide +kernel
theorem d_Model_copy_29 : decode b_Model_copy 29 = .ok (.if_icmp .eq 14, 3) := by decide +kernel
theorem d_Model_copy_32 : decode b_Model_copy 32 = .ok (.aload_n 0, 1) := by decide +kernel
theorem d_Model_copy_33 : decode b_Model_copy 33 = .ok (.getfield 9, 3) := by decide +kernel
theorem d_Model_copy_36 : decode b_Model_copy 36 = .ok (.iload_n 3, 1) := by decide +kernel
theorem d_Model_copy_37 : decode b_Model_copy 37 = .ok (.iaload, 1) := by decide +kernel
theorem d_Model_copy_38 : decode b_Model_copy 38 = .ok (.bipush (-9), 2) := by decide +kernel
theorem d_Model_copy_40 : decode b_Model_copy 40 = .ok (.if_icmp .ne 9, 3) := by decide +kernel
theorem d_Model_copy_43 : decode b_Model_copy 43 = .ok (.aload_n 0, 1) := by decide +kernel
theorem d_Model_copy_44 : decode b_Model_copy 44 = .ok (.iconst 1, 1) := by decide +kernel
theorem d_Model_copy_45 : decode b_Model_copy 45 = .ok (.invokevirtual 91, 3) := by decide +kernel
theorem d_Model_copy_48 : decode b_Model_copy 48 = .ok (.ireturn, 1) := by decide +kernel
theorem d_Model_copy_49 : decode b_Model_copy 49 = .ok (.aload_n 0, 1) := by decide +kernel
theorem d_Model_copy_50 : decode b_Model_copy 50 = .ok (.getfield 9, 3) := by decide +kernel
theorem d_Model_copy_53 : decode b_Model_copy 53 = .ok (.iload_n 1, 1) := by decide +kernel
theorem d_Model_copy_54 : decode b_Model_copy 54 = .ok (.iaload, 1) := by decide +kernel
theorem d_Model_copy_55 : decode b_Model_copy 55 = .ok (.aload_n 0, 1) := by decide +kernel
theorem d_Model_copy_56 : decode b_Model_copy 56 = .ok (.getfield 9, 3) := by decide +kernel
theorem d_Model_copy_59 : decode b_Model_copy 59 = .ok (.iload_n 3, 1) := by decide +kernel
theorem d_Model_copy_60 : decode b_Model_copy 60 = .ok (.iaload, 1) := by decide +kernel
theorem d_Model_copy_61 : decode b_Model_copy 61 = .ok (.if_icmp .eq 9, 3) := by decide +kernel
theorem d_Model_copy_64 : decode b_Model_copy 64 = .ok (.aload_n 0, 1) := by decide +kernel
theorem d_Model_copy_65 : decode b_Model_copy 65 = .ok (.iconst 2, 1) := by decide +kernel
theorem d_Model_copy_66 : decode b_Model_copy 66 = .ok (.invokevirtual 91, 3) := by decide +kernel
theorem d_Model_copy_69 : decode b_Model_copy 69 = .ok (.ireturn, 1) := by decide +kernel
theorem d_Model_copy_70 : decode b_Model_copy 70 = .ok (.iload_n 2, 1) := by decide +kernel
theorem d_Model_copy_71 : decode b_Model_copy 71 = .ok (.ifCond .lt 38, 3) := by decide +kernel
theorem d_Model_copy_74 : decode b_Model_copy 74 = .ok (.iload 4, 2) := by decide +kernel
theorem d_Model_copy_76 : decode b_Model_copy 76 = .ok (.ifCond .lt 33, 3) := by decide +kernel
theorem d_Model_copy_79 : decode b_Model_copy 79 = .ok (.iload 5, 2) := by decide +kernel
theorem d_Model_copy_81 : decode b_Model_copy 81 = .ok (.ifCond .lt 28, 3) := by decide +kernel
theorem d_Model_copy_84 : decode b_Model_copy 84 = .ok (.iload_n 2, 1) := by decide +kernel
theorem d_Model_copy_85 : decode b_Model_copy 85 = .ok (.aload_n 0, 1) := by decide +kernel
theorem d_Model_copy_86 : decode b_Model_copy 86 = .ok (.getfield 13, 3) := by decide +kernel
theorem d_Model_copy_89 : decode b_Model_copy 89 = .ok (.iload_n 1, 1) := by decide +kernel
theorem d_Model_copy_90 : decode b_Model_copy 90 = .ok (.iaload, 1) := by decide +kernel
theorem d_Model_copy_91 : decode b_Model_copy 91 = .ok (.if_icmp .gt 18, 3) := by decide +kernel
theorem d_Model_copy_94 : decode b_Model_copy 94 = .ok (.iload 4, 2) := by decide +kernel
theorem d_Model_copy_96 : decode b_Model_copy 96 = .ok (.aload_n 0, 1) := by decide +kernel
theorem d_Model_copy_97 : decode b_Model_copy 97 = .ok (.getfield 13, 3) := by decide +kernel
theorem d_Model_copy_100 : decode b_Model_copy 100 = .ok (.iload_n 3, 1) := by decide +kernel
theorem d_Model_copy_101 : decode b_Model_copy 101 = .ok (.iaload, 1) := by decide +kernel
theorem d_Model_copy_102 : decode b_Model_copy 102 = .ok (.if_icmp .gt 7, 3) := by decide +kernel
theorem d_Model_copy_105 : decode b_Model_copy 105 = .ok (.iconst 1, 1) := by decide +kernel
theorem d_Model_copy_106 : decode b_Model_copy 106 = .ok (.goto 4, 3) := by decide +kernel
theorem d_Model_copy_109 : decode b_Model_copy 109 = .ok (.iconst 0, 1) := by decide +kernel
theorem d_Model_copy_110 : decode b_Model_copy 110 = .ok (.istore 6, 2) := by decide +kernel
theorem d_Model_copy_112 : decode b_Model_copy 112 = .ok (.iload 6, 2) := by decide +kernel
theorem d_Model_copy_114 : decode b_Model_copy 114 = .ok (.ifCond .eq 30, 3) := by decide +kernel
theorem d_Model_copy_117 : decode b_Model_copy 117 = .ok (.iload 5, 2) := by decide +kernel
theorem d_Model_copy_119 : decode b_Model_copy 119 = .ok (.aload_n 0, 1) := by decide +kernel
theorem d_Model_copy_120 : decode b_Model_copy 120 = .ok (.getfield 13, 3) := by decide +kernel
theorem d_Model_copy_123 : decode b_Model_copy 123 = .ok (.iload_n 1, 1) := by decide +kernel
theorem d_Model_copy_124 : decode b_Model_copy 124 = .ok (.iaload, 1) := by decide +kernel
theorem d_Model_copy_125 : decode b_Model_copy 125 = .ok (.iload_n 2, 1) := by decide +kernel
theorem d_Model_copy_126 : decode b_Model_copy 126 = .ok (.isub, 1) := by decide +kernel
theorem d_Model_copy_127 : decode b_Model_copy 127 = .ok (.if_icmp .gt 17, 3) := by decide +kernel
theorem d_Model_copy_130 : decode b_Model_copy 130 = .ok (.iload 5, 2) := by decide +kernel
theorem d_Model_copy_132 : decode b_Model_copy 132 = .ok (.aload_n 0, 1) := by decide +kernel
theorem d_Model_copy_133 : decode b_Model_copy 133 = .ok (.getfield 13, 3) := by decide +kernel
theorem d_Model_copy_136 : decode b_Model_copy 136 = .ok (.iload_n 3, 1) := by decide +kernel
theorem d_Model_copy_137 : decode b_Model_copy 137 = .ok (.iaload, 1) := by decide +kernel
theorem d_Model_copy_138 : decode b_Model_copy 138 = .ok (.iload 4, 2) := by decide +kernel
theorem d_Model_copy_140 : decode b_Model_copy 140 = .ok (.isub, 1) := by decide +kernel
theorem d_Model_copy_141 : decode b_Model_copy 141 = .ok (.if_icmp .le 9, 3) := by decide +kernel
theorem d_Model_copy_144 : decode b_Model_copy 144 = .ok (.aload_n 0, 1) := by decide +kernel
theorem d_Model_copy_145 : decode b_Model_copy 145 = .ok (.iconst 3, 1) := by decide +kernel
theorem d_Model_copy_146 : decode b_Model_copy 146 = .ok (.invokevirtual 91, 3) := by decide +kernel
theorem d_Model_copy_149 : decode b_Model_copy 149 = .ok (.ireturn, 1) := by decide +kernel
theorem d_Model_copy_150 : decode b_Model_copy 150 = .ok (.iload_n 2, 1) := by decide +kernel
theorem d_Model_copy_151 : decode b_Model_copy 151 = .ok (.iload 4, 2) := by decide +kernel
theorem d_Model_copy_153 : decode b_Model_copy 153 = .ok (.if_icmp .ge 7, 3) := by decide +kernel
theorem d_Model_copy_156 : decode b_Model_copy 156 = .ok (.iconst 1, 1) := by decide +kernel
theorem d_Model_copy_157 : decode b_Model_copy 157 = .ok (.goto 4, 3) := by decide +kernel
theorem d_Model_copy_160 : decode b_Model_copy 160 = .ok (.iconst 0, 1) := by decide +kernel
theorem d_Model_copy_161 : decode b_Model_copy 161 = .ok (.istore 7, 2) := by decide +kernel
theorem d_Model_copy_163 : decode b_Model_copy 163 = .ok (.iconst 0, 1) := by decide +kernel
theorem d_Model_copy_164 : decode b_Model_copy 164 = .ok (.istore 8, 2) := by decide +kernel
theorem d_Model_copy_166 : decode b_Model_copy 166 = .ok (.iload 8, 2) := by decide +kernel
theorem d_Model_copy_168 : decode b_Model_copy 168 = .ok (.iload 5, 2) := by decide +kernel
theorem d_Model_copy_170 : decode b_Model_copy 170 = .ok (.if_icmp .ge 57, 3) := by decide +kernel
theorem d_Model_copy_173 : decode b_Model_copy 173 = .ok (.iload 7, 2) := by decide +kernel
theorem d_Model_copy_175 : decode b_Model_copy 175 = .ok (.ifCond .eq 13, 3) := by decide +kernel
theorem d_Model_copy_178 : decode b_Model_copy 178 = .ok (.iload 5, 2) := by decide +kernel
theorem d_Model_copy_180 : decode b_Model_copy 180 = .ok (.iconst 1, 1) := by decide +kernel
theorem d_Model_copy_181 : decode b_Model_copy 181 = .ok (.isub, 1) := by decide +kernel
theorem d_Model_copy_182 : decode b_Model_copy 182 = .ok (.iload 8, 2) := by decide +kernel
theorem d_Model_copy_184 : decode b_Model_copy 184 = .ok (.isub, 1) := by decide +kernel
theorem d_Model_copy_185 : decode b_Model_copy 185 = .ok (.goto 5, 3) := by decide +kernel
theorem d_Model_copy_188 : decode b_Model_copy 188 = .ok (.iload 8, 2) := by decide +kernel
theorem d_Model_copy_190 : decode b_Model_copy 190 = .ok (.istore 9, 2) := by decide +kernel
theorem d_Model_copy_192 : decode b_Model_copy 192 = .ok (.aload_n 0, 1) := by decide +kernel
theorem d_Model_copy_193 : decode b_Model_copy 193 = .ok (.getfield 16, 3) := by decide +kernel
theorem d_Model_copy_196 : decode b_Model_copy 196 = .ok (.bipush 60, 2) := by decide +kernel
theorem d_Model_copy_198 : decode b_Model_copy 198 = .ok (.iload_n 3, 1) := by decide +kernel
theorem d_Model_copy_199 : decode b_Model_copy 199 = .ok (.imul, 1) := by decide +kernel
theorem d_Model_copy_200 : decode b_Model_copy 200 = .ok (.iload 4, 2) := by decide +kernel
theorem d_Model_copy_202 : decode b_Model_copy 202 = .ok (.iadd, 1) := by decide +kernel
theorem d_Model_copy_203 : decode b_Model_copy 203 = .ok (.iload 9, 2) := by decide +kernel
theorem d_Model_copy_205 : decode b_Model_copy 205 = .ok (.iadd, 1) := by decide +kernel
theorem d_Model_copy_206 : decode b_Model_copy 206 = .ok (.aload_n 0, 1) := by decide +kernel
theorem d_Model_copy_207 : decode b_Model_copy 207 = .ok (.getfield 16, 3) := by decide +kernel
theorem d_Model_copy_210 : decode b_Model_copy 210 = .ok (.bipush 60, 2) := by decide +kernel
theorem d_Model_copy_212 : decode b_Model_copy 212 = .ok (.iload_n 1, 1) := by decide +kernel
theorem d_Model_copy_213 : decode b_Model_copy 213 = .ok (.imul, 1) := by decide +kernel
theorem d_Model_copy_214 : decode b_Model_copy 214 = .ok (.iload_n 2, 1) := by decide +kernel
theorem d_Model_copy_215 : decode b_Model_copy 215 = .ok (.iadd, 1) := by decide +kernel
theorem d_Model_copy_216 : decode b_Model_copy 216 = .ok (.iload 9, 2) := by decide +kernel
theorem d_Model_copy_218 : decode b_Model_copy 218 = .ok (.iadd, 1) := by decide +kernel
theorem d_Model_copy_219 : decode b_Model_copy 219 = .ok (.iaload, 1) := by decide +kernel
theorem d_Model_copy_220 : decode b_Model_copy 220 = .ok (.iastore, 1) := by decide +kernel
theorem d_Model_copy_221 : decode b_Model_copy 221 = .ok (.iinc 8 1, 3) := by decide +kernel
theorem d_Model_copy_224 : decode b_Model_copy 224 = .ok (.goto (-58), 3) := by decide +kernel
theorem d_Model_copy_227 : decode b_Model_copy 227 = .ok (.iload 5, 2) := by decide +kernel
theorem d_Model_copy_229 : decode b_Model_copy 229 = .ok (.ireturn, 1) := by decide +kernel
set_option maxRecDepth 20000 in
theorem c_Model_copy {l : Launch} {g : GG} (hI : WI g) (a1 : Int32) (a2 : Int32) (a3 : Int32) (a4 : Int32) (a5 : Int32) (M : Mem) (R : Int32 → Mem → Prop) (h : wp_Model_copy a1 a2 a3 a4 a5 M R) : Met l y_Model_copy (wm y_Model_copy b_Model_copy 10 (some .int)) (RM 2 42) (PP g M [.ref (g.2.2.2 29), .int a1, .int a2, .int a3, .int a4, .int a5]) (PQ g (RI R)) 0 0 (AW g) := by
  refine m_of (own := N_Model) (by decide) rfl (Nat.le_of_ble_eq_true rfl) ?_
  intro p e s m below meth c ls C hr hlocks hW hP hS hl
  obtain ⟨hx, hb, hml, hown, hts⟩ := id C
  have hl : lv_has ls 10 [(0, .ref (g.2.2.2 29)), (1, .int a1), (2, .int a2), (3, .int a3), (4, .int a4), (5, .int a5)] := hl
  unfold wp_Model_copy at h
  obtain ⟨X166, eX166⟩ : ∃ X : Int32 → Int32 → Int32 → Int32 → Int32 → Int32 → Int32 → Mem → Prop, ∀ (x1 : Int32) (x2 : Int32) (x3 : Int32) (x4 : Int32) (x5 : Int32) (x7 : Int32) (x8 : Int32) (M : Mem), X x1 x2 x3 x4 x5 x7 x8 M ↔ (∀ (H : Heap) (locs : List Loc) (ls : Array Slot), WP g M H → va_S (AW g) s.heap H locs → lv_has ls 10 [(0, .ref (g.2.2.2 29)), (1, .int x1), (2, .int x2), (3, .int x3), (4, .int x4), (5, .int x5), (7, .int x7), (8, .int x8)] → W p l e (RM 2 42) s m ([.ref (g.2.2.2 29), .int a1, .int a2, .int a3, .int a4, .int a5] : List Value).toArray below meth c H locs 0 0 (MQ below (PQ g (RI R)) ([.ref (g.2.2.2 29), .int a1, .int a2, .int a3, .int a4, .int a5] : List Value).toArray s 0 0 (AW g)) (F0 m 166 ls [])) := ⟨fun x1 x2 x3 x4 x5 x7 x8 M => _, fun _ _ _ _ _ _ _ _ => Iff.rfl⟩
  have J190 : ∀ (x1 : Int32) (x2 : Int32) (x3 : Int32) (x4 : Int32) (x5 : Int32) (x7 : Int32) (x8 : Int32) (s0 : Int32) (M : Mem), wp_Model_copy_190 X166 R x1 x2 x3 x4 x5 x7 x8 s0 M → ∀ (H : Heap) (locs : List Loc) (ls : Array Slot), WP g M H → va_S (AW g) s.heap H locs → lv_has ls 10 [(0, .ref (g.2.2.2 29)), (1, .int x1), (2, .int x2), (3, .int x3), (4, .int x4), (5, .int x5), (7, .int x7), (8, .int x8)] → W p l e (RM 2 42) s m ([.ref (g.2.2.2 29), .int a1, .int a2, .int a3, .int a4, .int a5] : List Value).toArray below meth c H locs 0 0 (MQ below (PQ g (RI R)) ([.ref (g.2.2.2 29), .int a1, .int a2, .int a3, .int a4, .int a5] : List Value).toArray s 0 0 (AW g)) (F0 m 190 ls [.int s0]) := by
    intro x1 x2 x3 x4 x5 x7 x8 s0 M hk H locs ls hP hS hl
    unfold wp_Model_copy_190 at hk
    refine lv_istore (lv' := [(9, .int s0), (0, .ref (g.2.2.2 29)), (1, .int x1), (2, .int x2), (3, .int x3), (4, .int x4), (5, .int x5), (7, .int x7), (8, .int x8)]) hx hb d_Model_copy_190 hl (by decide) rfl (fun ls hl => ?_)
    refine lv_aload_n hx hb d_Model_copy_192 rfl (lv_at hl 1 rfl) ?_
    refine gf_29_4 C hW hP fl_Model_16 d_Model_copy_193 ?_
    refine lv_bipush (v := 60) hx hb d_Model_copy_196 (by decide) ?_
    refine lv_iload_n hx hb d_Model_copy_198 rfl (lv_at hl 4 rfl) ?_
    refine lv_imul hx hb d_Model_copy_199 ?_
    refine lv_iload hx hb d_Model_copy_200 (lv_at hl 5 rfl) ?_
    refine lv_iadd hx hb d_Model_copy_202 ?_
    refine lv_iload hx hb d_Model_copy_203 (lv_at hl 0 rfl) ?_
    refine lv_iadd hx hb d_Model_copy_205 ?_
    refine lv_aload_n hx hb d_Model_copy_206 rfl (lv_at hl 1 rfl) ?_
    refine gf_29_4 C hW hP fl_Model_16 d_Model_copy_207 ?_
    refine lv_bipush (v := 60) hx hb d_Model_copy_210 (by decide) ?_
    refine lv_iload_n hx hb d_Model_copy_212 rfl (lv_at hl 2 rfl) ?_
    refine lv_imul hx hb d_Model_copy_213 ?_
    refine lv_iload_n hx hb d_Model_copy_214 rfl (lv_at hl 3 rfl) ?_
    refine lv_iadd hx hb d_Model_copy_215 ?_
    refine lv_iload hx hb d_Model_copy_216 (lv_at hl 0 rfl) ?_
    refine lv_iadd hx hb d_Model_copy_218 ?_
    obtain ⟨h13, hk⟩ := hk
    refine al_32 C hW hP h13 d_Model_copy_219 ?_
    obtain ⟨h14, hk⟩ := hk
    refine as_32 hI C hW hP hS h14 d_Model_copy_220 (fun M15 eM15 H locs hP hS => ?_)
    have hk := hk M15 eM15
    obtain ⟨x8_16, ex8_16⟩ : ∃ y : Int32, y = x8 + (1 : Int32) := ⟨_, rfl⟩
    have hk := hk x8_16 ex8_16
    refine lv_iinc (v := x8_16) (lv' := [(8, .int x8_16), (9, .int s0), (0, .ref (g.2.2.2 29)), (1, .int x1), (2, .int x2), (3, .int x3), (4, .int x4), (5, .int x5), (7, .int x7)]) hx hb d_Model_copy_221 hl (k := 8) rfl (by rw [ex8_16]; rfl) (by decide) rfl (fun ls hl => ?_)
    refine lv_goto (tgt := 166) hx hb d_Model_copy_224 (by decide) ?_
    exact (eX166 x1 x2 x3 x4 x5 x7 x8_16 M15).mp hk _ _ _ hP hS (lv_sub hl [2, 3, 4, 5, 6, 7, 8, 0] rfl)
  have J161 : ∀ (x1 : Int32) (x2 : Int32) (x3 : Int32) (x4 : Int32) (x5 : Int32) (s0 : Int32) (M : Mem), wp_Model_copy_161 X166 R x1 x2 x3 x4 x5 s0 M → ∀ (H : Heap) (locs : List Loc) (ls : Array Slot), WP g M H → va_S (AW g) s.heap H locs → lv_has ls 10 [(0, .ref (g.2.2.2 29)), (1, .int x1), (2, .int x2), (3, .int x3), (4, .int x4), (5, .int x5)] → W p l e (RM 2 42) s m ([.ref (g.2.2.2 29), .int a1, .int a2, .int a3, .int a4, .int a5] : List Value).toArray below meth c H locs 0 0 (MQ below (PQ g (RI R)) ([.ref (g.2.2.2 29), .int a1, .int a2, .int a3, .int a4, .int a5] : List Value).toArray s 0 0 (AW g)) (F0 m 161 ls [.int s0]) := by
    intro x1 x2 x3 x4 x5 s0 M hk H locs ls hP hS hl
    unfold wp_Model_copy_161 at hk
    refine lv_istore (lv' := [(7, .int s0), (0, .ref (g.2.2.2 29)), (1, .int x1), (2, .int x2), (3, .int x3), (4, .int x4), (5, .int x5)]) hx hb d_Model_copy_161 hl (by decide) rfl (fun ls hl => ?_)
    refine lv_iconst (v := 0) hx hb d_Model_copy_163 (by decide) ?_
    refine lv_istore (lv' := [(8, .int (0 : Int32)), (7, .int s0), (0, .ref (g.2.2.2 29)), (1, .int x1), (2, .int x2), (3, .int x3), (4, .int x4), (5, .int x5)]) hx hb d_Model_copy_164 hl (by decide) rfl (fun ls hl => ?_)
    exact (eX166 x1 x2 x3 x4 x5 s0 (0 : Int32) M).mp hk _ _ _ hP hS (lv_sub hl [2, 3, 4, 5, 6, 7, 1, 0] rfl)
  have J144 : ∀ (M : Mem), wp_Model_copy_144 X166 R  M → ∀ (H : Heap) (locs : List Loc) (ls : Array Slot), WP g M H → va_S (AW g) s.heap H locs → lv_has ls 10 [(0, .ref (g.2.2.2 29))] → W p l e (RM 2 42) s m ([.ref (g.2.2.2 29), .int a1, .int a2, .int a3, .int a4, .int a5] : List Value).toArray below meth c H locs 0 0 (MQ below (PQ g (RI R)) ([.ref (g.2.2.2 29), .int a1, .int a2, .int a3, .int a4, .int a5] : List Value).toArray s 0 0 (AW g)) (F0 m 144 ls []) := by
    intro  M hk H locs ls hP hS hl
    unfold wp_Model_copy_144 at hk
    refine lv_aload_n hx hb d_Model_copy_144 rfl (lv_at hl 0 rfl) ?_
    refine lv_iconst (v := 3) hx hb d_Model_copy_145 (by decide) ?_
    refine r_runI (k_V (As := [.int (3 : Int32)]) (rest := []) C hW hP (c_Model_fails hI (3 : Int32) M _ hk) cb_Model_fails ml_Model_91 (io_29 g M) ⟨by decide, by decide⟩ rfl hl.1 rfl (Nat.le_of_ble_eq_true rfl) d_Model_copy_146 ⟨by decide, by decide⟩) hS (fun r10 M9 H locs hk hP hS => ?_)
    exact r_iret C hr hlocks hP hS hk d_Model_copy_149
  have J110 : ∀ (x1 : Int32) (x2 : Int32) (x3 : Int32) (x4 : Int32) (x5 : Int32) (s0 : Int32) (M : Mem), wp_Model_copy_110 X166 R x1 x2 x3 x4 x5 s0 M → ∀ (H : Heap) (locs : List Loc) (ls : Array Slot), WP g M H → va_S (AW g) s.heap H locs → lv_has ls 10 [(0, .ref (g.2.2.2 29)), (1, .int x1), (2, .int x2), (3, .int x3), (4, .int x4), (5, .int x5)] → W p l e (RM 2 42) s m ([.ref (g.2.2.2 29), .int a1, .int a2, .int a3, .int a4, .int a5] : List Value).toArray below meth c H locs 0 0 (MQ below (PQ g (RI R)) ([.ref (g.2.2.2 29), .int a1, .int a2, .int a3, .int a4, .int a5] : List Value).toArray s 0 0 (AW g)) (F0 m 110 ls [.int s0]) := by
    intro x1 x2 x3 x4 x5 s0 M hk H locs ls hP hS hl
    unfold wp_Model_copy_110 at hk
    refine lv_istore (lv' := [(6, .int s0), (0, .ref (g.2.2.2 29)), (1, .int x1), (2, .int x2), (3, .int x3), (4, .int x4), (5, .int x5)]) hx hb d_Model_copy_110 hl (by decide) rfl (fun ls hl => ?_)
    refine lv_iload hx hb d_Model_copy_112 (lv_at hl 0 rfl) ?_
    refine lv_if_eq (tgt := 144) hx hb d_Model_copy_114 (by decide) (fun c3 => ?_) (fun c3 => ?_)
    · have hk := hk.1 c3
      exact J144 M hk _ _ _ hP hS (lv_sub hl [1] rfl)
    · have hk := hk.2 c3
      refine lv_iload hx hb d_Model_copy_117 (lv_at hl 6 rfl) ?_
      refine lv_aload_n hx hb d_Model_copy_119 rfl (lv_at hl 1 rfl) ?_
      refine gf_29_3 C hW hP fl_Model_13 d_Model_copy_120 ?_
      refine lv_iload_n hx hb d_Model_copy_123 rfl (lv_at hl 2 rfl) ?_
      obtain ⟨h4, hk⟩ := hk
      refine al_31 C hW hP h4 d_Model_copy_124 ?_
      refine lv_iload_n hx hb d_Model_copy_125 rfl (lv_at hl 3 rfl) ?_
      refine lv_isub hx hb d_Model_copy_126 ?_
      refine lv_icmp_gt (tgt := 144) hx hb d_Model_copy_127 (by decide) (fun c5 => ?_) (fun c5 => ?_)
      · have hk := hk.1 c5
        exact J144 M hk _ _ _ hP hS (lv_sub hl [1] rfl)
      · have hk := hk.2 c5
        refine lv_iload hx hb d_Model_copy_130 (lv_at hl 6 rfl) ?_
        refine lv_aload_n hx hb d_Model_copy_132 rfl (lv_at hl 1 rfl) ?_
        refine gf_29_3 C hW hP fl_Model_13 d_Model_copy_133 ?_
        refine lv_iload_n hx hb d_Model_copy_136 rfl (lv_at hl 4 rfl) ?_
        obtain ⟨h6, hk⟩ := hk
        refine al_31 C hW hP h6 d_Model_copy_137 ?_
        refine lv_iload hx hb d_Model_copy_138 (lv_at hl 5 rfl) ?_
        refine lv_isub hx hb d_Model_copy_140 ?_
        refine lv_icmp_le (tgt := 150) hx hb d_Model_copy_141 (by decide) (fun c7 => ?_) (fun c7 => ?_)
        · have hk := hk.1 c7
          refine lv_iload_n hx hb d_Model_copy_150 rfl (lv_at hl 3 rfl) ?_
          refine lv_iload hx hb d_Model_copy_151 (lv_at hl 5 rfl) ?_
          refine lv_icmp_ge (tgt := 160) hx hb d_Model_copy_153 (by decide) (fun c8 => ?_) (fun c8 => ?_)
          · have hk := hk.1 c8
            refine lv_iconst (v := 0) hx hb d_Model_copy_160 (by decide) ?_
            exact J161 x1 x2 x3 x4 x5 (0 : Int32) M hk _ _ _ hP hS (lv_sub hl [1, 2, 3, 4, 5, 6] rfl)
          · have hk := hk.2 c8
            refine lv_iconst (v := 1) hx hb d_Model_copy_156 (by decide) ?_
            refine lv_goto (tgt := 161) hx hb d_Model_copy_157 (by decide) ?_
            exact J161 x1 x2 x3 x4 x5 (1 : Int32) M hk _ _ _ hP hS (lv_sub hl [1, 2, 3, 4, 5, 6] rfl)
        · have hk := hk.2 c7
          exact J144 M hk _ _ _ hP hS (lv_sub hl [1] rfl)
  have J109 : ∀ (x1 : Int32) (x2 : Int32) (x3 : Int32) (x4 : Int32) (x5 : Int32) (M : Mem), wp_Model_copy_109 X166 R x1 x2 x3 x4 x5 M → ∀ (H : Heap) (locs : List Loc) (ls : Array Slot), WP g M H → va_S (AW g) s.heap H locs → lv_has ls 10 [(0, .ref (g.2.2.2 29)), (1, .int x1), (2, .int x2), (3, .int x3), (4, .int x4), (5, .int x5)] → W p l e (RM 2 42) s m ([.ref (g.2.2.2 29), .int a1, .int a2, .int a3, .int a4, .int a5] : List Value).toArray below meth c H locs 0 0 (MQ below (PQ g (RI R)) ([.ref (g.2.2.2 29), .int a1, .int a2, .int a3, .int a4, .int a5] : List Value).toArray s 0 0 (AW g)) (F0 m 109 ls []) := by
    intro x1 x2 x3 x4 x5 M hk H locs ls hP hS hl
    unfold wp_Model_copy_109 at hk
    refine lv_iconst (v := 0) hx hb d_Model_copy_109 (by decide) ?_
    exact J110 x1 x2 x3 x4 x5 (0 : Int32) M hk _ _ _ hP hS (lv_sub hl [0, 1, 2, 3, 4, 5] rfl)
  have J43 : ∀ (M : Mem), wp_Model_copy_43 X166 R  M → ∀ (H : Heap) (locs : List Loc) (ls : Array Slot), WP g M H → va_S (AW g) s.heap H locs → lv_has ls 10 [(0, .ref (g.2.2.2 29))] → W p l e (RM 2 42) s m ([.ref (g.2.2.2 29), .int a1, .int a2, .int a3, .int a4, .int a5] : List Value).toArray below meth c H locs 0 0 (MQ below (PQ g (RI R)) ([.ref (g.2.2.2 29), .int a1, .int a2, .int a3, .int a4, .int a5] : List Value).toArray s 0 0 (AW g)) (F0 m 43 ls []) := by
    intro  M hk H locs ls hP hS hl
    unfold wp_Model_copy_43 at hk
    refine lv_aload_n hx hb d_Model_copy_43 rfl (lv_at hl 0 rfl) ?_
    refine lv_iconst (v := 1) hx hb d_Model_copy_44 (by decide) ?_
    refine r_runI (k_V (As := [.int (1 : Int32)]) (rest := []) C hW hP (c_Model_fails hI (1 : Int32) M _ hk) cb_Model_fails ml_Model_91 (io_29 g M) ⟨by decide, by decide⟩ rfl hl.1 rfl (Nat.le_of_ble_eq_true rfl) d_Model_copy_45 ⟨by decide, by decide⟩) hS (fun r2 M1 H locs hk hP hS => ?_)
    exact r_iret C hr hlocks hP hS hk d_Model_copy_48
  suffices hcl : (∀ (x1 : Int32) (x2 : Int32) (x3 : Int32) (x4 : Int32) (x5 : Int32) (x7 : Int32) (x8 : Int32) (M : Mem), wp_Model_copy_166 X166 R x1 x2 x3 x4 x5 x7 x8 M → X166 x1 x2 x3 x4 x5 x7 x8 M) by
    have hk := h X166 hcl
    refine lv_aload_n hx hb d_Model_copy_0 rfl (lv_at hl 0 rfl) ?_
    refine lv_iconst (v := 0) hx hb d_Model_copy_1 (by decide) ?_
    refine pf_29_0 hI C hW hP hS fl_Model_62 d_Model_copy_2 (fun M17 eM17 H locs hP hS => ?_)
    have hk := hk M17 eM17
    refine lv_iload_n hx hb d_Model_copy_5 rfl (lv_at hl 1 rfl) ?_
    refine r_runZ (k_S (As := [.int a1]) (rest := []) C hW hP (c_Model_isSheet hI a1 M17 _ hk) cb_Model_isSheet ml_Model_80 ⟨by decide, by decide⟩ rfl hl.1 rfl (Nat.le_of_ble_eq_true rfl) d_Model_copy_6 ⟨by decide, by decide⟩) hS (fun r19 M18 H locs zr19 hk hP hS => ?_)
    refine lv_if_eq (tgt := 19) hx hb d_Model_copy_9 (by decide) (fun c20 => ?_) (fun c20 => ?_)
    · have hk := hk.1 c20
      refine lv_iconst (v := -1) hx hb d_Model_copy_19 (by decide) ?_
      exact r_iret C hr hlocks hP hS hk d_Model_copy_20
    · have hk := hk.2 c20
      refine lv_iload_n hx hb d_Model_copy_12 rfl (lv_at hl 3 rfl) ?_
      refine r_runZ (k_S (As := [.int a3]) (rest := []) C hW hP (c_Model_isSheet hI a3 M18 _ hk) cb_Model_isSheet ml_Model_80 ⟨by decide, by decide⟩ rfl hl.1 rfl (Nat.le_of_ble_eq_true rfl) d_Model_copy_13 ⟨by decide, by decide⟩) hS (fun r22 M21 H locs zr22 hk hP hS => ?_)
      refine lv_if_ne (tgt := 21) hx hb d_Model_copy_16 (by decide) (fun c23 => ?_) (fun c23 => ?_)
      · have hk := hk.1 c23
        refine lv_aload_n hx hb d_Model_copy_21 rfl (lv_at hl 0 rfl) ?_
        refine gf_29_2 C hW hP fl_Model_9 d_Model_copy_22 ?_
        refine lv_iload_n hx hb d_Model_copy_25 rfl (lv_at hl 1 rfl) ?_
        obtain ⟨h24, hk⟩ := hk
        refine al_30 C hW hP h24 d_Model_copy_26 ?_
        refine lv_bipush (v := -9) hx hb d_Model_copy_27 (by decide) ?_
        refine lv_icmp_eq (tgt := 43) hx hb d_Model_copy_29 (by decide) (fun c25 => ?_) (fun c25 => ?_)
        · have hk := hk.1 c25
          exact J43 M21 hk _ _ _ hP hS (lv_sub hl [0] rfl)
        · have hk := hk.2 c25
          refine lv_aload_n hx hb d_Model_copy_32 rfl (lv_at hl 0 rfl) ?_
          refine gf_29_2 C hW hP fl_Model_9 d_Model_copy_33 ?_
          refine lv_iload_n hx hb d_Model_copy_36 rfl (lv_at hl 3 rfl) ?_
          obtain ⟨h26, hk⟩ := hk
          refine al_30 C hW hP h26 d_Model_copy_37 ?_
          refine lv_bipush (v := -9) hx hb d_Model_copy_38 (by decide) ?_
          refine lv_icmp_ne (tgt := 49) hx hb d_Model_copy_40 (by decide) (fun c27 => ?_) (fun c27 => ?_)
          · have hk := hk.1 c27
            refine lv_aload_n hx hb d_Model_copy_49 rfl (lv_at hl 0 rfl) ?_
            refine gf_29_2 C hW hP fl_Model_9 d_Model_copy_50 ?_
            refine lv_iload_n hx hb d_Model_copy_53 rfl (lv_at hl 1 rfl) ?_
            obtain ⟨h28, hk⟩ := hk
            refine al_30 C hW hP h28 d_Model_copy_54 ?_
            refine lv_aload_n hx hb d_Model_copy_55 rfl (lv_at hl 0 rfl) ?_
            refine gf_29_2 C hW hP fl_Model_9 d_Model_copy_56 ?_
            refine lv_iload_n hx hb d_Model_copy_59 rfl (lv_at hl 3 rfl) ?_
            obtain ⟨h29, hk⟩ := hk
            refine al_30 C hW hP h29 d_Model_copy_60 ?_
            refine lv_icmp_eq (tgt := 70) hx hb d_Model_copy_61 (by decide) (fun c30 => ?_) (fun c30 => ?_)
            · have hk := hk.1 c30
              refine lv_iload_n hx hb d_Model_copy_70 rfl (lv_at hl 2 rfl) ?_
              refine lv_if_lt (tgt := 109) hx hb d_Model_copy_71 (by decide) (fun c31 => ?_) (fun c31 => ?_)
              · have hk := hk.1 c31
                exact J109 a1 a2 a3 a4 a5 M21 hk _ _ _ hP hS (lv_sub hl [0, 1, 2, 3, 4, 5] rfl)
              · have hk := hk.2 c31
                refine lv_iload hx hb d_Model_copy_74 (lv_at hl 4 rfl) ?_
                refine lv_if_lt (tgt := 109) hx hb d_Model_copy_76 (by decide) (fun c32 => ?_) (fun c32 => ?_)
                · have hk := hk.1 c32
                  exact J109 a1 a2 a3 a4 a5 M21 hk _ _ _ hP hS (lv_sub hl [0, 1, 2, 3, 4, 5] rfl)
                · have hk := hk.2 c32
                  refine lv_iload hx hb d_Model_copy_79 (lv_at hl 5 rfl) ?_
                  refine lv_if_lt (tgt := 109) hx hb d_Model_copy_81 (by decide) (fun c33 => ?_) (fun c33 => ?_)
                  · have hk := hk.1 c33
                    exact J109 a1 a2 a3 a4 a5 M21 hk _ _ _ hP hS (lv_sub hl [0, 1, 2, 3, 4, 5] rfl)
                  · have hk := hk.2 c33
                    refine lv_iload_n hx hb d_Model_copy_84 rfl (lv_at hl 2 rfl) ?_
                    refine lv_aload_n hx hb d_Model_copy_85 rfl (lv_at hl 0 rfl) ?_
                    refine gf_29_3 C hW hP fl_Model_13 d_Model_copy_86 ?_
                    refine lv_iload_n hx hb d_Model_copy_89 rfl (lv_at hl 1 rfl) ?_
                    obtain ⟨h34, hk⟩ := hk
                    refine al_31 C hW hP h34 d_Model_copy_90 ?_
                    refine lv_icmp_gt (tgt := 109) hx hb d_Model_copy_91 (by decide) (fun c35 => ?_) (fun c35 => ?_)
                    · have hk := hk.1 c35
                      exact J109 a1 a2 a3 a4 a5 M21 hk _ _ _ hP hS (lv_sub hl [0, 1, 2, 3, 4, 5] rfl)
                    · have hk := hk.2 c35
                      refine lv_iload hx hb d_Model_copy_94 (lv_at hl 4 rfl) ?_
                      refine lv_aload_n hx hb d_Model_copy_96 rfl (lv_at hl 0 rfl) ?_
                      refine gf_29_3 C hW hP fl_Model_13 d_Model_copy_97 ?_
                      refine lv_iload_n hx hb d_Model_copy_100 rfl (lv_at hl 3 rfl) ?_
                      obtain ⟨h36, hk⟩ := hk
                      refine al_31 C hW hP h36 d_Model_copy_101 ?_
                      refine lv_icmp_gt (tgt := 109) hx hb d_Model_copy_102 (by decide) (fun c37 => ?_) (fun c37 => ?_)
                      · have hk := hk.1 c37
                        exact J109 a1 a2 a3 a4 a5 M21 hk _ _ _ hP hS (lv_sub hl [0, 1, 2, 3, 4, 5] rfl)
                      · have hk := hk.2 c37
                        refine lv_iconst (v := 1) hx hb d_Model_copy_105 (by decide) ?_
                        refine lv_goto (tgt := 110) hx hb d_Model_copy_106 (by decide) ?_
                        exact J110 a1 a2 a3 a4 a5 (1 : Int32) M21 hk _ _ _ hP hS (lv_sub hl [0, 1, 2, 3, 4, 5] rfl)
            · have hk := hk.2 c30
              refine lv_aload_n hx hb d_Model_copy_64 rfl (lv_at hl 0 rfl) ?_
              refine lv_iconst (v := 2) hx hb d_Model_copy_65 (by decide) ?_
              refine r_runI (k_V (As := [.int (2 : Int32)]) (rest := []) C hW hP (c_Model_fails hI (2 : Int32) M21 _ hk) cb_Model_fails ml_Model_91 (io_29 g M21) ⟨by decide, by decide⟩ rfl hl.1 rfl (Nat.le_of_ble_eq_true rfl) d_Model_copy_66 ⟨by decide, by decide⟩) hS (fun r39 M38 H locs hk hP hS => ?_)
              exact r_iret C hr hlocks hP hS hk d_Model_copy_69
          · have hk := hk.2 c27
            exact J43 M21 hk _ _ _ hP hS (lv_sub hl [0] rfl)
      · have hk := hk.2 c23
        refine lv_iconst (v := -1) hx hb d_Model_copy_19 (by decide) ?_
        exact r_iret C hr hlocks hP hS hk d_Model_copy_20
  · intro x1 x2 x3 x4 x5 x7 x8 M hk
    refine (eX166 x1 x2 x3 x4 x5 x7 x8 M).mpr ?_
    intro H locs ls hP hS hl
    unfold wp_Model_copy_166 at hk
    refine lv_iload hx hb d_Model_copy_166 (lv_at hl 7 rfl) ?_
    refine lv_iload hx hb d_Model_copy_168 (lv_at hl 5 rfl) ?_
    refine lv_icmp_ge (tgt := 227) hx hb d_Model_copy_170 (by decide) (fun c11 => ?_) (fun c11 => ?_)
    · have hk := hk.1 c11
      refine lv_iload hx hb d_Model_copy_227 (lv_at hl 5 rfl) ?_
      exact r_iret C hr hlocks hP hS hk d_Model_copy_229
    · have hk := hk.2 c11
      refine lv_iload hx hb d_Model_copy_173 (lv_at hl 6 rfl) ?_
      refine lv_if_eq (tgt := 188) hx hb d_Model_copy_175 (by decide) (fun c12 => ?_) (fun c12 => ?_)
      · have hk := hk.1 c12
        refine lv_iload hx hb d_Model_copy_188 (lv_at hl 7 rfl) ?_
        exact J190 x1 x2 x3 x4 x5 x7 x8 x8 M hk _ _ _ hP hS (lv_sub hl [0, 1, 2, 3, 4, 5, 6, 7] rfl)
      · have hk := hk.2 c12
        refine lv_iload hx hb d_Model_copy_178 (lv_at hl 5 rfl) ?_
        refine lv_iconst (v := 1) hx hb d_Model_copy_180 (by decide) ?_
        refine lv_isub hx hb d_Model_copy_181 ?_
        refine lv_iload hx hb d_Model_copy_182 (lv_at hl 7 rfl) ?_
        refine lv_isub hx hb d_Model_copy_184 ?_
        refine lv_goto (tgt := 190) hx hb d_Model_copy_185 (by decide) ?_
        exact J190 x1 x2 x3 x4 x5 x7 x8 ((x5 - (1 : Int32)) - x8) M hk _ _ _ hP hS (lv_sub hl [0, 1, 2, 3, 4, 5, 6, 7] rfl)
theorem d_Model_begins_0 : decode b_Model_begins 0 = .ok (.aload_n 0, 1) := by decide +kernel
theorem d_Model_begins_1 : decode b_Model_begins 1 = .ok (.bipush 31, 2) := by decide +kernel
theorem d_Model_begins_3 : decode b_Model_begins 3 = .ok (.aload_n 0, 1) := by decide +kernel
theorem d_Model_begins_4 : decode b_Model_begins 4 = .ok (.getfield 199, 3) := by decide +kernel
theorem d_Model_begins_7 : decode b_Model_begins 7 = .ok (.imul, 1) := by decide +kernel
theorem d_Model_begins_8 : decode b_Model_begins 8 = .ok (.iload_n 1, 1) := by decide +kernel
theorem d_Model_begins_9 : decode b_Model_begins 9 = .ok (.iadd, 1) := by decide +kernel
theorem d_Model_begins_10 : decode b_Model_begins 10 = .ok (.putfield 199, 3) := by decide +kernel
theorem d_Model_begins_13 : decode b_Model_begins 13 = .ok (.return_, 1) := by decide +kernel
set_option maxRecDepth 20000 in
theorem c_Model_begins {l : Launch} {g : GG} (hI : WI g) (a1 : Int32) (M : Mem) (R : Mem → Prop) (h : wp_Model_begins a1 M R) : Met l y_Model_begins (wm y_Model_begins b_Model_begins 2 none) (RM 0 0) (PP g M [.ref (g.2.2.2 29), .int a1]) (PQ g (RV R)) 0 0 (AW g) := by
  refine m_of (own := N_Model) (by decide) rfl (Nat.le_of_ble_eq_true rfl) ?_
  intro p e s m below meth c ls C hr hlocks hW hP hS hl
  obtain ⟨hx, hb, hml, hown, hts⟩ := id C
  have hl : lv_has ls 2 [(0, .ref (g.2.2.2 29)), (1, .int a1)] := hl
  unfold wp_Model_begins at h
  have hk := h
  refine lv_aload_n hx hb d_Model_begins_0 rfl (lv_at hl 0 rfl) ?_
  refine lv_bipush (v := 31) hx hb d_Model_begins_1 (by decide) ?_
  refine lv_aload_n hx hb d_Model_begins_3 rfl (lv_at hl 0 rfl) ?_
  refine gf_29_1 C hW hP fl_Model_199 d_Model_begins_4 ?_
  refine lv_imul hx hb d_Model_begins_7 ?_
  refine lv_iload_n hx hb d_Model_begins_8 rfl (lv_at hl 1 rfl) ?_
  refine lv_iadd hx hb d_Model_begins_9 ?_
  refine pf_29_1 hI C hW hP hS fl_Model_199 d_Model_begins_10 (fun M1 eM1 H locs hP hS => ?_)
  have hk := hk M1 eM1
  exact r_vret C hr hlocks hP hS hk d_Model_begins_13
theorem d_Model_tell_0 : decode b_Model_tell 0 = .ok (.aload_n 0, 1) := by decide +kernel
theorem d_Model_tell_1 : decode b_Model_tell 1 = .ok (.iload_n 1, 1) := by decide +kernel
theorem d_Model_tell_2 : decode b_Model_tell 2 = .ok (.invokevirtual 121, 3) := by decide +kernel
theorem d_Model_tell_5 : decode b_Model_tell 5 = .ok (.ifCond .ne 5, 3) := by decide +kernel
theorem d_Model_tell_8 : decode b_Model_tell 8 = .ok (.iconst (-1), 1) := by decide +kernel
theorem d_Model_tell_9 : decode b_Model_tell 9 = .ok (.ireturn, 1) := by decide +kernel
theorem d_Model_tell_10 : decode b_Model_tell 10 = .ok (.aload_n 0, 1) := by decide +kernel
theorem d_Model_tell_11 : decode b_Model_tell 11 = .ok (.getfield 28, 3) := by decide +kernel
theorem d_Model_tell_14 : decode b_Model_tell 14 = .ok (.iload_n 1, 1) := by decide +kernel
theorem d_Model_tell_15 : decode b_Model_tell 15 = .ok (.iaload, 1) := by decide +kernel
theorem d_Model_tell_16 : decode b_Model_tell 16 = .ok (.istore_n 2, 1) := by decide +kernel
theorem d_Model_tell_17 : decode b_Model_tell 17 = .ok (.aload_n 0, 1) := by decide +kernel
theorem d_Model_tell_18 : decode b_Model_tell 18 = .ok (.getfield 19, 3) := by decide +kernel
theorem d_Model_tell_21 : decode b_Model_tell 21 = .ok (.iload_n 1, 1) := by decide +kernel
theorem d_Model_tell_22 : decode b_Model_tell 22 = .ok (.iaload, 1) := by decide +kernel
theorem d_Model_tell_23 : decode b_Model_tell 23 = .ok (.lookupswitch 67 #[(1, 25), (2, 40)], 25) := by decide +kernel
theorem d_Model_tell_48 : decode b_Model_tell 48 = .ok (.aload_n 0, 1) := by decide +kernel
theorem d_Model_tell_49 : decode b_Model_tell 49 = .ok (.iconst 2, 1) := by decide +kernel
theorem d_Model_tell_50 : decode b_Model_tell 50 = .ok (.invokevirtual 202, 3) := by decide +kernel
theorem d_Model_tell_53 : decode b_Model_tell 53 = .ok (.aload_n 0, 1) := by decide +kernel
theorem d_Model_tell_54 : decode b_Model_tell 54 = .ok (.iconst 1, 1) := by decide +kernel
theorem d_Model_tell_55 : decode b_Model_tell 55 = .ok (.invokevirtual 202, 3) := by decide +kernel
theorem d_Model_tell_58 : decode b_Model_tell 58 = .ok (.iload_n 2, 1) := by decide +kernel
theorem d_Model_tell_59 : decode b_Model_tell 59 = .ok (.bipush 100, 2) := by decide +kernel
theorem d_Model_tell_61 : decode b_Model_tell 61 = .ok (.iadd, 1) := by decide +kernel
theorem d_Model_tell_62 : decode b_Model_tell 62 = .ok (.ireturn, 1) := by decide +kernel
theorem d_Model_tell_63 : decode b_Model_tell 63 = .ok (.aload_n 0, 1) := by decide +kernel
theorem d_Model_tell_64 : decode b_Model_tell 64 = .ok (.iconst 3, 1) := by decide +kernel
theorem d_Model_tell_65 : decode b_Model_tell 65 = .ok (.invokevirtual 202, 3) := by decide +kernel
theorem d_Model_tell_68 : decode b_Model_tell 68 = .ok (.aload_n 0, 1) := by decide +kernel
theorem d_Model_tell_69 : decode b_Model_tell 69 = .ok (.iconst 2, 1) := by decide +kernel
theorem d_Model_tell_70 : decode b_Model_tell 70 = .ok (.invokevirtual 202, 3) := by decide +kernel
theorem d_Model_tell_73 : decode b_Model_tell 73 = .ok (.aload_n 0, 1) := by decide +kernel
theorem d_Model_tell_74 : decode b_Model_tell 74 = .ok (.iconst 1, 1) := by decide +kernel
theorem d_Model_tell_75 : decode b_Model_tell 75 = .ok (.invokevirtual 202, 3) := by decide +kernel
theorem d_Model_tell_78 : decode b_Model_tell 78 = .ok (.aload_n 0, 1) := by decide +kernel
theorem d_Model_tell_79 : decode b_Model_tell 79 = .ok (.iconst 1, 1) := by decide +kernel
theorem d_Model_tell_80 : decode b_Model_tell 80 = .ok (.invokevirtual 202, 3) := by decide +kernel
theorem d_Model_tell_83 : decode b_Model_tell 83 = .ok (.iconst 2, 1) := by decide +kernel
theorem d_Model_tell_84 : decode b_Model_tell 84 = .ok (.iload_n 2, 1) := by decide +kernel
theorem d_Model_tell_85 : decode b_Model_tell 85 = .ok (.imul, 1) := by decide +kernel
theorem d_Model_tell_86 : decode b_Model_tell 86 = .ok (.bipush 100, 2) := by decide +kernel
theorem d_Model_tell_88 : decode b_Model_tell 88 = .ok (.iadd, 1) := by decide +kernel
theorem d_Model_tell_89 : decode b_Model_tell 89 = .ok (.ireturn, 1) := by decide +kernel
theorem d_Model_tell_90 : decode b_Model_tell 90 = .ok (.aload_n 0, 1) := by decide +kernel
theorem d_Model_tell_91 : decode b_Model_tell 91 = .ok (.iconst 1, 1) := by decide +kernel
theorem d_Model_tell_92 : decode b_Model_tell 92 = .ok (.invokevirtual 202, 3) := by decide +kernel
theorem d_Model_tell_95 : decode b_Model_tell 95 = .ok (.iload_n 2, 1) := by decide +kernel
theorem d_Model_tell_96 : decode b_Model_tell 96 = .ok (.ireturn, 1) := by decide +kernel
set_option maxRecDepth 20000 in
theorem c_Model_tell {l : Launch} {g : GG} (hI : WI g) (a1 : Int32) (M : Mem) (R : Int32 → Mem → Prop) (h : wp_Model_tell a1 M R) : Met l y_Model_tell (wm y_Model_tell b_Model_tell 3 (some .int)) (RM 1 21) (PP g M [.ref (g.2.2.2 29), .int a1]) (PQ g (RI R)) 0 0 (AW g) := by
  refine m_of (own := N_Model) (by decide) rfl (Nat.le_of_ble_eq_true rfl) ?_
  intro p e s m below meth c ls C hr hlocks hW hP hS hl
  obtain ⟨hx, hb, hml, hown, hts⟩ := id C
  have hl : lv_has ls 3 [(0, .ref (g.2.2.2 29)), (1, .int a1)] := hl
  unfold wp_Model_tell at h
  have hk := h
  refine lv_aload_n hx hb d_Model_tell_0 rfl (lv_at hl 0 rfl) ?_
  refine lv_iload_n hx hb d_Model_tell_1 rfl (lv_at hl 1 rfl) ?_
  refine r_runZ (k_V (As := [.int a1]) (rest := []) C hW hP (c_Model_isHouse hI a1 M _ hk) cb_Model_isHouse ml_Model_121 (io_29 g M) ⟨by decide, by decide⟩ rfl hl.1 rfl (Nat.le_of_ble_eq_true rfl) d_Model_tell_2 ⟨by decide, by decide⟩) hS (fun r2 M1 H locs zr2 hk hP hS => ?_)
  refine lv_if_ne (tgt := 10) hx hb d_Model_tell_5 (by decide) (fun c3 => ?_) (fun c3 => ?_)
  · have hk := hk.1 c3
    refine lv_aload_n hx hb d_Model_tell_10 rfl (lv_at hl 0 rfl) ?_
    refine gf_29_10 C hW hP fl_Model_28 d_Model_tell_11 ?_
    refine lv_iload_n hx hb d_Model_tell_14 rfl (lv_at hl 1 rfl) ?_
    obtain ⟨h4, hk⟩ := hk
    refine al_36 C hW hP h4 d_Model_tell_15 ?_
    refine lv_topi (fun x2_5 ex2_5 => ?_)
    have hk := hk x2_5 ex2_5
    refine lv_istore_n (lv' := [(2, .int x2_5), (0, .ref (g.2.2.2 29)), (1, .int a1)]) hx hb d_Model_tell_16 rfl hl (by decide) rfl (fun ls hl => ?_)
    refine lv_aload_n hx hb d_Model_tell_17 rfl (lv_at hl 1 rfl) ?_
    refine gf_29_7 C hW hP fl_Model_19 d_Model_tell_18 ?_
    refine lv_iload_n hx hb d_Model_tell_21 rfl (lv_at hl 2 rfl) ?_
    obtain ⟨h6, hk⟩ := hk
    refine al_33 C hW hP h6 d_Model_tell_22 ?_
    by_cases c7 : (M1 33 a1.toNatClampNeg) = (1 : Int32)
    · have hk := hk.1 c7
      refine lv_lookup (tgt := 48) hx hb d_Model_tell_23 (by decide) (by rw [c7] <;> rfl) (by decide) ?_
      refine lv_aload_n hx hb d_Model_tell_48 rfl (lv_at hl 1 rfl) ?_
      refine lv_iconst (v := 2) hx hb d_Model_tell_49 (by decide) ?_
      refine r_runV (k_V (As := [.int (2 : Int32)]) (rest := []) C hW hP (c_Model_begins hI (2 : Int32) M1 _ hk) cb_Model_begins ml_Model_202 (io_29 g M1) ⟨by decide, by decide⟩ rfl hl.1 rfl (Nat.le_of_ble_eq_true rfl) d_Model_tell_50 ⟨by decide, by decide⟩) hS (fun M8 H locs hk hP hS => ?_)
      refine lv_aload_n hx hb d_Model_tell_53 rfl (lv_at hl 1 rfl) ?_
      refine lv_iconst (v := 1) hx hb d_Model_tell_54 (by decide) ?_
      refine r_runV (k_V (As := [.int (1 : Int32)]) (rest := []) C hW hP (c_Model_begins hI (1 : Int32) M8 _ hk) cb_Model_begins ml_Model_202 (io_29 g M8) ⟨by decide, by decide⟩ rfl hl.1 rfl (Nat.le_of_ble_eq_true rfl) d_Model_tell_55 ⟨by decide, by decide⟩) hS (fun M9 H locs hk hP hS => ?_)
      refine lv_iload_n hx hb d_Model_tell_58 rfl (lv_at hl 0 rfl) ?_
      refine lv_bipush (v := 100) hx hb d_Model_tell_59 (by decide) ?_
      refine lv_iadd hx hb d_Model_tell_61 ?_
      exact r_iret C hr hlocks hP hS hk d_Model_tell_62
    · have hk := hk.2 c7
      by_cases c10 : (M1 33 a1.toNatClampNeg) = (2 : Int32)
      · have hk := hk.1 c10
        refine lv_lookup (tgt := 63) hx hb d_Model_tell_23 (by decide) (by rw [c10] <;> rfl) (by decide) ?_
        refine lv_aload_n hx hb d_Model_tell_63 rfl (lv_at hl 1 rfl) ?_
        refine lv_iconst (v := 3) hx hb d_Model_tell_64 (by decide) ?_
        refine r_runV (k_V (As := [.int (3 : Int32)]) (rest := []) C hW hP (c_Model_begins hI (3 : Int32) M1 _ hk) cb_Model_begins ml_Model_202 (io_29 g M1) ⟨by decide, by decide⟩ rfl hl.1 rfl (Nat.le_of_ble_eq_true rfl) d_Model_tell_65 ⟨by decide, by decide⟩) hS (fun M11 H locs hk hP hS => ?_)
        refine lv_aload_n hx hb d_Model_tell_68 rfl (lv_at hl 1 rfl) ?_
        refine lv_iconst (v := 2) hx hb d_Model_tell_69 (by decide) ?_
        refine r_runV (k_V (As := [.int (2 : Int32)]) (rest := []) C hW hP (c_Model_begins hI (2 : Int32) M11 _ hk) cb_Model_begins ml_Model_202 (io_29 g M11) ⟨by decide, by decide⟩ rfl hl.1 rfl (Nat.le_of_ble_eq_true rfl) d_Model_tell_70 ⟨by decide, by decide⟩) hS (fun M12 H locs hk hP hS => ?_)
        refine lv_aload_n hx hb d_Model_tell_73 rfl (lv_at hl 1 rfl) ?_
        refine lv_iconst (v := 1) hx hb d_Model_tell_74 (by decide) ?_
        refine r_runV (k_V (As := [.int (1 : Int32)]) (rest := []) C hW hP (c_Model_begins hI (1 : Int32) M12 _ hk) cb_Model_begins ml_Model_202 (io_29 g M12) ⟨by decide, by decide⟩ rfl hl.1 rfl (Nat.le_of_ble_eq_true rfl) d_Model_tell_75 ⟨by decide, by decide⟩) hS (fun M13 H locs hk hP hS => ?_)
        refine lv_aload_n hx hb d_Model_tell_78 rfl (lv_at hl 1 rfl) ?_
        refine lv_iconst (v := 1) hx hb d_Model_tell_79 (by decide) ?_
        refine r_runV (k_V (As := [.int (1 : Int32)]) (rest := []) C hW hP (c_Model_begins hI (1 : Int32) M13 _ hk) cb_Model_begins ml_Model_202 (io_29 g M13) ⟨by decide, by decide⟩ rfl hl.1 rfl (Nat.le_of_ble_eq_true rfl) d_Model_tell_80 ⟨by decide, by decide⟩) hS (fun M14 H locs hk hP hS => ?_)
        refine lv_iconst (v := 2) hx hb d_Model_tell_83 (by decide) ?_
        refine lv_iload_n hx hb d_Model_tell_84 rfl (lv_at hl 0 rfl) ?_
        refine lv_imul hx hb d_Model_tell_85 ?_
        refine lv_bipush (v := 100) hx hb d_Model_tell_86 (by decide) ?_
        refine lv_iadd hx hb d_Model_tell_88 ?_
        exact r_iret C hr hlocks hP hS hk d_Model_tell_89
      · have hk := hk.2 c10
        refine lv_lookup (tgt := 90) hx hb d_Model_tell_23 (by decide) (by simp [Op.lookupswitch.offset, sw_ne (k := 1) c7, sw_ne (k := 2) c10] <;> rfl) (by decide) ?_
        refine lv_aload_n hx hb d_Model_tell_90 rfl (lv_at hl 1 rfl) ?_
        refine lv_iconst (v := 1) hx hb d_Model_tell_91 (by decide) ?_
        refine r_runV (k_V (As := [.int (1 : Int32)]) (rest := []) C hW hP (c_Model_begins hI (1 : Int32) M1 _ hk) cb_Model_begins ml_Model_202 (io_29 g M1) ⟨by decide, by decide⟩ rfl hl.1 rfl (Nat.le_of_ble_eq_true rfl) d_Model_tell_92 ⟨by decide, by decide⟩) hS (fun M15 H locs hk hP hS => ?_)
        refine lv_iload_n hx hb d_Model_tell_95 rfl (lv_at hl 0 rfl) ?_
        exact r_iret C hr hlocks hP hS hk d_Model_tell_96
  · have hk := hk.2 c3
    refine lv_iconst (v := -1) hx hb d_Model_tell_8 (by decide) ?_
    exact r_iret C hr hlocks hP hS hk d_Model_tell_9
theorem d_Model_knock_0 : decode b_Model_knock 0 = .ok (.aload_n 0, 1) := by decide +kernel
theorem d_Model_knock_1 : decode b_Model_knock 1 = .ok (.iload_n 1, 1) := by decide +kernel
theorem d_Model_knock_2 : decode b_Model_knock 2 = .ok (.invokevirtual 121, 3) := by decide +kernel
theorem d_Model_knock_5 : decode b_Model_knock 5 = .ok (.ifCond .ne 5, 3) := by decide +kernel
theorem d_Model_knock_8 : decode b_Model_knock 8 = .ok (.iconst (-1), 1) := by decide +kernel
theorem d_Model_knock_9 : decode b_Model_knock 9 = .ok (.ireturn, 1) := by decide +kernel
theorem d_Model_knock_10 : decode b_Model_knock 10 = .ok (.aload_n 0, 1) := by decide +kernel
theorem d_Model_knock_11 : decode b_Model_knock 11 = .ok (.aload_n 0, 1) := by decide +kernel
theorem d_Model_knock_12 : decode b_Model_knock 12 = .ok (.getfield 19, 3) := by decide +kernel
theorem d_Model_knock_15 : decode b_Model_knock 15 = .ok (.iload_n 1, 1) := by decide +kernel
theorem d_Model_knock_16 : decode b_Model_knock 16 = .ok (.iaload, 1) := by decide +kernel
theorem d_Model_knock_17 : decode b_Model_knock 17 = .ok (.iconst 2, 1) := by decide +kernel
theorem d_Model_knock_18 : decode b_Model_knock 18 = .ok (.if_icmp .ne 7, 3) := by decide +kernel
theorem d_Model_knock_21 : decode b_Model_knock 21 = .ok (.iconst 5, 1) := by decide +kernel
theorem d_Model_knock_22 : decode b_Model_knock 22 = .ok (.goto 4, 3) := by decide +kernel
theorem d_Model_knock_25 : decode b_Model_knock 25 = .ok (.iconst 4, 1) := by decide +kernel
theorem d_Model_knock_26 : decode b_Model_knock 26 = .ok (.invokevirtual 202, 3) := by decide +kernel
theorem d_Model_knock_29 : decode b_Model_knock 29 = .ok (.aload_n 0, 1) := by decide +kernel
theorem d_Model_knock_30 : decode b_Model_knock 30 = .ok (.getfield 19, 3) := by decide +kernel
theorem d_Model_knock_33 : decode b_Model_knock 33 = .ok (.iload_n 1, 1) := by decide +kernel
theorem d_Model_knock_34 : decode b_Model_knock 34 = .ok (.iaload, 1) := by decide +kernel
theorem d_Model_knock_35 : decode b_Model_knock 35 = .ok (.iconst 2, 1) := by decide +kernel
theorem d_Model_knock_36 : decode b_Model_knock 36 = .ok (.if_icmp .ne 8, 3) := by decide +kernel
theorem d_Model_knock_39 : decode b_Model_knock 39 = .ok (.bipush 80, 2) := by decide +kernel
theorem d_Model_knock_41 : decode b_Model_knock 41 = .ok (.goto 4, 3) := by decide +kernel
theorem d_Model_knock_44 : decode b_Model_knock 44 = .ok (.iload_n 1, 1) := by decide +kernel
theorem d_Model_knock_45 : decode b_Model_knock 45 = .ok (.ireturn, 1) := by decide +kernel
set_option maxRecDepth 20000 in
theorem c_Model_knock {l : Launch} {g : GG} (hI : WI g) (a1 : Int32) (M : Mem) (R : Int32 → Mem → Prop) (h : wp_Model_knock a1 M R) : Met l y_Model_knock (wm y_Model_knock b_Model_knock 2 (some .int)) (RM 1 21) (PP g M [.ref (g.2.2.2 29), .int a1]) (PQ g (RI R)) 0 0 (AW g) := by
  refine m_of (own := N_Model) (by decide) rfl (Nat.le_of_ble_eq_true rfl) ?_
  intro p e s m below meth c ls C hr hlocks hW hP hS hl
  obtain ⟨hx, hb, hml, hown, hts⟩ := id C
  have hl : lv_has ls 2 [(0, .ref (g.2.2.2 29)), (1, .int a1)] := hl
  unfold wp_Model_knock at h
  have J26 : ∀ (x1 : Int32) (s1 : Int32) (M : Mem), wp_Model_knock_26  R x1 s1 M → ∀ (H : Heap) (locs : List Loc) (ls : Array Slot), WP g M H → va_S (AW g) s.heap H locs → lv_has ls 2 [(0, .ref (g.2.2.2 29)), (1, .int x1)] → W p l e (RM 1 21) s m ([.ref (g.2.2.2 29), .int a1] : List Value).toArray below meth c H locs 0 0 (MQ below (PQ g (RI R)) ([.ref (g.2.2.2 29), .int a1] : List Value).toArray s 0 0 (AW g)) (F0 m 26 ls [.int s1, .ref (g.2.2.2 29)]) := by
    intro x1 s1 M hk H locs ls hP hS hl
    unfold wp_Model_knock_26 at hk
    refine r_runV (k_V (As := [.int s1]) (rest := []) C hW hP (c_Model_begins hI s1 M _ hk) cb_Model_begins ml_Model_202 (io_29 g M) ⟨by decide, by decide⟩ rfl hl.1 rfl (Nat.le_of_ble_eq_true rfl) d_Model_knock_26 ⟨by decide, by decide⟩) hS (fun M1 H locs hk hP hS => ?_)
    refine lv_aload_n hx hb d_Model_knock_29 rfl (lv_at hl 0 rfl) ?_
    refine gf_29_7 C hW hP fl_Model_19 d_Model_knock_30 ?_
    refine lv_iload_n hx hb d_Model_knock_33 rfl (lv_at hl 1 rfl) ?_
    obtain ⟨h2, hk⟩ := hk
    refine al_33 C hW hP h2 d_Model_knock_34 ?_
    refine lv_iconst (v := 2) hx hb d_Model_knock_35 (by decide) ?_
    refine lv_icmp_ne (tgt := 44) hx hb d_Model_knock_36 (by decide) (fun c3 => ?_) (fun c3 => ?_)
    · have hk := hk.1 c3
      refine lv_iload_n hx hb d_Model_knock_44 rfl (lv_at hl 1 rfl) ?_
      exact r_iret C hr hlocks hP hS hk d_Model_knock_45
    · have hk := hk.2 c3
      refine lv_bipush (v := 80) hx hb d_Model_knock_39 (by decide) ?_
      refine lv_goto (tgt := 45) hx hb d_Model_knock_41 (by decide) ?_
      exact r_iret C hr hlocks hP hS hk d_Model_knock_45
  have hk := h
  refine lv_aload_n hx hb d_Model_knock_0 rfl (lv_at hl 0 rfl) ?_
  refine lv_iload_n hx hb d_Model_knock_1 rfl (lv_at hl 1 rfl) ?_
  refine r_runZ (k_V (As := [.int a1]) (rest := []) C hW hP (c_Model_isHouse hI a1 M _ hk) cb_Model_isHouse ml_Model_121 (io_29 g M) ⟨by decide, by decide⟩ rfl hl.1 rfl (Nat.le_of_ble_eq_true rfl) d_Model_knock_2 ⟨by decide, by decide⟩) hS (fun r5 M4 H locs zr5 hk hP hS => ?_)
  refine lv_if_ne (tgt := 10) hx hb d_Model_knock_5 (by decide) (fun c6 => ?_) (fun c6 => ?_)
  · have hk := hk.1 c6
    refine lv_aload_n hx hb d_Model_knock_10 rfl (lv_at hl 0 rfl) ?_
    refine lv_aload_n hx hb d_Model_knock_11 rfl (lv_at hl 0 rfl) ?_
    refine gf_29_7 C hW hP fl_Model_19 d_Model_knock_12 ?_
    refine lv_iload_n hx hb d_Model_knock_15 rfl (lv_at hl 1 rfl) ?_
    obtain ⟨h7, hk⟩ := hk
    refine al_33 C hW hP h7 d_Model_knock_16 ?_
    refine lv_iconst (v := 2) hx hb d_Model_knock_17 (by decide) ?_
    refine lv_icmp_ne (tgt := 25) hx hb d_Model_knock_18 (by decide) (fun c8 => ?_) (fun c8 => ?_)
    · have hk := hk.1 c8
      refine lv_iconst (v := 4) hx hb d_Model_knock_25 (by decide) ?_
      exact J26 a1 (4 : Int32) M4 hk _ _ _ hP hS (lv_sub hl [0, 1] rfl)
    · have hk := hk.2 c8
      refine lv_iconst (v := 5) hx hb d_Model_knock_21 (by decide) ?_
      refine lv_goto (tgt := 26) hx hb d_Model_knock_22 (by decide) ?_
      exact J26 a1 (5 : Int32) M4 hk _ _ _ hP hS (lv_sub hl [0, 1] rfl)
  · have hk := hk.2 c6
    refine lv_iconst (v := -1) hx hb d_Model_knock_8 (by decide) ?_
    exact r_iret C hr hlocks hP hS hk d_Model_knock_9
theorem d_Model_as_0 : decode b_Model_as 0 = .ok (.aload_n 0, 1) := by decide +kernel
theorem d_Model_as_1 : decode b_Model_as 1 = .ok (.iconst 0, 1) := by decide +kernel
theorem d_Model_as_2 : decode b_Model_as 2 = .ok (.putfield 62, 3) := by decide +kernel
theorem d_Model_as_5 : decode b_Model_as 5 = .ok (.aload_n 0, 1) := by decide +kernel
theorem d_Model_as_6 : decode b_Model_as 6 = .ok (.iload_n 1, 1) := by decide +kernel
theorem d_Model_as_7 : decode b_Model_as 7 = .ok (.invokevirtual 121, 3) := by decide +kernel
theorem d_Model_as_10 : decode b_Model_as 10 = .ok (.ifCond .ne 5, 3) := by decide +kernel
theorem d_Model_as_13 : decode b_Model_as 13 = .ok (.iconst (-1), 1) := by decide +kernel
theorem d_Model_as_14 : decode b_Model_as 14 = .ok (.ireturn, 1) := by decide +kernel
theorem d_Model_as_15 : decode b_Model_as 15 = .ok (.iload_n 2, 1) := by decide +kernel
theorem d_Model_as_16 : decode b_Model_as 16 = .ok (.iconst 0, 1) := by decide +kernel
theorem d_Model_as_17 : decode b_Model_as 17 = .ok (.iconst 2, 1) := by decide +kernel
theorem d_Model_as_18 : decode b_Model_as 18 = .ok (.invokestatic 67, 3) := by decide +kernel
theorem d_Model_as_21 : decode b_Model_as 21 = .ok (.ifCond .ne 6, 3) := by decide +kernel
theorem d_Model_as_24 : decode b_Model_as 24 = .ok (.bipush (-2), 2) := by decide +kernel
theorem d_Model_as_26 : decode b_Model_as 26 = .ok (.ireturn, 1) := by decide +kernel
theorem d_Model_as_27 : decode b_Model_as 27 = .ok (.aload_n 0, 1) := by decide +kernel
theorem d_Model_as_28 : decode b_Model_as 28 = .ok (.getfield 19, 3) := by decide +kernel
theorem d_Model_as_31 : decode b_Model_as 31 = .ok (.iload_n 1, 1) := by decide +kernel
theorem d_Model_as_32 : decode b_Model_as 32 = .ok (.iaload, 1) := by decide +kernel
theorem d_Model_as_33 : decode b_Model_as 33 = .ok (.iload_n 2, 1) := by decide +kernel
theorem d_Model_as_34 : decode b_Model_as 34 = .ok (.if_icmp .lt 7, 3) := by decide +kernel
theorem d_Model_as_37 : decode b_Model_as 37 = .ok (.iconst 1, 1) := by decide +kernel
theorem d_Model_as_38 : decode b_Model_as 38 = .ok (.goto 8, 3) := by decide +kernel
theorem d_Model_as_41 : decode b_Model_as 41 = .ok (.aload_n 0, 1) := by decide +kernel
theorem d_Model_as_42 : decode b_Model_as 42 = .ok (.iconst 2, 1) := by decide +kernel
theorem d_Model_as_43 : decode b_Model_as 43 = .ok (.invokevirtual 91, 3) := by decide +kernel
theorem d_Model_as_46 : decode b_Model_as 46 = .ok (.ireturn, 1) := by decide +kernel
set_option maxRecDepth 20000 in
theorem c_Model_as {l : Launch} {g : GG} (hI : WI g) (a1 : Int32) (a2 : Int32) (M : Mem) (R : Int32 → Mem → Prop) (h : wp_Model_as a1 a2 M R) : Met l y_Model_as (wm y_Model_as b_Model_as 3 (some .int)) (RM 1 22) (PP g M [.ref (g.2.2.2 29), .int a1, .int a2]) (PQ g (RI R)) 0 0 (AW g) := by
  refine m_of (own := N_Model) (by decide) rfl (Nat.le_of_ble_eq_true rfl) ?_
  intro p e s m below meth c ls C hr hlocks hW hP hS hl
  obtain ⟨hx, hb, hml, hown, hts⟩ := id C
  have hl : lv_has ls 3 [(0, .ref (g.2.2.2 29)), (1, .int a1), (2, .int a2)] := hl
  unfold wp_Model_as at h
  have hk := h
  refine lv_aload_n hx hb d_Model_as_0 rfl (lv_at hl 0 rfl) ?_
  refine lv_iconst (v := 0) hx hb d_Model_as_1 (by decide) ?_
  refine pf_29_0 hI C hW hP hS fl_Model_62 d_Model_as_2 (fun M1 eM1 H locs hP hS => ?_)
  have hk := hk M1 eM1
  refine lv_aload_n hx hb d_Model_as_5 rfl (lv_at hl 0 rfl) ?_
  refine lv_iload_n hx hb d_Model_as_6 rfl (lv_at hl 1 rfl) ?_
  refine r_runZ (k_V (As := [.int a1]) (rest := []) C hW hP (c_Model_isHouse hI a1 M1 _ hk) cb_Model_isHouse ml_Model_121 (io_29 g M1) ⟨by decide, by decide⟩ rfl hl.1 rfl (Nat.le_of_ble_eq_true rfl) d_Model_as_7 ⟨by decide, by decide⟩) hS (fun r3 M2 H locs zr3 hk hP hS => ?_)
  refine lv_if_ne (tgt := 15) hx hb d_Model_as_10 (by decide) (fun c4 => ?_) (fun c4 => ?_)
  · have hk := hk.1 c4
    refine lv_iload_n hx hb d_Model_as_15 rfl (lv_at hl 2 rfl) ?_
    refine lv_iconst (v := 0) hx hb d_Model_as_16 (by decide) ?_
    refine lv_iconst (v := 2) hx hb d_Model_as_17 (by decide) ?_
    refine r_runZ (k_S (As := [.int a2, .int (0 : Int32), .int (2 : Int32)]) (rest := []) C hW hP (c_Model_within hI a2 (0 : Int32) (2 : Int32) M2 _ hk) cb_Model_within ml_Model_67 ⟨by decide, by decide⟩ rfl hl.1 rfl (Nat.le_of_ble_eq_true rfl) d_Model_as_18 ⟨by decide, by decide⟩) hS (fun r6 M5 H locs zr6 hk hP hS => ?_)
    refine lv_if_ne (tgt := 27) hx hb d_Model_as_21 (by decide) (fun c7 => ?_) (fun c7 => ?_)
    · have hk := hk.1 c7
      refine lv_aload_n hx hb d_Model_as_27 rfl (lv_at hl 0 rfl) ?_
      refine gf_29_7 C hW hP fl_Model_19 d_Model_as_28 ?_
      refine lv_iload_n hx hb d_Model_as_31 rfl (lv_at hl 1 rfl) ?_
      obtain ⟨h8, hk⟩ := hk
      refine al_33 C hW hP h8 d_Model_as_32 ?_
      refine lv_iload_n hx hb d_Model_as_33 rfl (lv_at hl 2 rfl) ?_
      refine lv_icmp_lt (tgt := 41) hx hb d_Model_as_34 (by decide) (fun c9 => ?_) (fun c9 => ?_)
      · have hk := hk.1 c9
        refine lv_aload_n hx hb d_Model_as_41 rfl (lv_at hl 0 rfl) ?_
        refine lv_iconst (v := 2) hx hb d_Model_as_42 (by decide) ?_
        refine r_runI (k_V (As := [.int (2 : Int32)]) (rest := []) C hW hP (c_Model_fails hI (2 : Int32) M5 _ hk) cb_Model_fails ml_Model_91 (io_29 g M5) ⟨by decide, by decide⟩ rfl hl.1 rfl (Nat.le_of_ble_eq_true rfl) d_Model_as_43 ⟨by decide, by decide⟩) hS (fun r11 M10 H locs hk hP hS => ?_)
        exact r_iret C hr hlocks hP hS hk d_Model_as_46
      · have hk := hk.2 c9
        refine lv_iconst (v := 1) hx hb d_Model_as_37 (by decide) ?_
        refine lv_goto (tgt := 46) hx hb d_Model_as_38 (by decide) ?_
        exact r_iret C hr hlocks hP hS hk d_Model_as_46
    · have hk := hk.2 c7
      refine lv_bipush (v := -2) hx hb d_Model_as_24 (by decide) ?_
      exact r_iret C hr hlocks hP hS hk d_Model_as_26
  · have hk := hk.2 c4
    refine lv_iconst (v := -1) hx hb d_Model_as_13 (by decide) ?_
    exact r_iret C hr hlocks hP hS hk d_Model_as_14
theorem d_Model_trace_0 : decode b_Model_trace 0 = .ok (.aload_n 0, 1) := by decide +kernel
theorem d_Model_trace_1 : decode b_Model_trace 1 = .ok (.getfield 199, 3) := by decide +kernel
theorem d_Model_trace_4 : decode b_Model_trace 4 = .ok (.ireturn, 1) := by decide +kernel
set_option maxRecDepth 20000 in
theorem c_Model_trace {l : Launch} {g : GG} (hI : WI g) (M : Mem) (R : Int32 → Mem → Prop) (h : wp_Model_trace  M R) : Met l y_Model_trace (wm y_Model_trace b_Model_trace 1 (some .int)) (RM 0 0) (PP g M [.ref (g.2.2.2 29)]) (PQ g (RI R)) 0 0 (AW g) := by
  refine m_of (own := N_Model) (by decide) rfl (Nat.le_of_ble_eq_true rfl) ?_
  intro p e s m below meth c ls C hr hlocks hW hP hS hl
  obtain ⟨hx, hb, hml, hown, hts⟩ := id C
  have hl : lv_has ls 1 [(0, .ref (g.2.2.2 29))] := hl
  unfold wp_Model_trace at h
  have hk := h
  refine lv_aload_n hx hb d_Model_trace_0 rfl (lv_at hl 0 rfl) ?_
  refine gf_29_1 C hW hP fl_Model_199 d_Model_trace_1 ?_
  exact r_iret C hr hlocks hP hS hk d_Model_trace_4
theorem d_Model_fault_0 : decode b_Model_fault 0 = .ok (.aload_n 0, 1) := by decide +kernel
theorem d_Model_fault_1 : decode b_Model_fault 1 = .ok (.getfield 62, 3) := by decide +kernel
theorem d_Model_fault_4 : decode b_Model_fault 4 = .ok (.ireturn, 1) := by decide +kernel
set_option maxRecDepth 20000 in
theorem c_Model_fault {l : Launch} {g : GG} (hI : WI g) (M : Mem) (R : Int32 → Mem → Prop) (h : wp_Model_fault  M R) : Met l y_Model_fault (wm y_Model_fault b_Model_fault 1 (some .int)) (RM 0 0) (PP g M [.ref (g.2.2.2 29)]) (PQ g (RI R)) 0 0 (AW g) := by
  refine m_of (own := N_Model) (by decide) rfl (Nat.le_of_ble_eq_true rfl) ?_
  intro p e s m below meth c ls C hr hlocks hW hP hS hl
  obtain ⟨hx, hb, hml, hown, hts⟩ := id C
  have hl : lv_has ls 1 [(0, .ref (g.2.2.2 29))] := hl
  unfold wp_Model_fault at h
  have hk := h
  refine lv_aload_n hx hb d_Model_fault_0 rfl (lv_at hl 0 rfl) ?_
  refine gf_29_0 C hW hP fl_Model_62 d_Model_fault_1 ?_
  exact r_iret C hr hlocks hP hS hk d_Model_fault_4
theorem d_Model_many_0 : decode b_Model_many 0 = .ok (.iload_n 1, 1) := by decide +kernel
theorem d_Model_many_1 : decode b_Model_many 1 = .ok (.ifCond .ne 10, 3) := by decide +kernel
theorem d_Model_many_4 : decode b_Model_many 4 = .ok (.aload_n 0, 1) := by decide +kernel
theorem d_Model_many_5 : decode b_Model_many 5 = .ok (.getfield 71, 3) := by decide +kernel
theorem d_Model_many_8 : decode b_Model_many 8 = .ok (.goto 29, 3) := by decide +kernel
theorem d_Model_many_11 : decode b_Model_many 11 = .ok (.iload_n 1, 1) := by decide +kernel
theorem d_Model_many_12 : decode b_Model_many 12 = .ok (.iconst 1, 1) := by decide +kernel
theorem d_Model_many_13 : decode b_Model_many 13 = .ok (.if_icmp .ne 10, 3) := by decide +kernel
theorem d_Model_many_16 : decode b_Model_many 16 = .ok (.aload_n 0, 1) := by decide +kernel
theorem d_Model_many_17 : decode b_Model_many 17 = .ok (.getfield 74, 3) := by decide +kernel
theorem d_Model_many_20 : decode b_Model_many 20 = .ok (.goto 17, 3) := by decide +kernel
theorem d_Model_many_23 : decode b_Model_many 23 = .ok (.iload_n 1, 1) := by decide +kernel
theorem d_Model_many_24 : decode b_Model_many 24 = .ok (.iconst 2, 1) := by decide +kernel
theorem d_Model_many_25 : decode b_Model_many 25 = .ok (.if_icmp .ne 10, 3) := by decide +kernel
theorem d_Model_many_28 : decode b_Model_many 28 = .ok (.aload_n 0, 1) := by decide +kernel
theorem d_Model_many_29 : decode b_Model_many 29 = .ok (.getfield 104, 3) := by decide +kernel
theorem d_Model_many_32 : decode b_Model_many 32 = .ok (.goto 5, 3) := by decide +kernel
theorem d_Model_many_35 : decode b_Model_many 35 = .ok (.bipush (-2), 2) := by decide +kernel
theorem d_Model_many_37 : decode b_Model_many 37 = .ok (.ireturn, 1) := by decide +kernel
set_option maxRecDepth 20000 in
theorem c_Model_many {l : Launch} {g : GG} (hI : WI g) (a1 : Int32) (M : Mem) (R : Int32 → Mem → Prop) (h : wp_Model_many a1 M R) : Met l y_Model_many (wm y_Model_many b_Model_many 2 (some .int)) (RM 0 0) (PP g M [.ref (g.2.2.2 29), .int a1]) (PQ g (RI R)) 0 0 (AW g) := by
  refine m_of (own := N_Model) (by decide) rfl (Nat.le_of_ble_eq_true rfl) ?_
  intro p e s m below meth c ls C hr hlocks hW hP hS hl
  obtain ⟨hx, hb, hml, hown, hts⟩ := id C
  have hl : lv_has ls 2 [(0, .ref (g.2.2.2 29)), (1, .int a1)] := hl
  unfold wp_Model_many at h
  have hk := h
  refine lv_iload_n hx hb d_Model_many_0 rfl (lv_at hl 1 rfl) ?_
  refine lv_if_ne (tgt := 11) hx hb d_Model_many_1 (by decide) (fun c1 => ?_) (fun c1 => ?_)
  · have hk := hk.1 c1
    refine lv_iload_n hx hb d_Model_many_11 rfl (lv_at hl 1 rfl) ?_
    refine lv_iconst (v := 1) hx hb d_Model_many_12 (by decide) ?_
    refine lv_icmp_ne (tgt := 23) hx hb d_Model_many_13 (by decide) (fun c2 => ?_) (fun c2 => ?_)
    · have hk := hk.1 c2
      refine lv_iload_n hx hb d_Model_many_23 rfl (lv_at hl 1 rfl) ?_
      refine lv_iconst (v := 2) hx hb d_Model_many_24 (by decide) ?_
      refine lv_icmp_ne (tgt := 35) hx hb d_Model_many_25 (by decide) (fun c3 => ?_) (fun c3 => ?_)
      · have hk := hk.1 c3
        refine lv_bipush (v := -2) hx hb d_Model_many_35 (by decide) ?_
        exact r_iret C hr hlocks hP hS hk d_Model_many_37
      · have hk := hk.2 c3
        refine lv_aload_n hx hb d_Model_many_28 rfl (lv_at hl 0 rfl) ?_
        refine gf_29_23 C hW hP fl_Model_104 d_Model_many_29 ?_
        refine lv_goto (tgt := 37) hx hb d_Model_many_32 (by decide) ?_
        exact r_iret C hr hlocks hP hS hk d_Model_many_37
    · have hk := hk.2 c2
      refine lv_aload_n hx hb d_Model_many_16 rfl (lv_at hl 0 rfl) ?_
      refine gf_29_6 C hW hP fl_Model_74 d_Model_many_17 ?_
      refine lv_goto (tgt := 37) hx hb d_Model_many_20 (by decide) ?_
      exact r_iret C hr hlocks hP hS hk d_Model_many_37
  · have hk := hk.2 c1
    refine lv_aload_n hx hb d_Model_many_4 rfl (lv_at hl 0 rfl) ?_
    refine gf_29_5 C hW hP fl_Model_71 d_Model_many_5 ?_
    refine lv_goto (tgt := 37) hx hb d_Model_many_8 (by decide) ?_
    exact r_iret C hr hlocks hP hS hk d_Model_many_37
