section LA
variable {p : Program} {l : Launch} {e : Env} {R : Room} {s : State} {m : MethodId} {args : Array Value} {below : List Frame} {meth : Method} {c : Code} {H H0 : Heap} {locs : List Loc} {cells slots : Nat} {Q : State → Prop}
variable {pc : Nat} {ls : Array Slot} {rest st0 : List Value} {g : GG} {a : Array Value} {A0 : Nat → Prop}
theorem r_runA {R1 : Option Value → Mem → Prop} (hr : va_Run p l e R s m args below meth c H locs cells slots 0 0 (F0 m pc ls st0) rest (PQ g R1 a) (AW g)) (hAA : ∀ q, AW g q → A0 q) (hS : va_S A0 H0 H locs)
    (kk : ∀ (v : Option Value) (M1 : Mem) (H1 : Heap) (locs1 : List Loc), R1 v M1 → WP g M1 H1 → va_S A0 H0 H1 locs1 → W p l e R s m args below meth c H1 locs1 cells slots Q (F0 m (pc + 3) ls (v.toList ++ rest))) : W p l e R s m args below meth c H locs cells slots Q (F0 m pc ls st0) := by
  intro T hT X
  obtain ⟨v, st₀, t, T', L, h0, X', hL, e1, e2, ⟨⟨v', M1, hv, hR, hP⟩, hz, hk⟩, st⟩ := hr T hT X
  cases hv
  rw [h0] at hz hk
  obtain ⟨t2, a1, b1⟩ := kk v M1 T'.heap (locs ++ L) hR (by rw [e1]; exact hP)
    ⟨Nat.le_trans hS.1 (by rw [e1]; exact hz), fun q h1 h2 => by rw [e1, hk q (Nat.lt_of_lt_of_le h1 hS.1) (fun z => h2 (hAA q z))]; exact hS.2.1 q h1 h2, fun q hq => by
      rcases List.mem_append.mp hq with h | h
      · exact hS.2.2 q h
      · exact hAA _ (hL q h)⟩ T' rfl X'
  exact ⟨t2, st t2 a1, b1⟩
theorem r_runIA {R1 : Int32 → Mem → Prop} (hr : va_Run p l e R s m args below meth c H locs cells slots 0 0 (F0 m pc ls st0) rest (PQ g (RI R1) a) (AW g)) (hAA : ∀ q, AW g q → A0 q) (hS : va_S A0 H0 H locs)
    (kk : ∀ (r : Int32) (M1 : Mem) (H1 : Heap) (locs1 : List Loc), R1 r M1 → WP g M1 H1 → va_S A0 H0 H1 locs1 → W p l e R s m args below meth c H1 locs1 cells slots Q (F0 m (pc + 3) ls (.int r :: rest))) : W p l e R s m args below meth c H locs cells slots Q (F0 m pc ls st0) :=
  r_runA hr hAA hS (fun v M1 H1 locs1 hR hP hS1 => by obtain ⟨r, rfl, h⟩ := hR; exact kk r M1 H1 locs1 h hP hS1)
theorem r_runLA {R1 : Int64 → Mem → Prop} (hr : va_Run p l e R s m args below meth c H locs cells slots 0 0 (F0 m pc ls st0) rest (PQ g (RL R1) a) (AW g)) (hAA : ∀ q, AW g q → A0 q) (hS : va_S A0 H0 H locs)
    (kk : ∀ (r : Int64) (M1 : Mem) (H1 : Heap) (locs1 : List Loc), R1 r M1 → WP g M1 H1 → va_S A0 H0 H1 locs1 → W p l e R s m args below meth c H1 locs1 cells slots Q (F0 m (pc + 3) ls (.long r :: rest))) : W p l e R s m args below meth c H locs cells slots Q (F0 m pc ls st0) :=
  r_runA hr hAA hS (fun v M1 H1 locs1 hR hP hS1 => by obtain ⟨r, rfl, h⟩ := hR; exact kk r M1 H1 locs1 h hP hS1)
end LA
theorem lw_ix {L i : Nat} (hL : L ≤ 384) (hi : i + 6 ≤ L) (k : Nat) (hk : k < 6) : vp_in (nI i + nI k) L := by rw [nI_add]; exact vp_in_nI (by omega) (by omega)
def LwA (s : State) : Nat → Prop := fun q => s.heap.size ≤ q
def LwL (g : GG) (b i : Nat) (ls : Array Slot) : Prop := lv_has ls 4 [(0, .ref b), (1, .ref (g.2.2.2 0)), (2, .ref (g.2.2.2 29)), (3, .int (nI i))]
theorem lg_self (x : Int64) : lg_cmp x x = 0 := by
  unfold lg_cmp
  have h : ¬ x > x := fun h => absurd h (by simp)
  rw [if_neg h, if_pos rfl]

theorem law_case_way {p : Program} {l : Launch} {e : Env} {s : State} {m : MethodId} {below : List Frame} {meth : Method} {c : Code} {b L : Nat} {xs : Nat → Int32} {g : GG} {Iv : Mem → Prop} (hL : L ≤ 384) (C0 : lw_At p s m meth c b L xs) (hI : WI g) (hW : WK g s) (hAW : ∀ q, AW g q → LwA s q) (hst : St_way Iv) {i : Nat} (hi : i + 6 ≤ L) {M : Mem} (hM : Iv M) {H : Heap} {locs : List Loc} {ls : Array Slot} (hP : WP g M H) (hS : va_S (LwA s) s.heap H locs) (hl : LwL g b i ls) (kk : ∀ (M2 : Mem) (H2 : Heap) (locs2 : List Loc), Iv M2 → WP g M2 H2 → va_S (LwA s) s.heap H2 locs2 → W p l e room_1 s m #[Value.ref b] below meth c H2 locs2 600000 7302250 (lw_Z below #[Value.ref b] s) (F0 m 1120 ls [])) : W p l e room_1 s m #[Value.ref b] below meth c H locs 600000 7302250 (lw_Z below #[Value.ref b] s) (F0 m 168 ls []) := by
  obtain ⟨hx, hb, hr, hml, hown, hts, hX, hbl, hlocks, hgv⟩ := id C0
  have C : CallFix p m c code 4 s #[Value.ref b] TG N_Law := ⟨hx, hb, hml, hown, fun w hw => hts w (TG_tbl hw)⟩
  have hl : lv_has ls 4 [(0, .ref b), (1, .ref (g.2.2.2 0)), (2, .ref (g.2.2.2 29)), (3, .int (nI i))] := hl
  have hbA : ¬ LwA s b := Nat.not_le.mpr hbl
  have hk := hst (xs (nI i + nI 1).toNatClampNeg) (xs (nI i + nI 2).toNatClampNeg) (xs (nI i + nI 3).toNatClampNeg) (xs (nI i + nI 4).toNatClampNeg) M hM
  refine lv_aload_n hx hb d_law_168 rfl (lv_at hl 1 rfl) ?_
  refine lv_aload_n hx hb d_law_169 rfl (lv_at hl 0 rfl) ?_
  refine lv_iload_n hx hb d_law_170 rfl (lv_at hl 3 rfl) ?_
  refine lv_iconst (v := nI 1) hx hb d_law_171 (by decide) ?_
  refine lv_iadd hx hb d_law_172 ?_
  refine va_sld hx hb hX hbl hbA hS (lw_ix hL hi 1 (by decide)) d_law_173 ?_
  refine lv_aload_n hx hb d_law_174 rfl (lv_at hl 0 rfl) ?_
  refine lv_iload_n hx hb d_law_175 rfl (lv_at hl 3 rfl) ?_
  refine lv_iconst (v := nI 2) hx hb d_law_176 (by decide) ?_
  refine lv_iadd hx hb d_law_177 ?_
  refine va_sld hx hb hX hbl hbA hS (lw_ix hL hi 2 (by decide)) d_law_178 ?_
  refine lv_aload_n hx hb d_law_179 rfl (lv_at hl 0 rfl) ?_
  refine lv_iload_n hx hb d_law_180 rfl (lv_at hl 3 rfl) ?_
  refine lv_iconst (v := nI 3) hx hb d_law_181 (by decide) ?_
  refine lv_iadd hx hb d_law_182 ?_
  refine va_sld hx hb hX hbl hbA hS (lw_ix hL hi 3 (by decide)) d_law_183 ?_
  refine lv_aload_n hx hb d_law_184 rfl (lv_at hl 0 rfl) ?_
  refine lv_iload_n hx hb d_law_185 rfl (lv_at hl 3 rfl) ?_
  refine lv_iconst (v := nI 4) hx hb d_law_186 (by decide) ?_
  refine lv_iadd hx hb d_law_187 ?_
  refine va_sld hx hb hX hbl hbA hS (lw_ix hL hi 4 (by decide)) d_law_188 ?_
  refine r_runIA (k_V (As := [.int (xs (nI i + nI 1).toNatClampNeg), .int (xs (nI i + nI 2).toNatClampNeg), .int (xs (nI i + nI 3).toNatClampNeg), .int (xs (nI i + nI 4).toNatClampNeg)]) (rest := []) C hW hP (c_Main_way hI (xs (nI i + nI 1).toNatClampNeg) (xs (nI i + nI 2).toNatClampNeg) (xs (nI i + nI 3).toNatClampNeg) (xs (nI i + nI 4).toNatClampNeg) M _ hk) cb_Main_way ml_Law_13 (io_0 g M) ⟨by decide, by decide⟩ rfl hl.1 rfl (Nat.le_of_ble_eq_true rfl) d_law_189 ⟨by decide, by decide⟩) hAW hS (fun r M1 H locs hk hP hS => ?_)
  refine lv_aload_n hx hb d_law_192 rfl (lv_at hl 2 rfl) ?_
  refine lv_aload_n hx hb d_law_193 rfl (lv_at hl 0 rfl) ?_
  refine lv_iload_n hx hb d_law_194 rfl (lv_at hl 3 rfl) ?_
  refine lv_iconst (v := nI 1) hx hb d_law_195 (by decide) ?_
  refine lv_iadd hx hb d_law_196 ?_
  refine va_sld hx hb hX hbl hbA hS (lw_ix hL hi 1 (by decide)) d_law_197 ?_
  refine lv_aload_n hx hb d_law_198 rfl (lv_at hl 0 rfl) ?_
  refine lv_iload_n hx hb d_law_199 rfl (lv_at hl 3 rfl) ?_
  refine lv_iconst (v := nI 2) hx hb d_law_200 (by decide) ?_
  refine lv_iadd hx hb d_law_201 ?_
  refine va_sld hx hb hX hbl hbA hS (lw_ix hL hi 2 (by decide)) d_law_202 ?_
  refine lv_aload_n hx hb d_law_203 rfl (lv_at hl 0 rfl) ?_
  refine lv_iload_n hx hb d_law_204 rfl (lv_at hl 3 rfl) ?_
  refine lv_iconst (v := nI 3) hx hb d_law_205 (by decide) ?_
  refine lv_iadd hx hb d_law_206 ?_
  refine va_sld hx hb hX hbl hbA hS (lw_ix hL hi 3 (by decide)) d_law_207 ?_
  refine lv_aload_n hx hb d_law_208 rfl (lv_at hl 0 rfl) ?_
  refine lv_iload_n hx hb d_law_209 rfl (lv_at hl 3 rfl) ?_
  refine lv_iconst (v := nI 4) hx hb d_law_210 (by decide) ?_
  refine lv_iadd hx hb d_law_211 ?_
  refine va_sld hx hb hX hbl hbA hS (lw_ix hL hi 4 (by decide)) d_law_212 ?_
  refine r_runIA (k_V (As := [.int (xs (nI i + nI 1).toNatClampNeg), .int (xs (nI i + nI 2).toNatClampNeg), .int (xs (nI i + nI 3).toNatClampNeg), .int (xs (nI i + nI 4).toNatClampNeg)]) (rest := [.int r]) C hW hP (c_Model_way hI (xs (nI i + nI 1).toNatClampNeg) (xs (nI i + nI 2).toNatClampNeg) (xs (nI i + nI 3).toNatClampNeg) (xs (nI i + nI 4).toNatClampNeg) M1 _ hk) cb_Model_way ml_Law_17 (io_29 g M1) ⟨by decide, by decide⟩ rfl hl.1 rfl (Nat.le_of_ble_eq_true rfl) d_law_213 ⟨by decide, by decide⟩) hAW hS (fun r2 M2 H locs hk hP hS => ?_)
  obtain ⟨rfl, hM2⟩ := hk
  refine lv_icmp_eq (tgt := 1120) hx hb d_law_216 (by decide) (fun c1 => ?_) (fun c1 => absurd rfl c1)
  exact kk M2 H locs hM2 hP hS
theorem law_case_ofHouse {p : Program} {l : Launch} {e : Env} {s : State} {m : MethodId} {below : List Frame} {meth : Method} {c : Code} {b L : Nat} {xs : Nat → Int32} {g : GG} {Iv : Mem → Prop} (hL : L ≤ 384) (C0 : lw_At p s m meth c b L xs) (hI : WI g) (hW : WK g s) (hAW : ∀ q, AW g q → LwA s q) (hst : St_ofHouse Iv) {i : Nat} (hi : i + 6 ≤ L) {M : Mem} (hM : Iv M) {H : Heap} {locs : List Loc} {ls : Array Slot} (hP : WP g M H) (hS : va_S (LwA s) s.heap H locs) (hl : LwL g b i ls) (kk : ∀ (M2 : Mem) (H2 : Heap) (locs2 : List Loc), Iv M2 → WP g M2 H2 → va_S (LwA s) s.heap H2 locs2 → W p l e room_1 s m #[Value.ref b] below meth c H2 locs2 600000 7302250 (lw_Z below #[Value.ref b] s) (F0 m 1120 ls [])) : W p l e room_1 s m #[Value.ref b] below meth c H locs 600000 7302250 (lw_Z below #[Value.ref b] s) (F0 m 221 ls []) := by
  obtain ⟨hx, hb, hr, hml, hown, hts, hX, hbl, hlocks, hgv⟩ := id C0
  have C : CallFix p m c code 4 s #[Value.ref b] TG N_Law := ⟨hx, hb, hml, hown, fun w hw => hts w (TG_tbl hw)⟩
  have hl : lv_has ls 4 [(0, .ref b), (1, .ref (g.2.2.2 0)), (2, .ref (g.2.2.2 29)), (3, .int (nI i))] := hl
  have hbA : ¬ LwA s b := Nat.not_le.mpr hbl
  have hk := hst (xs (nI i + nI 1).toNatClampNeg) (xs (nI i + nI 2).toNatClampNeg) M hM
  refine lv_aload_n hx hb d_law_221 rfl (lv_at hl 1 rfl) ?_
  refine lv_aload_n hx hb d_law_222 rfl (lv_at hl 0 rfl) ?_
  refine lv_iload_n hx hb d_law_223 rfl (lv_at hl 3 rfl) ?_
  refine lv_iconst (v := nI 1) hx hb d_law_224 (by decide) ?_
  refine lv_iadd hx hb d_law_225 ?_
  refine va_sld hx hb hX hbl hbA hS (lw_ix hL hi 1 (by decide)) d_law_226 ?_
  refine lv_aload_n hx hb d_law_227 rfl (lv_at hl 0 rfl) ?_
  refine lv_iload_n hx hb d_law_228 rfl (lv_at hl 3 rfl) ?_
  refine lv_iconst (v := nI 2) hx hb d_law_229 (by decide) ?_
  refine lv_iadd hx hb d_law_230 ?_
  refine va_sld hx hb hX hbl hbA hS (lw_ix hL hi 2 (by decide)) d_law_231 ?_
  refine r_runIA (k_V (As := [.int (xs (nI i + nI 1).toNatClampNeg), .int (xs (nI i + nI 2).toNatClampNeg)]) (rest := []) C hW hP (c_Main_ofHouse hI (xs (nI i + nI 1).toNatClampNeg) (xs (nI i + nI 2).toNatClampNeg) M _ hk) cb_Main_ofHouse ml_Law_18 (io_0 g M) ⟨by decide, by decide⟩ rfl hl.1 rfl (Nat.le_of_ble_eq_true rfl) d_law_232 ⟨by decide, by decide⟩) hAW hS (fun r M1 H locs hk hP hS => ?_)
  refine lv_aload_n hx hb d_law_235 rfl (lv_at hl 2 rfl) ?_
  refine lv_aload_n hx hb d_law_236 rfl (lv_at hl 0 rfl) ?_
  refine lv_iload_n hx hb d_law_237 rfl (lv_at hl 3 rfl) ?_
  refine lv_iconst (v := nI 1) hx hb d_law_238 (by decide) ?_
  refine lv_iadd hx hb d_law_239 ?_
  refine va_sld hx hb hX hbl hbA hS (lw_ix hL hi 1 (by decide)) d_law_240 ?_
  refine lv_aload_n hx hb d_law_241 rfl (lv_at hl 0 rfl) ?_
  refine lv_iload_n hx hb d_law_242 rfl (lv_at hl 3 rfl) ?_
  refine lv_iconst (v := nI 2) hx hb d_law_243 (by decide) ?_
  refine lv_iadd hx hb d_law_244 ?_
  refine va_sld hx hb hX hbl hbA hS (lw_ix hL hi 2 (by decide)) d_law_245 ?_
  refine r_runIA (k_V (As := [.int (xs (nI i + nI 1).toNatClampNeg), .int (xs (nI i + nI 2).toNatClampNeg)]) (rest := [.int r]) C hW hP (c_Model_ofHouse hI (xs (nI i + nI 1).toNatClampNeg) (xs (nI i + nI 2).toNatClampNeg) M1 _ hk) cb_Model_ofHouse ml_Law_22 (io_29 g M1) ⟨by decide, by decide⟩ rfl hl.1 rfl (Nat.le_of_ble_eq_true rfl) d_law_246 ⟨by decide, by decide⟩) hAW hS (fun r2 M2 H locs hk hP hS => ?_)
  obtain ⟨rfl, hM2⟩ := hk
  refine lv_icmp_eq (tgt := 1120) hx hb d_law_249 (by decide) (fun c1 => ?_) (fun c1 => absurd rfl c1)
  exact kk M2 H locs hM2 hP hS
theorem law_case_gear {p : Program} {l : Launch} {e : Env} {s : State} {m : MethodId} {below : List Frame} {meth : Method} {c : Code} {b L : Nat} {xs : Nat → Int32} {g : GG} {Iv : Mem → Prop} (hL : L ≤ 384) (C0 : lw_At p s m meth c b L xs) (hI : WI g) (hW : WK g s) (hAW : ∀ q, AW g q → LwA s q) (hst : St_gear Iv) {i : Nat} (hi : i + 6 ≤ L) {M : Mem} (hM : Iv M) {H : Heap} {locs : List Loc} {ls : Array Slot} (hP : WP g M H) (hS : va_S (LwA s) s.heap H locs) (hl : LwL g b i ls) (kk : ∀ (M2 : Mem) (H2 : Heap) (locs2 : List Loc), Iv M2 → WP g M2 H2 → va_S (LwA s) s.heap H2 locs2 → W p l e room_1 s m #[Value.ref b] below meth c H2 locs2 600000 7302250 (lw_Z below #[Value.ref b] s) (F0 m 1120 ls [])) : W p l e room_1 s m #[Value.ref b] below meth c H locs 600000 7302250 (lw_Z below #[Value.ref b] s) (F0 m 254 ls []) := by
  obtain ⟨hx, hb, hr, hml, hown, hts, hX, hbl, hlocks, hgv⟩ := id C0
  have C : CallFix p m c code 4 s #[Value.ref b] TG N_Law := ⟨hx, hb, hml, hown, fun w hw => hts w (TG_tbl hw)⟩
  have hl : lv_has ls 4 [(0, .ref b), (1, .ref (g.2.2.2 0)), (2, .ref (g.2.2.2 29)), (3, .int (nI i))] := hl
  have hbA : ¬ LwA s b := Nat.not_le.mpr hbl
  have hk := hst (xs (nI i + nI 1).toNatClampNeg) M hM
  refine lv_aload_n hx hb d_law_254 rfl (lv_at hl 1 rfl) ?_
  refine lv_aload_n hx hb d_law_255 rfl (lv_at hl 0 rfl) ?_
  refine lv_iload_n hx hb d_law_256 rfl (lv_at hl 3 rfl) ?_
  refine lv_iconst (v := nI 1) hx hb d_law_257 (by decide) ?_
  refine lv_iadd hx hb d_law_258 ?_
  refine va_sld hx hb hX hbl hbA hS (lw_ix hL hi 1 (by decide)) d_law_259 ?_
  refine r_runIA (k_V (As := [.int (xs (nI i + nI 1).toNatClampNeg)]) (rest := []) C hW hP (c_Main_gear hI (xs (nI i + nI 1).toNatClampNeg) M _ hk) cb_Main_gear ml_Law_23 (io_0 g M) ⟨by decide, by decide⟩ rfl hl.1 rfl (Nat.le_of_ble_eq_true rfl) d_law_260 ⟨by decide, by decide⟩) hAW hS (fun r M1 H locs hk hP hS => ?_)
  refine lv_aload_n hx hb d_law_263 rfl (lv_at hl 2 rfl) ?_
  refine lv_aload_n hx hb d_law_264 rfl (lv_at hl 0 rfl) ?_
  refine lv_iload_n hx hb d_law_265 rfl (lv_at hl 3 rfl) ?_
  refine lv_iconst (v := nI 1) hx hb d_law_266 (by decide) ?_
  refine lv_iadd hx hb d_law_267 ?_
  refine va_sld hx hb hX hbl hbA hS (lw_ix hL hi 1 (by decide)) d_law_268 ?_
  refine r_runIA (k_V (As := [.int (xs (nI i + nI 1).toNatClampNeg)]) (rest := [.int r]) C hW hP (c_Model_gear hI (xs (nI i + nI 1).toNatClampNeg) M1 _ hk) cb_Model_gear ml_Law_27 (io_29 g M1) ⟨by decide, by decide⟩ rfl hl.1 rfl (Nat.le_of_ble_eq_true rfl) d_law_269 ⟨by decide, by decide⟩) hAW hS (fun r2 M2 H locs hk hP hS => ?_)
  obtain ⟨rfl, hM2⟩ := hk
  refine lv_icmp_eq (tgt := 1120) hx hb d_law_272 (by decide) (fun c1 => ?_) (fun c1 => absurd rfl c1)
  exact kk M2 H locs hM2 hP hS
theorem law_case_give {p : Program} {l : Launch} {e : Env} {s : State} {m : MethodId} {below : List Frame} {meth : Method} {c : Code} {b L : Nat} {xs : Nat → Int32} {g : GG} {Iv : Mem → Prop} (hL : L ≤ 384) (C0 : lw_At p s m meth c b L xs) (hI : WI g) (hW : WK g s) (hAW : ∀ q, AW g q → LwA s q) (hst : St_give Iv) {i : Nat} (hi : i + 6 ≤ L) {M : Mem} (hM : Iv M) {H : Heap} {locs : List Loc} {ls : Array Slot} (hP : WP g M H) (hS : va_S (LwA s) s.heap H locs) (hl : LwL g b i ls) (kk : ∀ (M2 : Mem) (H2 : Heap) (locs2 : List Loc), Iv M2 → WP g M2 H2 → va_S (LwA s) s.heap H2 locs2 → W p l e room_1 s m #[Value.ref b] below meth c H2 locs2 600000 7302250 (lw_Z below #[Value.ref b] s) (F0 m 1120 ls [])) : W p l e room_1 s m #[Value.ref b] below meth c H locs 600000 7302250 (lw_Z below #[Value.ref b] s) (F0 m 277 ls []) := by
  obtain ⟨hx, hb, hr, hml, hown, hts, hX, hbl, hlocks, hgv⟩ := id C0
  have C : CallFix p m c code 4 s #[Value.ref b] TG N_Law := ⟨hx, hb, hml, hown, fun w hw => hts w (TG_tbl hw)⟩
  have hl : lv_has ls 4 [(0, .ref b), (1, .ref (g.2.2.2 0)), (2, .ref (g.2.2.2 29)), (3, .int (nI i))] := hl
  have hbA : ¬ LwA s b := Nat.not_le.mpr hbl
  have hk := hst (xs (nI i + nI 1).toNatClampNeg) (xs (nI i + nI 2).toNatClampNeg) M hM
  refine lv_aload_n hx hb d_law_277 rfl (lv_at hl 1 rfl) ?_
  refine lv_aload_n hx hb d_law_278 rfl (lv_at hl 0 rfl) ?_
  refine lv_iload_n hx hb d_law_279 rfl (lv_at hl 3 rfl) ?_
  refine lv_iconst (v := nI 1) hx hb d_law_280 (by decide) ?_
  refine lv_iadd hx hb d_law_281 ?_
  refine va_sld hx hb hX hbl hbA hS (lw_ix hL hi 1 (by decide)) d_law_282 ?_
  refine lv_aload_n hx hb d_law_283 rfl (lv_at hl 0 rfl) ?_
  refine lv_iload_n hx hb d_law_284 rfl (lv_at hl 3 rfl) ?_
  refine lv_iconst (v := nI 2) hx hb d_law_285 (by decide) ?_
  refine lv_iadd hx hb d_law_286 ?_
  refine va_sld hx hb hX hbl hbA hS (lw_ix hL hi 2 (by decide)) d_law_287 ?_
  refine r_runIA (k_V (As := [.int (xs (nI i + nI 1).toNatClampNeg), .int (xs (nI i + nI 2).toNatClampNeg)]) (rest := []) C hW hP (c_Main_give hI (xs (nI i + nI 1).toNatClampNeg) (xs (nI i + nI 2).toNatClampNeg) M _ hk) cb_Main_give ml_Law_28 (io_0 g M) ⟨by decide, by decide⟩ rfl hl.1 rfl (Nat.le_of_ble_eq_true rfl) d_law_288 ⟨by decide, by decide⟩) hAW hS (fun r M1 H locs hk hP hS => ?_)
  refine lv_aload_n hx hb d_law_291 rfl (lv_at hl 2 rfl) ?_
  refine lv_aload_n hx hb d_law_292 rfl (lv_at hl 0 rfl) ?_
  refine lv_iload_n hx hb d_law_293 rfl (lv_at hl 3 rfl) ?_
  refine lv_iconst (v := nI 1) hx hb d_law_294 (by decide) ?_
  refine lv_iadd hx hb d_law_295 ?_
  refine va_sld hx hb hX hbl hbA hS (lw_ix hL hi 1 (by decide)) d_law_296 ?_
  refine lv_aload_n hx hb d_law_297 rfl (lv_at hl 0 rfl) ?_
  refine lv_iload_n hx hb d_law_298 rfl (lv_at hl 3 rfl) ?_
  refine lv_iconst (v := nI 2) hx hb d_law_299 (by decide) ?_
  refine lv_iadd hx hb d_law_300 ?_
  refine va_sld hx hb hX hbl hbA hS (lw_ix hL hi 2 (by decide)) d_law_301 ?_
  refine r_runIA (k_V (As := [.int (xs (nI i + nI 1).toNatClampNeg), .int (xs (nI i + nI 2).toNatClampNeg)]) (rest := [.int r]) C hW hP (c_Model_give hI (xs (nI i + nI 1).toNatClampNeg) (xs (nI i + nI 2).toNatClampNeg) M1 _ hk) cb_Model_give ml_Law_31 (io_29 g M1) ⟨by decide, by decide⟩ rfl hl.1 rfl (Nat.le_of_ble_eq_true rfl) d_law_302 ⟨by decide, by decide⟩) hAW hS (fun r2 M2 H locs hk hP hS => ?_)
  obtain ⟨rfl, hM2⟩ := hk
  refine lv_icmp_eq (tgt := 1120) hx hb d_law_305 (by decide) (fun c1 => ?_) (fun c1 => absurd rfl c1)
  exact kk M2 H locs hM2 hP hS
theorem law_case_bar {p : Program} {l : Launch} {e : Env} {s : State} {m : MethodId} {below : List Frame} {meth : Method} {c : Code} {b L : Nat} {xs : Nat → Int32} {g : GG} {Iv : Mem → Prop} (hL : L ≤ 384) (C0 : lw_At p s m meth c b L xs) (hI : WI g) (hW : WK g s) (hAW : ∀ q, AW g q → LwA s q) (hst : St_bar Iv) {i : Nat} (hi : i + 6 ≤ L) {M : Mem} (hM : Iv M) {H : Heap} {locs : List Loc} {ls : Array Slot} (hP : WP g M H) (hS : va_S (LwA s) s.heap H locs) (hl : LwL g b i ls) (kk : ∀ (M2 : Mem) (H2 : Heap) (locs2 : List Loc), Iv M2 → WP g M2 H2 → va_S (LwA s) s.heap H2 locs2 → W p l e room_1 s m #[Value.ref b] below meth c H2 locs2 600000 7302250 (lw_Z below #[Value.ref b] s) (F0 m 1120 ls [])) : W p l e room_1 s m #[Value.ref b] below meth c H locs 600000 7302250 (lw_Z below #[Value.ref b] s) (F0 m 310 ls []) := by
  obtain ⟨hx, hb, hr, hml, hown, hts, hX, hbl, hlocks, hgv⟩ := id C0
  have C : CallFix p m c code 4 s #[Value.ref b] TG N_Law := ⟨hx, hb, hml, hown, fun w hw => hts w (TG_tbl hw)⟩
  have hl : lv_has ls 4 [(0, .ref b), (1, .ref (g.2.2.2 0)), (2, .ref (g.2.2.2 29)), (3, .int (nI i))] := hl
  have hbA : ¬ LwA s b := Nat.not_le.mpr hbl
  have hk := hst (xs (nI i + nI 1).toNatClampNeg) (xs (nI i + nI 2).toNatClampNeg) M hM
  refine lv_aload_n hx hb d_law_310 rfl (lv_at hl 1 rfl) ?_
  refine lv_aload_n hx hb d_law_311 rfl (lv_at hl 0 rfl) ?_
  refine lv_iload_n hx hb d_law_312 rfl (lv_at hl 3 rfl) ?_
  refine lv_iconst (v := nI 1) hx hb d_law_313 (by decide) ?_
  refine lv_iadd hx hb d_law_314 ?_
  refine va_sld hx hb hX hbl hbA hS (lw_ix hL hi 1 (by decide)) d_law_315 ?_
  refine lv_aload_n hx hb d_law_316 rfl (lv_at hl 0 rfl) ?_
  refine lv_iload_n hx hb d_law_317 rfl (lv_at hl 3 rfl) ?_
  refine lv_iconst (v := nI 2) hx hb d_law_318 (by decide) ?_
  refine lv_iadd hx hb d_law_319 ?_
  refine va_sld hx hb hX hbl hbA hS (lw_ix hL hi 2 (by decide)) d_law_320 ?_
  refine r_runIA (k_V (As := [.int (xs (nI i + nI 1).toNatClampNeg), .int (xs (nI i + nI 2).toNatClampNeg)]) (rest := []) C hW hP (c_Main_bar hI (xs (nI i + nI 1).toNatClampNeg) (xs (nI i + nI 2).toNatClampNeg) M _ hk) cb_Main_bar ml_Law_32 (io_0 g M) ⟨by decide, by decide⟩ rfl hl.1 rfl (Nat.le_of_ble_eq_true rfl) d_law_321 ⟨by decide, by decide⟩) hAW hS (fun r M1 H locs hk hP hS => ?_)
  refine lv_aload_n hx hb d_law_324 rfl (lv_at hl 2 rfl) ?_
  refine lv_aload_n hx hb d_law_325 rfl (lv_at hl 0 rfl) ?_
  refine lv_iload_n hx hb d_law_326 rfl (lv_at hl 3 rfl) ?_
  refine lv_iconst (v := nI 1) hx hb d_law_327 (by decide) ?_
  refine lv_iadd hx hb d_law_328 ?_
  refine va_sld hx hb hX hbl hbA hS (lw_ix hL hi 1 (by decide)) d_law_329 ?_
  refine lv_aload_n hx hb d_law_330 rfl (lv_at hl 0 rfl) ?_
  refine lv_iload_n hx hb d_law_331 rfl (lv_at hl 3 rfl) ?_
  refine lv_iconst (v := nI 2) hx hb d_law_332 (by decide) ?_
  refine lv_iadd hx hb d_law_333 ?_
  refine va_sld hx hb hX hbl hbA hS (lw_ix hL hi 2 (by decide)) d_law_334 ?_
  refine r_runIA (k_V (As := [.int (xs (nI i + nI 1).toNatClampNeg), .int (xs (nI i + nI 2).toNatClampNeg)]) (rest := [.int r]) C hW hP (c_Model_bar hI (xs (nI i + nI 1).toNatClampNeg) (xs (nI i + nI 2).toNatClampNeg) M1 _ hk) cb_Model_bar ml_Law_35 (io_29 g M1) ⟨by decide, by decide⟩ rfl hl.1 rfl (Nat.le_of_ble_eq_true rfl) d_law_335 ⟨by decide, by decide⟩) hAW hS (fun r2 M2 H locs hk hP hS => ?_)
  obtain ⟨rfl, hM2⟩ := hk
  refine lv_icmp_eq (tgt := 1120) hx hb d_law_338 (by decide) (fun c1 => ?_) (fun c1 => absurd rfl c1)
  exact kk M2 H locs hM2 hP hS
theorem law_case_passes {p : Program} {l : Launch} {e : Env} {s : State} {m : MethodId} {below : List Frame} {meth : Method} {c : Code} {b L : Nat} {xs : Nat → Int32} {g : GG} {Iv : Mem → Prop} (hL : L ≤ 384) (C0 : lw_At p s m meth c b L xs) (hI : WI g) (hW : WK g s) (hAW : ∀ q, AW g q → LwA s q) (hst : St_passes Iv) {i : Nat} (hi : i + 6 ≤ L) {M : Mem} (hM : Iv M) {H : Heap} {locs : List Loc} {ls : Array Slot} (hP : WP g M H) (hS : va_S (LwA s) s.heap H locs) (hl : LwL g b i ls) (kk : ∀ (M2 : Mem) (H2 : Heap) (locs2 : List Loc), Iv M2 → WP g M2 H2 → va_S (LwA s) s.heap H2 locs2 → W p l e room_1 s m #[Value.ref b] below meth c H2 locs2 600000 7302250 (lw_Z below #[Value.ref b] s) (F0 m 1120 ls [])) : W p l e room_1 s m #[Value.ref b] below meth c H locs 600000 7302250 (lw_Z below #[Value.ref b] s) (F0 m 343 ls []) := by
  obtain ⟨hx, hb, hr, hml, hown, hts, hX, hbl, hlocks, hgv⟩ := id C0
  have C : CallFix p m c code 4 s #[Value.ref b] TG N_Law := ⟨hx, hb, hml, hown, fun w hw => hts w (TG_tbl hw)⟩
  have hl : lv_has ls 4 [(0, .ref b), (1, .ref (g.2.2.2 0)), (2, .ref (g.2.2.2 29)), (3, .int (nI i))] := hl
  have hbA : ¬ LwA s b := Nat.not_le.mpr hbl
  have hk := hst (xs (nI i + nI 1).toNatClampNeg) (xs (nI i + nI 2).toNatClampNeg) (xs (nI i + nI 3).toNatClampNeg) M hM
  refine lv_aload_n hx hb d_law_343 rfl (lv_at hl 1 rfl) ?_
  refine lv_aload_n hx hb d_law_344 rfl (lv_at hl 0 rfl) ?_
  refine lv_iload_n hx hb d_law_345 rfl (lv_at hl 3 rfl) ?_
  refine lv_iconst (v := nI 1) hx hb d_law_346 (by decide) ?_
  refine lv_iadd hx hb d_law_347 ?_
  refine va_sld hx hb hX hbl hbA hS (lw_ix hL hi 1 (by decide)) d_law_348 ?_
  refine lv_aload_n hx hb d_law_349 rfl (lv_at hl 0 rfl) ?_
  refine lv_iload_n hx hb d_law_350 rfl (lv_at hl 3 rfl) ?_
  refine lv_iconst (v := nI 2) hx hb d_law_351 (by decide) ?_
  refine lv_iadd hx hb d_law_352 ?_
  refine va_sld hx hb hX hbl hbA hS (lw_ix hL hi 2 (by decide)) d_law_353 ?_
  refine lv_aload_n hx hb d_law_354 rfl (lv_at hl 0 rfl) ?_
  refine lv_iload_n hx hb d_law_355 rfl (lv_at hl 3 rfl) ?_
  refine lv_iconst (v := nI 3) hx hb d_law_356 (by decide) ?_
  refine lv_iadd hx hb d_law_357 ?_
  refine va_sld hx hb hX hbl hbA hS (lw_ix hL hi 3 (by decide)) d_law_358 ?_
  refine r_runIA (k_V (As := [.int (xs (nI i + nI 1).toNatClampNeg), .int (xs (nI i + nI 2).toNatClampNeg), .int (xs (nI i + nI 3).toNatClampNeg)]) (rest := []) C hW hP (c_Main_passes hI (xs (nI i + nI 1).toNatClampNeg) (xs (nI i + nI 2).toNatClampNeg) (xs (nI i + nI 3).toNatClampNeg) M _ hk) cb_Main_passes ml_Law_36 (io_0 g M) ⟨by decide, by decide⟩ rfl hl.1 rfl (Nat.le_of_ble_eq_true rfl) d_law_359 ⟨by decide, by decide⟩) hAW hS (fun r M1 H locs hk hP hS => ?_)
  refine lv_aload_n hx hb d_law_362 rfl (lv_at hl 2 rfl) ?_
  refine lv_aload_n hx hb d_law_363 rfl (lv_at hl 0 rfl) ?_
  refine lv_iload_n hx hb d_law_364 rfl (lv_at hl 3 rfl) ?_
  refine lv_iconst (v := nI 1) hx hb d_law_365 (by decide) ?_
  refine lv_iadd hx hb d_law_366 ?_
  refine va_sld hx hb hX hbl hbA hS (lw_ix hL hi 1 (by decide)) d_law_367 ?_
  refine lv_aload_n hx hb d_law_368 rfl (lv_at hl 0 rfl) ?_
  refine lv_iload_n hx hb d_law_369 rfl (lv_at hl 3 rfl) ?_
  refine lv_iconst (v := nI 2) hx hb d_law_370 (by decide) ?_
  refine lv_iadd hx hb d_law_371 ?_
  refine va_sld hx hb hX hbl hbA hS (lw_ix hL hi 2 (by decide)) d_law_372 ?_
  refine lv_aload_n hx hb d_law_373 rfl (lv_at hl 0 rfl) ?_
  refine lv_iload_n hx hb d_law_374 rfl (lv_at hl 3 rfl) ?_
  refine lv_iconst (v := nI 3) hx hb d_law_375 (by decide) ?_
  refine lv_iadd hx hb d_law_376 ?_
  refine va_sld hx hb hX hbl hbA hS (lw_ix hL hi 3 (by decide)) d_law_377 ?_
  refine r_runIA (k_V (As := [.int (xs (nI i + nI 1).toNatClampNeg), .int (xs (nI i + nI 2).toNatClampNeg), .int (xs (nI i + nI 3).toNatClampNeg)]) (rest := [.int r]) C hW hP (c_Model_passes hI (xs (nI i + nI 1).toNatClampNeg) (xs (nI i + nI 2).toNatClampNeg) (xs (nI i + nI 3).toNatClampNeg) M1 _ hk) cb_Model_passes ml_Law_40 (io_29 g M1) ⟨by decide, by decide⟩ rfl hl.1 rfl (Nat.le_of_ble_eq_true rfl) d_law_378 ⟨by decide, by decide⟩) hAW hS (fun r2 M2 H locs hk hP hS => ?_)
  obtain ⟨rfl, hM2⟩ := hk
  refine lv_icmp_eq (tgt := 1120) hx hb d_law_381 (by decide) (fun c1 => ?_) (fun c1 => absurd rfl c1)
  exact kk M2 H locs hM2 hP hS
theorem law_case_visits {p : Program} {l : Launch} {e : Env} {s : State} {m : MethodId} {below : List Frame} {meth : Method} {c : Code} {b L : Nat} {xs : Nat → Int32} {g : GG} {Iv : Mem → Prop} (hL : L ≤ 384) (C0 : lw_At p s m meth c b L xs) (hI : WI g) (hW : WK g s) (hAW : ∀ q, AW g q → LwA s q) (hst : St_visits Iv) {i : Nat} (hi : i + 6 ≤ L) {M : Mem} (hM : Iv M) {H : Heap} {locs : List Loc} {ls : Array Slot} (hP : WP g M H) (hS : va_S (LwA s) s.heap H locs) (hl : LwL g b i ls) (kk : ∀ (M2 : Mem) (H2 : Heap) (locs2 : List Loc), Iv M2 → WP g M2 H2 → va_S (LwA s) s.heap H2 locs2 → W p l e room_1 s m #[Value.ref b] below meth c H2 locs2 600000 7302250 (lw_Z below #[Value.ref b] s) (F0 m 1120 ls [])) : W p l e room_1 s m #[Value.ref b] below meth c H locs 600000 7302250 (lw_Z below #[Value.ref b] s) (F0 m 386 ls []) := by
  obtain ⟨hx, hb, hr, hml, hown, hts, hX, hbl, hlocks, hgv⟩ := id C0
  have C : CallFix p m c code 4 s #[Value.ref b] TG N_Law := ⟨hx, hb, hml, hown, fun w hw => hts w (TG_tbl hw)⟩
  have hl : lv_has ls 4 [(0, .ref b), (1, .ref (g.2.2.2 0)), (2, .ref (g.2.2.2 29)), (3, .int (nI i))] := hl
  have hbA : ¬ LwA s b := Nat.not_le.mpr hbl
  have hk := hst (xs (nI i + nI 1).toNatClampNeg) (xs (nI i + nI 2).toNatClampNeg) (xs (nI i + nI 3).toNatClampNeg) (xs (nI i + nI 4).toNatClampNeg) (xs (nI i + nI 5).toNatClampNeg) M hM
  refine lv_aload_n hx hb d_law_386 rfl (lv_at hl 1 rfl) ?_
  refine lv_aload_n hx hb d_law_387 rfl (lv_at hl 0 rfl) ?_
  refine lv_iload_n hx hb d_law_388 rfl (lv_at hl 3 rfl) ?_
  refine lv_iconst (v := nI 1) hx hb d_law_389 (by decide) ?_
  refine lv_iadd hx hb d_law_390 ?_
  refine va_sld hx hb hX hbl hbA hS (lw_ix hL hi 1 (by decide)) d_law_391 ?_
  refine lv_aload_n hx hb d_law_392 rfl (lv_at hl 0 rfl) ?_
  refine lv_iload_n hx hb d_law_393 rfl (lv_at hl 3 rfl) ?_
  refine lv_iconst (v := nI 2) hx hb d_law_394 (by decide) ?_
  refine lv_iadd hx hb d_law_395 ?_
  refine va_sld hx hb hX hbl hbA hS (lw_ix hL hi 2 (by decide)) d_law_396 ?_
  refine lv_aload_n hx hb d_law_397 rfl (lv_at hl 0 rfl) ?_
  refine lv_iload_n hx hb d_law_398 rfl (lv_at hl 3 rfl) ?_
  refine lv_iconst (v := nI 3) hx hb d_law_399 (by decide) ?_
  refine lv_iadd hx hb d_law_400 ?_
  refine va_sld hx hb hX hbl hbA hS (lw_ix hL hi 3 (by decide)) d_law_401 ?_
  refine lv_aload_n hx hb d_law_402 rfl (lv_at hl 0 rfl) ?_
  refine lv_iload_n hx hb d_law_403 rfl (lv_at hl 3 rfl) ?_
  refine lv_iconst (v := nI 4) hx hb d_law_404 (by decide) ?_
  refine lv_iadd hx hb d_law_405 ?_
  refine va_sld hx hb hX hbl hbA hS (lw_ix hL hi 4 (by decide)) d_law_406 ?_
  refine lv_aload_n hx hb d_law_407 rfl (lv_at hl 0 rfl) ?_
  refine lv_iload_n hx hb d_law_408 rfl (lv_at hl 3 rfl) ?_
  refine lv_iconst (v := nI 5) hx hb d_law_409 (by decide) ?_
  refine lv_iadd hx hb d_law_410 ?_
  refine va_sld hx hb hX hbl hbA hS (lw_ix hL hi 5 (by decide)) d_law_411 ?_
  refine r_runIA (k_V (As := [.int (xs (nI i + nI 1).toNatClampNeg), .int (xs (nI i + nI 2).toNatClampNeg), .int (xs (nI i + nI 3).toNatClampNeg), .int (xs (nI i + nI 4).toNatClampNeg), .int (xs (nI i + nI 5).toNatClampNeg)]) (rest := []) C hW hP (c_Main_visits hI (xs (nI i + nI 1).toNatClampNeg) (xs (nI i + nI 2).toNatClampNeg) (xs (nI i + nI 3).toNatClampNeg) (xs (nI i + nI 4).toNatClampNeg) (xs (nI i + nI 5).toNatClampNeg) M _ hk) cb_Main_visits ml_Law_41 (io_0 g M) ⟨by decide, by decide⟩ rfl hl.1 rfl (Nat.le_of_ble_eq_true rfl) d_law_412 ⟨by decide, by decide⟩) hAW hS (fun r M1 H locs hk hP hS => ?_)
  refine lv_aload_n hx hb d_law_415 rfl (lv_at hl 2 rfl) ?_
  refine lv_aload_n hx hb d_law_416 rfl (lv_at hl 0 rfl) ?_
  refine lv_iload_n hx hb d_law_417 rfl (lv_at hl 3 rfl) ?_
  refine lv_iconst (v := nI 1) hx hb d_law_418 (by decide) ?_
  refine lv_iadd hx hb d_law_419 ?_
  refine va_sld hx hb hX hbl hbA hS (lw_ix hL hi 1 (by decide)) d_law_420 ?_
  refine lv_aload_n hx hb d_law_421 rfl (lv_at hl 0 rfl) ?_
  refine lv_iload_n hx hb d_law_422 rfl (lv_at hl 3 rfl) ?_
  refine lv_iconst (v := nI 2) hx hb d_law_423 (by decide) ?_
  refine lv_iadd hx hb d_law_424 ?_
  refine va_sld hx hb hX hbl hbA hS (lw_ix hL hi 2 (by decide)) d_law_425 ?_
  refine lv_aload_n hx hb d_law_426 rfl (lv_at hl 0 rfl) ?_
  refine lv_iload_n hx hb d_law_427 rfl (lv_at hl 3 rfl) ?_
  refine lv_iconst (v := nI 3) hx hb d_law_428 (by decide) ?_
  refine lv_iadd hx hb d_law_429 ?_
  refine va_sld hx hb hX hbl hbA hS (lw_ix hL hi 3 (by decide)) d_law_430 ?_
  refine lv_aload_n hx hb d_law_431 rfl (lv_at hl 0 rfl) ?_
  refine lv_iload_n hx hb d_law_432 rfl (lv_at hl 3 rfl) ?_
  refine lv_iconst (v := nI 4) hx hb d_law_433 (by decide) ?_
  refine lv_iadd hx hb d_law_434 ?_
  refine va_sld hx hb hX hbl hbA hS (lw_ix hL hi 4 (by decide)) d_law_435 ?_
  refine lv_aload_n hx hb d_law_436 rfl (lv_at hl 0 rfl) ?_
  refine lv_iload_n hx hb d_law_437 rfl (lv_at hl 3 rfl) ?_
  refine lv_iconst (v := nI 5) hx hb d_law_438 (by decide) ?_
  refine lv_iadd hx hb d_law_439 ?_
  refine va_sld hx hb hX hbl hbA hS (lw_ix hL hi 5 (by decide)) d_law_440 ?_
  refine r_runIA (k_V (As := [.int (xs (nI i + nI 1).toNatClampNeg), .int (xs (nI i + nI 2).toNatClampNeg), .int (xs (nI i + nI 3).toNatClampNeg), .int (xs (nI i + nI 4).toNatClampNeg), .int (xs (nI i + nI 5).toNatClampNeg)]) (rest := [.int r]) C hW hP (c_Model_visits hI (xs (nI i + nI 1).toNatClampNeg) (xs (nI i + nI 2).toNatClampNeg) (xs (nI i + nI 3).toNatClampNeg) (xs (nI i + nI 4).toNatClampNeg) (xs (nI i + nI 5).toNatClampNeg) M1 _ hk) cb_Model_visits ml_Law_45 (io_29 g M1) ⟨by decide, by decide⟩ rfl hl.1 rfl (Nat.le_of_ble_eq_true rfl) d_law_441 ⟨by decide, by decide⟩) hAW hS (fun r2 M2 H locs hk hP hS => ?_)
  obtain ⟨rfl, hM2⟩ := hk
  refine lv_icmp_eq (tgt := 1120) hx hb d_law_444 (by decide) (fun c1 => ?_) (fun c1 => absurd rfl c1)
  exact kk M2 H locs hM2 hP hS
theorem law_case_going {p : Program} {l : Launch} {e : Env} {s : State} {m : MethodId} {below : List Frame} {meth : Method} {c : Code} {b L : Nat} {xs : Nat → Int32} {g : GG} {Iv : Mem → Prop} (hL : L ≤ 384) (C0 : lw_At p s m meth c b L xs) (hI : WI g) (hW : WK g s) (hAW : ∀ q, AW g q → LwA s q) (hst : St_going Iv) {i : Nat} (hi : i + 6 ≤ L) {M : Mem} (hM : Iv M) {H : Heap} {locs : List Loc} {ls : Array Slot} (hP : WP g M H) (hS : va_S (LwA s) s.heap H locs) (hl : LwL g b i ls) (kk : ∀ (M2 : Mem) (H2 : Heap) (locs2 : List Loc), Iv M2 → WP g M2 H2 → va_S (LwA s) s.heap H2 locs2 → W p l e room_1 s m #[Value.ref b] below meth c H2 locs2 600000 7302250 (lw_Z below #[Value.ref b] s) (F0 m 1120 ls [])) : W p l e room_1 s m #[Value.ref b] below meth c H locs 600000 7302250 (lw_Z below #[Value.ref b] s) (F0 m 449 ls []) := by
  obtain ⟨hx, hb, hr, hml, hown, hts, hX, hbl, hlocks, hgv⟩ := id C0
  have C : CallFix p m c code 4 s #[Value.ref b] TG N_Law := ⟨hx, hb, hml, hown, fun w hw => hts w (TG_tbl hw)⟩
  have hl : lv_has ls 4 [(0, .ref b), (1, .ref (g.2.2.2 0)), (2, .ref (g.2.2.2 29)), (3, .int (nI i))] := hl
  have hbA : ¬ LwA s b := Nat.not_le.mpr hbl
  have hk := hst (xs (nI i + nI 1).toNatClampNeg) (xs (nI i + nI 2).toNatClampNeg) (xs (nI i + nI 3).toNatClampNeg) (xs (nI i + nI 4).toNatClampNeg) (xs (nI i + nI 5).toNatClampNeg) M hM
  refine lv_aload_n hx hb d_law_449 rfl (lv_at hl 1 rfl) ?_
  refine lv_aload_n hx hb d_law_450 rfl (lv_at hl 0 rfl) ?_
  refine lv_iload_n hx hb d_law_451 rfl (lv_at hl 3 rfl) ?_
  refine lv_iconst (v := nI 1) hx hb d_law_452 (by decide) ?_
  refine lv_iadd hx hb d_law_453 ?_
  refine va_sld hx hb hX hbl hbA hS (lw_ix hL hi 1 (by decide)) d_law_454 ?_
  refine lv_aload_n hx hb d_law_455 rfl (lv_at hl 0 rfl) ?_
  refine lv_iload_n hx hb d_law_456 rfl (lv_at hl 3 rfl) ?_
  refine lv_iconst (v := nI 2) hx hb d_law_457 (by decide) ?_
  refine lv_iadd hx hb d_law_458 ?_
  refine va_sld hx hb hX hbl hbA hS (lw_ix hL hi 2 (by decide)) d_law_459 ?_
  refine lv_aload_n hx hb d_law_460 rfl (lv_at hl 0 rfl) ?_
  refine lv_iload_n hx hb d_law_461 rfl (lv_at hl 3 rfl) ?_
  refine lv_iconst (v := nI 3) hx hb d_law_462 (by decide) ?_
  refine lv_iadd hx hb d_law_463 ?_
  refine va_sld hx hb hX hbl hbA hS (lw_ix hL hi 3 (by decide)) d_law_464 ?_
  refine lv_aload_n hx hb d_law_465 rfl (lv_at hl 0 rfl) ?_
  refine lv_iload_n hx hb d_law_466 rfl (lv_at hl 3 rfl) ?_
  refine lv_iconst (v := nI 4) hx hb d_law_467 (by decide) ?_
  refine lv_iadd hx hb d_law_468 ?_
  refine va_sld hx hb hX hbl hbA hS (lw_ix hL hi 4 (by decide)) d_law_469 ?_
  refine lv_aload_n hx hb d_law_470 rfl (lv_at hl 0 rfl) ?_
  refine lv_iload_n hx hb d_law_471 rfl (lv_at hl 3 rfl) ?_
  refine lv_iconst (v := nI 5) hx hb d_law_472 (by decide) ?_
  refine lv_iadd hx hb d_law_473 ?_
  refine va_sld hx hb hX hbl hbA hS (lw_ix hL hi 5 (by decide)) d_law_474 ?_
  refine r_runIA (k_V (As := [.int (xs (nI i + nI 1).toNatClampNeg), .int (xs (nI i + nI 2).toNatClampNeg), .int (xs (nI i + nI 3).toNatClampNeg), .int (xs (nI i + nI 4).toNatClampNeg), .int (xs (nI i + nI 5).toNatClampNeg)]) (rest := []) C hW hP (c_Main_going hI (xs (nI i + nI 1).toNatClampNeg) (xs (nI i + nI 2).toNatClampNeg) (xs (nI i + nI 3).toNatClampNeg) (xs (nI i + nI 4).toNatClampNeg) (xs (nI i + nI 5).toNatClampNeg) M _ hk) cb_Main_going ml_Law_46 (io_0 g M) ⟨by decide, by decide⟩ rfl hl.1 rfl (Nat.le_of_ble_eq_true rfl) d_law_475 ⟨by decide, by decide⟩) hAW hS (fun r M1 H locs hk hP hS => ?_)
  refine lv_aload_n hx hb d_law_478 rfl (lv_at hl 2 rfl) ?_
  refine lv_aload_n hx hb d_law_479 rfl (lv_at hl 0 rfl) ?_
  refine lv_iload_n hx hb d_law_480 rfl (lv_at hl 3 rfl) ?_
  refine lv_iconst (v := nI 1) hx hb d_law_481 (by decide) ?_
  refine lv_iadd hx hb d_law_482 ?_
  refine va_sld hx hb hX hbl hbA hS (lw_ix hL hi 1 (by decide)) d_law_483 ?_
  refine lv_aload_n hx hb d_law_484 rfl (lv_at hl 0 rfl) ?_
  refine lv_iload_n hx hb d_law_485 rfl (lv_at hl 3 rfl) ?_
  refine lv_iconst (v := nI 2) hx hb d_law_486 (by decide) ?_
  refine lv_iadd hx hb d_law_487 ?_
  refine va_sld hx hb hX hbl hbA hS (lw_ix hL hi 2 (by decide)) d_law_488 ?_
  refine lv_aload_n hx hb d_law_489 rfl (lv_at hl 0 rfl) ?_
  refine lv_iload_n hx hb d_law_490 rfl (lv_at hl 3 rfl) ?_
  refine lv_iconst (v := nI 3) hx hb d_law_491 (by decide) ?_
  refine lv_iadd hx hb d_law_492 ?_
  refine va_sld hx hb hX hbl hbA hS (lw_ix hL hi 3 (by decide)) d_law_493 ?_
  refine lv_aload_n hx hb d_law_494 rfl (lv_at hl 0 rfl) ?_
  refine lv_iload_n hx hb d_law_495 rfl (lv_at hl 3 rfl) ?_
  refine lv_iconst (v := nI 4) hx hb d_law_496 (by decide) ?_
  refine lv_iadd hx hb d_law_497 ?_
  refine va_sld hx hb hX hbl hbA hS (lw_ix hL hi 4 (by decide)) d_law_498 ?_
  refine lv_aload_n hx hb d_law_499 rfl (lv_at hl 0 rfl) ?_
  refine lv_iload_n hx hb d_law_500 rfl (lv_at hl 3 rfl) ?_
  refine lv_iconst (v := nI 5) hx hb d_law_501 (by decide) ?_
  refine lv_iadd hx hb d_law_502 ?_
  refine va_sld hx hb hX hbl hbA hS (lw_ix hL hi 5 (by decide)) d_law_503 ?_
  refine r_runIA (k_V (As := [.int (xs (nI i + nI 1).toNatClampNeg), .int (xs (nI i + nI 2).toNatClampNeg), .int (xs (nI i + nI 3).toNatClampNeg), .int (xs (nI i + nI 4).toNatClampNeg), .int (xs (nI i + nI 5).toNatClampNeg)]) (rest := [.int r]) C hW hP (c_Model_going hI (xs (nI i + nI 1).toNatClampNeg) (xs (nI i + nI 2).toNatClampNeg) (xs (nI i + nI 3).toNatClampNeg) (xs (nI i + nI 4).toNatClampNeg) (xs (nI i + nI 5).toNatClampNeg) M1 _ hk) cb_Model_going ml_Law_49 (io_29 g M1) ⟨by decide, by decide⟩ rfl hl.1 rfl (Nat.le_of_ble_eq_true rfl) d_law_504 ⟨by decide, by decide⟩) hAW hS (fun r2 M2 H locs hk hP hS => ?_)
  obtain ⟨rfl, hM2⟩ := hk
  refine lv_icmp_eq (tgt := 1120) hx hb d_law_507 (by decide) (fun c1 => ?_) (fun c1 => absurd rfl c1)
  exact kk M2 H locs hM2 hP hS
theorem law_case_least {p : Program} {l : Launch} {e : Env} {s : State} {m : MethodId} {below : List Frame} {meth : Method} {c : Code} {b L : Nat} {xs : Nat → Int32} {g : GG} {Iv : Mem → Prop} (hL : L ≤ 384) (C0 : lw_At p s m meth c b L xs) (hI : WI g) (hW : WK g s) (hAW : ∀ q, AW g q → LwA s q) (hst : St_least Iv) {i : Nat} (hi : i + 6 ≤ L) {M : Mem} (hM : Iv M) {H : Heap} {locs : List Loc} {ls : Array Slot} (hP : WP g M H) (hS : va_S (LwA s) s.heap H locs) (hl : LwL g b i ls) (kk : ∀ (M2 : Mem) (H2 : Heap) (locs2 : List Loc), Iv M2 → WP g M2 H2 → va_S (LwA s) s.heap H2 locs2 → W p l e room_1 s m #[Value.ref b] below meth c H2 locs2 600000 7302250 (lw_Z below #[Value.ref b] s) (F0 m 1120 ls [])) : W p l e room_1 s m #[Value.ref b] below meth c H locs 600000 7302250 (lw_Z below #[Value.ref b] s) (F0 m 512 ls []) := by
  obtain ⟨hx, hb, hr, hml, hown, hts, hX, hbl, hlocks, hgv⟩ := id C0
  have C : CallFix p m c code 4 s #[Value.ref b] TG N_Law := ⟨hx, hb, hml, hown, fun w hw => hts w (TG_tbl hw)⟩
  have hl : lv_has ls 4 [(0, .ref b), (1, .ref (g.2.2.2 0)), (2, .ref (g.2.2.2 29)), (3, .int (nI i))] := hl
  have hbA : ¬ LwA s b := Nat.not_le.mpr hbl
  have hk := hst  M hM
  refine lv_aload_n hx hb d_law_512 rfl (lv_at hl 1 rfl) ?_
  refine r_runIA (k_V (As := []) (rest := []) C hW hP (c_Main_least hI  M _ hk) cb_Main_least ml_Law_50 (io_0 g M) ⟨by decide, by decide⟩ rfl hl.1 rfl (Nat.le_of_ble_eq_true rfl) d_law_513 ⟨by decide, by decide⟩) hAW hS (fun r M1 H locs hk hP hS => ?_)
  refine lv_aload_n hx hb d_law_516 rfl (lv_at hl 2 rfl) ?_
  refine r_runIA (k_V (As := []) (rest := [.int r]) C hW hP (c_Model_least hI  M1 _ hk) cb_Model_least ml_Law_54 (io_29 g M1) ⟨by decide, by decide⟩ rfl hl.1 rfl (Nat.le_of_ble_eq_true rfl) d_law_517 ⟨by decide, by decide⟩) hAW hS (fun r2 M2 H locs hk hP hS => ?_)
  obtain ⟨rfl, hM2⟩ := hk
  refine lv_icmp_eq (tgt := 1120) hx hb d_law_520 (by decide) (fun c1 => ?_) (fun c1 => absurd rfl c1)
  exact kk M2 H locs hM2 hP hS
theorem law_case_hard {p : Program} {l : Launch} {e : Env} {s : State} {m : MethodId} {below : List Frame} {meth : Method} {c : Code} {b L : Nat} {xs : Nat → Int32} {g : GG} {Iv : Mem → Prop} (hL : L ≤ 384) (C0 : lw_At p s m meth c b L xs) (hI : WI g) (hW : WK g s) (hAW : ∀ q, AW g q → LwA s q) (hst : St_hard Iv) {i : Nat} (hi : i + 6 ≤ L) {M : Mem} (hM : Iv M) {H : Heap} {locs : List Loc} {ls : Array Slot} (hP : WP g M H) (hS : va_S (LwA s) s.heap H locs) (hl : LwL g b i ls) (kk : ∀ (M2 : Mem) (H2 : Heap) (locs2 : List Loc), Iv M2 → WP g M2 H2 → va_S (LwA s) s.heap H2 locs2 → W p l e room_1 s m #[Value.ref b] below meth c H2 locs2 600000 7302250 (lw_Z below #[Value.ref b] s) (F0 m 1120 ls [])) : W p l e room_1 s m #[Value.ref b] below meth c H locs 600000 7302250 (lw_Z below #[Value.ref b] s) (F0 m 525 ls []) := by
  obtain ⟨hx, hb, hr, hml, hown, hts, hX, hbl, hlocks, hgv⟩ := id C0
  have C : CallFix p m c code 4 s #[Value.ref b] TG N_Law := ⟨hx, hb, hml, hown, fun w hw => hts w (TG_tbl hw)⟩
  have hl : lv_has ls 4 [(0, .ref b), (1, .ref (g.2.2.2 0)), (2, .ref (g.2.2.2 29)), (3, .int (nI i))] := hl
  have hbA : ¬ LwA s b := Nat.not_le.mpr hbl
  have hk := hst  M hM
  refine lv_aload_n hx hb d_law_525 rfl (lv_at hl 1 rfl) ?_
  refine r_runIA (k_V (As := []) (rest := []) C hW hP (c_Main_hard hI  M _ hk) cb_Main_hard ml_Law_55 (io_0 g M) ⟨by decide, by decide⟩ rfl hl.1 rfl (Nat.le_of_ble_eq_true rfl) d_law_526 ⟨by decide, by decide⟩) hAW hS (fun r M1 H locs hk hP hS => ?_)
  refine lv_aload_n hx hb d_law_529 rfl (lv_at hl 2 rfl) ?_
  refine r_runIA (k_V (As := []) (rest := [.int r]) C hW hP (c_Model_hard hI  M1 _ hk) cb_Model_hard ml_Law_58 (io_29 g M1) ⟨by decide, by decide⟩ rfl hl.1 rfl (Nat.le_of_ble_eq_true rfl) d_law_530 ⟨by decide, by decide⟩) hAW hS (fun r2 M2 H locs hk hP hS => ?_)
  obtain ⟨rfl, hM2⟩ := hk
  refine lv_icmp_eq (tgt := 1120) hx hb d_law_533 (by decide) (fun c1 => ?_) (fun c1 => absurd rfl c1)
  exact kk M2 H locs hM2 hP hS
theorem law_case_best {p : Program} {l : Launch} {e : Env} {s : State} {m : MethodId} {below : List Frame} {meth : Method} {c : Code} {b L : Nat} {xs : Nat → Int32} {g : GG} {Iv : Mem → Prop} (hL : L ≤ 384) (C0 : lw_At p s m meth c b L xs) (hI : WI g) (hW : WK g s) (hAW : ∀ q, AW g q → LwA s q) (hst : St_best Iv) {i : Nat} (hi : i + 6 ≤ L) {M : Mem} (hM : Iv M) {H : Heap} {locs : List Loc} {ls : Array Slot} (hP : WP g M H) (hS : va_S (LwA s) s.heap H locs) (hl : LwL g b i ls) (kk : ∀ (M2 : Mem) (H2 : Heap) (locs2 : List Loc), Iv M2 → WP g M2 H2 → va_S (LwA s) s.heap H2 locs2 → W p l e room_1 s m #[Value.ref b] below meth c H2 locs2 600000 7302250 (lw_Z below #[Value.ref b] s) (F0 m 1120 ls [])) : W p l e room_1 s m #[Value.ref b] below meth c H locs 600000 7302250 (lw_Z below #[Value.ref b] s) (F0 m 538 ls []) := by
  obtain ⟨hx, hb, hr, hml, hown, hts, hX, hbl, hlocks, hgv⟩ := id C0
  have C : CallFix p m c code 4 s #[Value.ref b] TG N_Law := ⟨hx, hb, hml, hown, fun w hw => hts w (TG_tbl hw)⟩
  have hl : lv_has ls 4 [(0, .ref b), (1, .ref (g.2.2.2 0)), (2, .ref (g.2.2.2 29)), (3, .int (nI i))] := hl
  have hbA : ¬ LwA s b := Nat.not_le.mpr hbl
  have hk := hst (xs (nI i + nI 1).toNatClampNeg) M hM
  refine lv_aload_n hx hb d_law_538 rfl (lv_at hl 1 rfl) ?_
  refine lv_aload_n hx hb d_law_539 rfl (lv_at hl 0 rfl) ?_
  refine lv_iload_n hx hb d_law_540 rfl (lv_at hl 3 rfl) ?_
  refine lv_iconst (v := nI 1) hx hb d_law_541 (by decide) ?_
  refine lv_iadd hx hb d_law_542 ?_
  refine va_sld hx hb hX hbl hbA hS (lw_ix hL hi 1 (by decide)) d_law_543 ?_
  refine r_runIA (k_V (As := [.int (xs (nI i + nI 1).toNatClampNeg)]) (rest := []) C hW hP (c_Main_best hI (xs (nI i + nI 1).toNatClampNeg) M _ hk) cb_Main_best ml_Law_59 (io_0 g M) ⟨by decide, by decide⟩ rfl hl.1 rfl (Nat.le_of_ble_eq_true rfl) d_law_544 ⟨by decide, by decide⟩) hAW hS (fun r M1 H locs hk hP hS => ?_)
  refine lv_aload_n hx hb d_law_547 rfl (lv_at hl 2 rfl) ?_
  refine lv_aload_n hx hb d_law_548 rfl (lv_at hl 0 rfl) ?_
  refine lv_iload_n hx hb d_law_549 rfl (lv_at hl 3 rfl) ?_
  refine lv_iconst (v := nI 1) hx hb d_law_550 (by decide) ?_
  refine lv_iadd hx hb d_law_551 ?_
  refine va_sld hx hb hX hbl hbA hS (lw_ix hL hi 1 (by decide)) d_law_552 ?_
  refine r_runIA (k_V (As := [.int (xs (nI i + nI 1).toNatClampNeg)]) (rest := [.int r]) C hW hP (c_Model_best hI (xs (nI i + nI 1).toNatClampNeg) M1 _ hk) cb_Model_best ml_Law_62 (io_29 g M1) ⟨by decide, by decide⟩ rfl hl.1 rfl (Nat.le_of_ble_eq_true rfl) d_law_553 ⟨by decide, by decide⟩) hAW hS (fun r2 M2 H locs hk hP hS => ?_)
  obtain ⟨rfl, hM2⟩ := hk
  refine lv_icmp_eq (tgt := 1120) hx hb d_law_556 (by decide) (fun c1 => ?_) (fun c1 => absurd rfl c1)
  exact kk M2 H locs hM2 hP hS
theorem law_case_twos {p : Program} {l : Launch} {e : Env} {s : State} {m : MethodId} {below : List Frame} {meth : Method} {c : Code} {b L : Nat} {xs : Nat → Int32} {g : GG} {Iv : Mem → Prop} (hL : L ≤ 384) (C0 : lw_At p s m meth c b L xs) (hI : WI g) (hW : WK g s) (hAW : ∀ q, AW g q → LwA s q) (hst : St_twos Iv) {i : Nat} (hi : i + 6 ≤ L) {M : Mem} (hM : Iv M) {H : Heap} {locs : List Loc} {ls : Array Slot} (hP : WP g M H) (hS : va_S (LwA s) s.heap H locs) (hl : LwL g b i ls) (kk : ∀ (M2 : Mem) (H2 : Heap) (locs2 : List Loc), Iv M2 → WP g M2 H2 → va_S (LwA s) s.heap H2 locs2 → W p l e room_1 s m #[Value.ref b] below meth c H2 locs2 600000 7302250 (lw_Z below #[Value.ref b] s) (F0 m 1120 ls [])) : W p l e room_1 s m #[Value.ref b] below meth c H locs 600000 7302250 (lw_Z below #[Value.ref b] s) (F0 m 561 ls []) := by
  obtain ⟨hx, hb, hr, hml, hown, hts, hX, hbl, hlocks, hgv⟩ := id C0
  have C : CallFix p m c code 4 s #[Value.ref b] TG N_Law := ⟨hx, hb, hml, hown, fun w hw => hts w (TG_tbl hw)⟩
  have hl : lv_has ls 4 [(0, .ref b), (1, .ref (g.2.2.2 0)), (2, .ref (g.2.2.2 29)), (3, .int (nI i))] := hl
  have hbA : ¬ LwA s b := Nat.not_le.mpr hbl
  have hk := hst (xs (nI i + nI 1).toNatClampNeg) M hM
  refine lv_aload_n hx hb d_law_561 rfl (lv_at hl 1 rfl) ?_
  refine lv_aload_n hx hb d_law_562 rfl (lv_at hl 0 rfl) ?_
  refine lv_iload_n hx hb d_law_563 rfl (lv_at hl 3 rfl) ?_
  refine lv_iconst (v := nI 1) hx hb d_law_564 (by decide) ?_
  refine lv_iadd hx hb d_law_565 ?_
  refine va_sld hx hb hX hbl hbA hS (lw_ix hL hi 1 (by decide)) d_law_566 ?_
  refine r_runIA (k_V (As := [.int (xs (nI i + nI 1).toNatClampNeg)]) (rest := []) C hW hP (c_Main_twos hI (xs (nI i + nI 1).toNatClampNeg) M _ hk) cb_Main_twos ml_Law_63 (io_0 g M) ⟨by decide, by decide⟩ rfl hl.1 rfl (Nat.le_of_ble_eq_true rfl) d_law_567 ⟨by decide, by decide⟩) hAW hS (fun r M1 H locs hk hP hS => ?_)
  refine lv_aload_n hx hb d_law_570 rfl (lv_at hl 2 rfl) ?_
  refine lv_aload_n hx hb d_law_571 rfl (lv_at hl 0 rfl) ?_
  refine lv_iload_n hx hb d_law_572 rfl (lv_at hl 3 rfl) ?_
  refine lv_iconst (v := nI 1) hx hb d_law_573 (by decide) ?_
  refine lv_iadd hx hb d_law_574 ?_
  refine va_sld hx hb hX hbl hbA hS (lw_ix hL hi 1 (by decide)) d_law_575 ?_
  refine r_runIA (k_V (As := [.int (xs (nI i + nI 1).toNatClampNeg)]) (rest := [.int r]) C hW hP (c_Model_twos hI (xs (nI i + nI 1).toNatClampNeg) M1 _ hk) cb_Model_twos ml_Law_66 (io_29 g M1) ⟨by decide, by decide⟩ rfl hl.1 rfl (Nat.le_of_ble_eq_true rfl) d_law_576 ⟨by decide, by decide⟩) hAW hS (fun r2 M2 H locs hk hP hS => ?_)
  obtain ⟨rfl, hM2⟩ := hk
  refine lv_icmp_eq (tgt := 1120) hx hb d_law_579 (by decide) (fun c1 => ?_) (fun c1 => absurd rfl c1)
  exact kk M2 H locs hM2 hP hS
theorem law_case_gift {p : Program} {l : Launch} {e : Env} {s : State} {m : MethodId} {below : List Frame} {meth : Method} {c : Code} {b L : Nat} {xs : Nat → Int32} {g : GG} {Iv : Mem → Prop} (hL : L ≤ 384) (C0 : lw_At p s m meth c b L xs) (hI : WI g) (hW : WK g s) (hAW : ∀ q, AW g q → LwA s q) (hst : St_gift Iv) {i : Nat} (hi : i + 6 ≤ L) {M : Mem} (hM : Iv M) {H : Heap} {locs : List Loc} {ls : Array Slot} (hP : WP g M H) (hS : va_S (LwA s) s.heap H locs) (hl : LwL g b i ls) (kk : ∀ (M2 : Mem) (H2 : Heap) (locs2 : List Loc), Iv M2 → WP g M2 H2 → va_S (LwA s) s.heap H2 locs2 → W p l e room_1 s m #[Value.ref b] below meth c H2 locs2 600000 7302250 (lw_Z below #[Value.ref b] s) (F0 m 1120 ls [])) : W p l e room_1 s m #[Value.ref b] below meth c H locs 600000 7302250 (lw_Z below #[Value.ref b] s) (F0 m 584 ls []) := by
  obtain ⟨hx, hb, hr, hml, hown, hts, hX, hbl, hlocks, hgv⟩ := id C0
  have C : CallFix p m c code 4 s #[Value.ref b] TG N_Law := ⟨hx, hb, hml, hown, fun w hw => hts w (TG_tbl hw)⟩
  have hl : lv_has ls 4 [(0, .ref b), (1, .ref (g.2.2.2 0)), (2, .ref (g.2.2.2 29)), (3, .int (nI i))] := hl
  have hbA : ¬ LwA s b := Nat.not_le.mpr hbl
  have hk := hst (xs (nI i + nI 1).toNatClampNeg) M hM
  refine lv_aload_n hx hb d_law_584 rfl (lv_at hl 1 rfl) ?_
  refine lv_aload_n hx hb d_law_585 rfl (lv_at hl 0 rfl) ?_
  refine lv_iload_n hx hb d_law_586 rfl (lv_at hl 3 rfl) ?_
  refine lv_iconst (v := nI 1) hx hb d_law_587 (by decide) ?_
  refine lv_iadd hx hb d_law_588 ?_
  refine va_sld hx hb hX hbl hbA hS (lw_ix hL hi 1 (by decide)) d_law_589 ?_
  refine r_runIA (k_V (As := [.int (xs (nI i + nI 1).toNatClampNeg)]) (rest := []) C hW hP (c_Main_gift hI (xs (nI i + nI 1).toNatClampNeg) M _ hk) cb_Main_gift ml_Law_67 (io_0 g M) ⟨by decide, by decide⟩ rfl hl.1 rfl (Nat.le_of_ble_eq_true rfl) d_law_590 ⟨by decide, by decide⟩) hAW hS (fun r M1 H locs hk hP hS => ?_)
  refine lv_aload_n hx hb d_law_593 rfl (lv_at hl 2 rfl) ?_
  refine lv_aload_n hx hb d_law_594 rfl (lv_at hl 0 rfl) ?_
  refine lv_iload_n hx hb d_law_595 rfl (lv_at hl 3 rfl) ?_
  refine lv_iconst (v := nI 1) hx hb d_law_596 (by decide) ?_
  refine lv_iadd hx hb d_law_597 ?_
  refine va_sld hx hb hX hbl hbA hS (lw_ix hL hi 1 (by decide)) d_law_598 ?_
  refine r_runIA (k_V (As := [.int (xs (nI i + nI 1).toNatClampNeg)]) (rest := [.int r]) C hW hP (c_Model_gift hI (xs (nI i + nI 1).toNatClampNeg) M1 _ hk) cb_Model_gift ml_Law_70 (io_29 g M1) ⟨by decide, by decide⟩ rfl hl.1 rfl (Nat.le_of_ble_eq_true rfl) d_law_599 ⟨by decide, by decide⟩) hAW hS (fun r2 M2 H locs hk hP hS => ?_)
  obtain ⟨rfl, hM2⟩ := hk
  refine lv_icmp_eq (tgt := 1120) hx hb d_law_602 (by decide) (fun c1 => ?_) (fun c1 => absurd rfl c1)
  exact kk M2 H locs hM2 hP hS
theorem law_case_worst {p : Program} {l : Launch} {e : Env} {s : State} {m : MethodId} {below : List Frame} {meth : Method} {c : Code} {b L : Nat} {xs : Nat → Int32} {g : GG} {Iv : Mem → Prop} (hL : L ≤ 384) (C0 : lw_At p s m meth c b L xs) (hI : WI g) (hW : WK g s) (hAW : ∀ q, AW g q → LwA s q) (hst : St_worst Iv) {i : Nat} (hi : i + 6 ≤ L) {M : Mem} (hM : Iv M) {H : Heap} {locs : List Loc} {ls : Array Slot} (hP : WP g M H) (hS : va_S (LwA s) s.heap H locs) (hl : LwL g b i ls) (kk : ∀ (M2 : Mem) (H2 : Heap) (locs2 : List Loc), Iv M2 → WP g M2 H2 → va_S (LwA s) s.heap H2 locs2 → W p l e room_1 s m #[Value.ref b] below meth c H2 locs2 600000 7302250 (lw_Z below #[Value.ref b] s) (F0 m 1120 ls [])) : W p l e room_1 s m #[Value.ref b] below meth c H locs 600000 7302250 (lw_Z below #[Value.ref b] s) (F0 m 607 ls []) := by
  obtain ⟨hx, hb, hr, hml, hown, hts, hX, hbl, hlocks, hgv⟩ := id C0
  have C : CallFix p m c code 4 s #[Value.ref b] TG N_Law := ⟨hx, hb, hml, hown, fun w hw => hts w (TG_tbl hw)⟩
  have hl : lv_has ls 4 [(0, .ref b), (1, .ref (g.2.2.2 0)), (2, .ref (g.2.2.2 29)), (3, .int (nI i))] := hl
  have hbA : ¬ LwA s b := Nat.not_le.mpr hbl
  have hk := hst (xs (nI i + nI 1).toNatClampNeg) M hM
  refine lv_aload_n hx hb d_law_607 rfl (lv_at hl 1 rfl) ?_
  refine lv_aload_n hx hb d_law_608 rfl (lv_at hl 0 rfl) ?_
  refine lv_iload_n hx hb d_law_609 rfl (lv_at hl 3 rfl) ?_
  refine lv_iconst (v := nI 1) hx hb d_law_610 (by decide) ?_
  refine lv_iadd hx hb d_law_611 ?_
  refine va_sld hx hb hX hbl hbA hS (lw_ix hL hi 1 (by decide)) d_law_612 ?_
  refine r_runIA (k_V (As := [.int (xs (nI i + nI 1).toNatClampNeg)]) (rest := []) C hW hP (c_Main_worst hI (xs (nI i + nI 1).toNatClampNeg) M _ hk) cb_Main_worst ml_Law_71 (io_0 g M) ⟨by decide, by decide⟩ rfl hl.1 rfl (Nat.le_of_ble_eq_true rfl) d_law_613 ⟨by decide, by decide⟩) hAW hS (fun r M1 H locs hk hP hS => ?_)
  refine lv_aload_n hx hb d_law_616 rfl (lv_at hl 2 rfl) ?_
  refine lv_aload_n hx hb d_law_617 rfl (lv_at hl 0 rfl) ?_
  refine lv_iload_n hx hb d_law_618 rfl (lv_at hl 3 rfl) ?_
  refine lv_iconst (v := nI 1) hx hb d_law_619 (by decide) ?_
  refine lv_iadd hx hb d_law_620 ?_
  refine va_sld hx hb hX hbl hbA hS (lw_ix hL hi 1 (by decide)) d_law_621 ?_
  refine r_runIA (k_V (As := [.int (xs (nI i + nI 1).toNatClampNeg)]) (rest := [.int r]) C hW hP (c_Model_worst hI (xs (nI i + nI 1).toNatClampNeg) M1 _ hk) cb_Model_worst ml_Law_74 (io_29 g M1) ⟨by decide, by decide⟩ rfl hl.1 rfl (Nat.le_of_ble_eq_true rfl) d_law_622 ⟨by decide, by decide⟩) hAW hS (fun r2 M2 H locs hk hP hS => ?_)
  obtain ⟨rfl, hM2⟩ := hk
  refine lv_icmp_eq (tgt := 1120) hx hb d_law_625 (by decide) (fun c1 => ?_) (fun c1 => absurd rfl c1)
  exact kk M2 H locs hM2 hP hS
theorem law_case_reading {p : Program} {l : Launch} {e : Env} {s : State} {m : MethodId} {below : List Frame} {meth : Method} {c : Code} {b L : Nat} {xs : Nat → Int32} {g : GG} {Iv : Mem → Prop} (hL : L ≤ 384) (C0 : lw_At p s m meth c b L xs) (hI : WI g) (hW : WK g s) (hAW : ∀ q, AW g q → LwA s q) (hst : St_reading Iv) {i : Nat} (hi : i + 6 ≤ L) {M : Mem} (hM : Iv M) {H : Heap} {locs : List Loc} {ls : Array Slot} (hP : WP g M H) (hS : va_S (LwA s) s.heap H locs) (hl : LwL g b i ls) (kk : ∀ (M2 : Mem) (H2 : Heap) (locs2 : List Loc), Iv M2 → WP g M2 H2 → va_S (LwA s) s.heap H2 locs2 → W p l e room_1 s m #[Value.ref b] below meth c H2 locs2 600000 7302250 (lw_Z below #[Value.ref b] s) (F0 m 1120 ls [])) : W p l e room_1 s m #[Value.ref b] below meth c H locs 600000 7302250 (lw_Z below #[Value.ref b] s) (F0 m 630 ls []) := by
  obtain ⟨hx, hb, hr, hml, hown, hts, hX, hbl, hlocks, hgv⟩ := id C0
  have C : CallFix p m c code 4 s #[Value.ref b] TG N_Law := ⟨hx, hb, hml, hown, fun w hw => hts w (TG_tbl hw)⟩
  have hl : lv_has ls 4 [(0, .ref b), (1, .ref (g.2.2.2 0)), (2, .ref (g.2.2.2 29)), (3, .int (nI i))] := hl
  have hbA : ¬ LwA s b := Nat.not_le.mpr hbl
  have hk := hst (xs (nI i + nI 1).toNatClampNeg) (xs (nI i + nI 2).toNatClampNeg) M hM
  refine lv_aload_n hx hb d_law_630 rfl (lv_at hl 1 rfl) ?_
  refine lv_aload_n hx hb d_law_631 rfl (lv_at hl 0 rfl) ?_
  refine lv_iload_n hx hb d_law_632 rfl (lv_at hl 3 rfl) ?_
  refine lv_iconst (v := nI 1) hx hb d_law_633 (by decide) ?_
  refine lv_iadd hx hb d_law_634 ?_
  refine va_sld hx hb hX hbl hbA hS (lw_ix hL hi 1 (by decide)) d_law_635 ?_
  refine lv_aload_n hx hb d_law_636 rfl (lv_at hl 0 rfl) ?_
  refine lv_iload_n hx hb d_law_637 rfl (lv_at hl 3 rfl) ?_
  refine lv_iconst (v := nI 2) hx hb d_law_638 (by decide) ?_
  refine lv_iadd hx hb d_law_639 ?_
  refine va_sld hx hb hX hbl hbA hS (lw_ix hL hi 2 (by decide)) d_law_640 ?_
  refine r_runIA (k_V (As := [.int (xs (nI i + nI 1).toNatClampNeg), .int (xs (nI i + nI 2).toNatClampNeg)]) (rest := []) C hW hP (c_Main_reading hI (xs (nI i + nI 1).toNatClampNeg) (xs (nI i + nI 2).toNatClampNeg) M _ hk) cb_Main_reading ml_Law_75 (io_0 g M) ⟨by decide, by decide⟩ rfl hl.1 rfl (Nat.le_of_ble_eq_true rfl) d_law_641 ⟨by decide, by decide⟩) hAW hS (fun r M1 H locs hk hP hS => ?_)
  refine lv_aload_n hx hb d_law_644 rfl (lv_at hl 2 rfl) ?_
  refine lv_aload_n hx hb d_law_645 rfl (lv_at hl 0 rfl) ?_
  refine lv_iload_n hx hb d_law_646 rfl (lv_at hl 3 rfl) ?_
  refine lv_iconst (v := nI 1) hx hb d_law_647 (by decide) ?_
  refine lv_iadd hx hb d_law_648 ?_
  refine va_sld hx hb hX hbl hbA hS (lw_ix hL hi 1 (by decide)) d_law_649 ?_
  refine lv_aload_n hx hb d_law_650 rfl (lv_at hl 0 rfl) ?_
  refine lv_iload_n hx hb d_law_651 rfl (lv_at hl 3 rfl) ?_
  refine lv_iconst (v := nI 2) hx hb d_law_652 (by decide) ?_
  refine lv_iadd hx hb d_law_653 ?_
  refine va_sld hx hb hX hbl hbA hS (lw_ix hL hi 2 (by decide)) d_law_654 ?_
  refine r_runIA (k_V (As := [.int (xs (nI i + nI 1).toNatClampNeg), .int (xs (nI i + nI 2).toNatClampNeg)]) (rest := [.int r]) C hW hP (c_Model_reading hI (xs (nI i + nI 1).toNatClampNeg) (xs (nI i + nI 2).toNatClampNeg) M1 _ hk) cb_Model_reading ml_Law_78 (io_29 g M1) ⟨by decide, by decide⟩ rfl hl.1 rfl (Nat.le_of_ble_eq_true rfl) d_law_655 ⟨by decide, by decide⟩) hAW hS (fun r2 M2 H locs hk hP hS => ?_)
  obtain ⟨rfl, hM2⟩ := hk
  refine lv_icmp_eq (tgt := 1120) hx hb d_law_658 (by decide) (fun c1 => ?_) (fun c1 => absurd rfl c1)
  exact kk M2 H locs hM2 hP hS
theorem law_case_back {p : Program} {l : Launch} {e : Env} {s : State} {m : MethodId} {below : List Frame} {meth : Method} {c : Code} {b L : Nat} {xs : Nat → Int32} {g : GG} {Iv : Mem → Prop} (hL : L ≤ 384) (C0 : lw_At p s m meth c b L xs) (hI : WI g) (hW : WK g s) (hAW : ∀ q, AW g q → LwA s q) (hst : St_back Iv) {i : Nat} (hi : i + 6 ≤ L) {M : Mem} (hM : Iv M) {H : Heap} {locs : List Loc} {ls : Array Slot} (hP : WP g M H) (hS : va_S (LwA s) s.heap H locs) (hl : LwL g b i ls) (kk : ∀ (M2 : Mem) (H2 : Heap) (locs2 : List Loc), Iv M2 → WP g M2 H2 → va_S (LwA s) s.heap H2 locs2 → W p l e room_1 s m #[Value.ref b] below meth c H2 locs2 600000 7302250 (lw_Z below #[Value.ref b] s) (F0 m 1120 ls [])) : W p l e room_1 s m #[Value.ref b] below meth c H locs 600000 7302250 (lw_Z below #[Value.ref b] s) (F0 m 663 ls []) := by
  obtain ⟨hx, hb, hr, hml, hown, hts, hX, hbl, hlocks, hgv⟩ := id C0
  have C : CallFix p m c code 4 s #[Value.ref b] TG N_Law := ⟨hx, hb, hml, hown, fun w hw => hts w (TG_tbl hw)⟩
  have hl : lv_has ls 4 [(0, .ref b), (1, .ref (g.2.2.2 0)), (2, .ref (g.2.2.2 29)), (3, .int (nI i))] := hl
  have hbA : ¬ LwA s b := Nat.not_le.mpr hbl
  have hk := hst (xs (nI i + nI 1).toNatClampNeg) M hM
  refine lv_aload_n hx hb d_law_663 rfl (lv_at hl 1 rfl) ?_
  refine lv_aload_n hx hb d_law_664 rfl (lv_at hl 0 rfl) ?_
  refine lv_iload_n hx hb d_law_665 rfl (lv_at hl 3 rfl) ?_
  refine lv_iconst (v := nI 1) hx hb d_law_666 (by decide) ?_
  refine lv_iadd hx hb d_law_667 ?_
  refine va_sld hx hb hX hbl hbA hS (lw_ix hL hi 1 (by decide)) d_law_668 ?_
  refine r_runIA (k_V (As := [.int (xs (nI i + nI 1).toNatClampNeg)]) (rest := []) C hW hP (c_Main_back hI (xs (nI i + nI 1).toNatClampNeg) M _ hk) cb_Main_back ml_Law_79 (io_0 g M) ⟨by decide, by decide⟩ rfl hl.1 rfl (Nat.le_of_ble_eq_true rfl) d_law_669 ⟨by decide, by decide⟩) hAW hS (fun r M1 H locs hk hP hS => ?_)
  refine lv_aload_n hx hb d_law_672 rfl (lv_at hl 2 rfl) ?_
  refine lv_aload_n hx hb d_law_673 rfl (lv_at hl 0 rfl) ?_
  refine lv_iload_n hx hb d_law_674 rfl (lv_at hl 3 rfl) ?_
  refine lv_iconst (v := nI 1) hx hb d_law_675 (by decide) ?_
  refine lv_iadd hx hb d_law_676 ?_
  refine va_sld hx hb hX hbl hbA hS (lw_ix hL hi 1 (by decide)) d_law_677 ?_
  refine r_runIA (k_V (As := [.int (xs (nI i + nI 1).toNatClampNeg)]) (rest := [.int r]) C hW hP (c_Model_back hI (xs (nI i + nI 1).toNatClampNeg) M1 _ hk) cb_Model_back ml_Law_82 (io_29 g M1) ⟨by decide, by decide⟩ rfl hl.1 rfl (Nat.le_of_ble_eq_true rfl) d_law_678 ⟨by decide, by decide⟩) hAW hS (fun r2 M2 H locs hk hP hS => ?_)
  obtain ⟨rfl, hM2⟩ := hk
  refine lv_icmp_eq (tgt := 1120) hx hb d_law_681 (by decide) (fun c1 => ?_) (fun c1 => absurd rfl c1)
  exact kk M2 H locs hM2 hP hS
theorem law_case_had {p : Program} {l : Launch} {e : Env} {s : State} {m : MethodId} {below : List Frame} {meth : Method} {c : Code} {b L : Nat} {xs : Nat → Int32} {g : GG} {Iv : Mem → Prop} (hL : L ≤ 384) (C0 : lw_At p s m meth c b L xs) (hI : WI g) (hW : WK g s) (hAW : ∀ q, AW g q → LwA s q) (hst : St_had Iv) {i : Nat} (hi : i + 6 ≤ L) {M : Mem} (hM : Iv M) {H : Heap} {locs : List Loc} {ls : Array Slot} (hP : WP g M H) (hS : va_S (LwA s) s.heap H locs) (hl : LwL g b i ls) (kk : ∀ (M2 : Mem) (H2 : Heap) (locs2 : List Loc), Iv M2 → WP g M2 H2 → va_S (LwA s) s.heap H2 locs2 → W p l e room_1 s m #[Value.ref b] below meth c H2 locs2 600000 7302250 (lw_Z below #[Value.ref b] s) (F0 m 1120 ls [])) : W p l e room_1 s m #[Value.ref b] below meth c H locs 600000 7302250 (lw_Z below #[Value.ref b] s) (F0 m 686 ls []) := by
  obtain ⟨hx, hb, hr, hml, hown, hts, hX, hbl, hlocks, hgv⟩ := id C0
  have C : CallFix p m c code 4 s #[Value.ref b] TG N_Law := ⟨hx, hb, hml, hown, fun w hw => hts w (TG_tbl hw)⟩
  have hl : lv_has ls 4 [(0, .ref b), (1, .ref (g.2.2.2 0)), (2, .ref (g.2.2.2 29)), (3, .int (nI i))] := hl
  have hbA : ¬ LwA s b := Nat.not_le.mpr hbl
  have hk := hst (xs (nI i + nI 1).toNatClampNeg) (xs (nI i + nI 2).toNatClampNeg) M hM
  refine lv_aload_n hx hb d_law_686 rfl (lv_at hl 1 rfl) ?_
  refine lv_aload_n hx hb d_law_687 rfl (lv_at hl 0 rfl) ?_
  refine lv_iload_n hx hb d_law_688 rfl (lv_at hl 3 rfl) ?_
  refine lv_iconst (v := nI 1) hx hb d_law_689 (by decide) ?_
  refine lv_iadd hx hb d_law_690 ?_
  refine va_sld hx hb hX hbl hbA hS (lw_ix hL hi 1 (by decide)) d_law_691 ?_
  refine lv_aload_n hx hb d_law_692 rfl (lv_at hl 0 rfl) ?_
  refine lv_iload_n hx hb d_law_693 rfl (lv_at hl 3 rfl) ?_
  refine lv_iconst (v := nI 2) hx hb d_law_694 (by decide) ?_
  refine lv_iadd hx hb d_law_695 ?_
  refine va_sld hx hb hX hbl hbA hS (lw_ix hL hi 2 (by decide)) d_law_696 ?_
  refine r_runIA (k_V (As := [.int (xs (nI i + nI 1).toNatClampNeg), .int (xs (nI i + nI 2).toNatClampNeg)]) (rest := []) C hW hP (c_Main_had hI (xs (nI i + nI 1).toNatClampNeg) (xs (nI i + nI 2).toNatClampNeg) M _ hk) cb_Main_had ml_Law_83 (io_0 g M) ⟨by decide, by decide⟩ rfl hl.1 rfl (Nat.le_of_ble_eq_true rfl) d_law_697 ⟨by decide, by decide⟩) hAW hS (fun r M1 H locs hk hP hS => ?_)
  refine lv_aload_n hx hb d_law_700 rfl (lv_at hl 2 rfl) ?_
  refine lv_aload_n hx hb d_law_701 rfl (lv_at hl 0 rfl) ?_
  refine lv_iload_n hx hb d_law_702 rfl (lv_at hl 3 rfl) ?_
  refine lv_iconst (v := nI 1) hx hb d_law_703 (by decide) ?_
  refine lv_iadd hx hb d_law_704 ?_
  refine va_sld hx hb hX hbl hbA hS (lw_ix hL hi 1 (by decide)) d_law_705 ?_
  refine lv_aload_n hx hb d_law_706 rfl (lv_at hl 0 rfl) ?_
  refine lv_iload_n hx hb d_law_707 rfl (lv_at hl 3 rfl) ?_
  refine lv_iconst (v := nI 2) hx hb d_law_708 (by decide) ?_
  refine lv_iadd hx hb d_law_709 ?_
  refine va_sld hx hb hX hbl hbA hS (lw_ix hL hi 2 (by decide)) d_law_710 ?_
  refine r_runIA (k_V (As := [.int (xs (nI i + nI 1).toNatClampNeg), .int (xs (nI i + nI 2).toNatClampNeg)]) (rest := [.int r]) C hW hP (c_Model_had hI (xs (nI i + nI 1).toNatClampNeg) (xs (nI i + nI 2).toNatClampNeg) M1 _ hk) cb_Model_had ml_Law_86 (io_29 g M1) ⟨by decide, by decide⟩ rfl hl.1 rfl (Nat.le_of_ble_eq_true rfl) d_law_711 ⟨by decide, by decide⟩) hAW hS (fun r2 M2 H locs hk hP hS => ?_)
  obtain ⟨rfl, hM2⟩ := hk
  refine lv_icmp_eq (tgt := 1120) hx hb d_law_714 (by decide) (fun c1 => ?_) (fun c1 => absurd rfl c1)
  exact kk M2 H locs hM2 hP hS
theorem law_case_kinds {p : Program} {l : Launch} {e : Env} {s : State} {m : MethodId} {below : List Frame} {meth : Method} {c : Code} {b L : Nat} {xs : Nat → Int32} {g : GG} {Iv : Mem → Prop} (hL : L ≤ 384) (C0 : lw_At p s m meth c b L xs) (hI : WI g) (hW : WK g s) (hAW : ∀ q, AW g q → LwA s q) (hst : St_kinds Iv) {i : Nat} (hi : i + 6 ≤ L) {M : Mem} (hM : Iv M) {H : Heap} {locs : List Loc} {ls : Array Slot} (hP : WP g M H) (hS : va_S (LwA s) s.heap H locs) (hl : LwL g b i ls) (kk : ∀ (M2 : Mem) (H2 : Heap) (locs2 : List Loc), Iv M2 → WP g M2 H2 → va_S (LwA s) s.heap H2 locs2 → W p l e room_1 s m #[Value.ref b] below meth c H2 locs2 600000 7302250 (lw_Z below #[Value.ref b] s) (F0 m 1120 ls [])) : W p l e room_1 s m #[Value.ref b] below meth c H locs 600000 7302250 (lw_Z below #[Value.ref b] s) (F0 m 719 ls []) := by
  obtain ⟨hx, hb, hr, hml, hown, hts, hX, hbl, hlocks, hgv⟩ := id C0
  have C : CallFix p m c code 4 s #[Value.ref b] TG N_Law := ⟨hx, hb, hml, hown, fun w hw => hts w (TG_tbl hw)⟩
  have hl : lv_has ls 4 [(0, .ref b), (1, .ref (g.2.2.2 0)), (2, .ref (g.2.2.2 29)), (3, .int (nI i))] := hl
  have hbA : ¬ LwA s b := Nat.not_le.mpr hbl
  have hk := hst (xs (nI i + nI 1).toNatClampNeg) M hM
  refine lv_aload_n hx hb d_law_719 rfl (lv_at hl 1 rfl) ?_
  refine lv_aload_n hx hb d_law_720 rfl (lv_at hl 0 rfl) ?_
  refine lv_iload_n hx hb d_law_721 rfl (lv_at hl 3 rfl) ?_
  refine lv_iconst (v := nI 1) hx hb d_law_722 (by decide) ?_
  refine lv_iadd hx hb d_law_723 ?_
  refine va_sld hx hb hX hbl hbA hS (lw_ix hL hi 1 (by decide)) d_law_724 ?_
  refine r_runIA (k_V (As := [.int (xs (nI i + nI 1).toNatClampNeg)]) (rest := []) C hW hP (c_Main_kinds hI (xs (nI i + nI 1).toNatClampNeg) M _ hk) cb_Main_kinds ml_Law_87 (io_0 g M) ⟨by decide, by decide⟩ rfl hl.1 rfl (Nat.le_of_ble_eq_true rfl) d_law_725 ⟨by decide, by decide⟩) hAW hS (fun r M1 H locs hk hP hS => ?_)
  refine lv_aload_n hx hb d_law_728 rfl (lv_at hl 2 rfl) ?_
  refine lv_aload_n hx hb d_law_729 rfl (lv_at hl 0 rfl) ?_
  refine lv_iload_n hx hb d_law_730 rfl (lv_at hl 3 rfl) ?_
  refine lv_iconst (v := nI 1) hx hb d_law_731 (by decide) ?_
  refine lv_iadd hx hb d_law_732 ?_
  refine va_sld hx hb hX hbl hbA hS (lw_ix hL hi 1 (by decide)) d_law_733 ?_
  refine r_runIA (k_V (As := [.int (xs (nI i + nI 1).toNatClampNeg)]) (rest := [.int r]) C hW hP (c_Model_kinds hI (xs (nI i + nI 1).toNatClampNeg) M1 _ hk) cb_Model_kinds ml_Law_90 (io_29 g M1) ⟨by decide, by decide⟩ rfl hl.1 rfl (Nat.le_of_ble_eq_true rfl) d_law_734 ⟨by decide, by decide⟩) hAW hS (fun r2 M2 H locs hk hP hS => ?_)
  obtain ⟨rfl, hM2⟩ := hk
  refine lv_icmp_eq (tgt := 1120) hx hb d_law_737 (by decide) (fun c1 => ?_) (fun c1 => absurd rfl c1)
  exact kk M2 H locs hM2 hP hS
theorem law_case_odds {p : Program} {l : Launch} {e : Env} {s : State} {m : MethodId} {below : List Frame} {meth : Method} {c : Code} {b L : Nat} {xs : Nat → Int32} {g : GG} {Iv : Mem → Prop} (hL : L ≤ 384) (C0 : lw_At p s m meth c b L xs) (hI : WI g) (hW : WK g s) (hAW : ∀ q, AW g q → LwA s q) (hst : St_odds Iv) {i : Nat} (hi : i + 6 ≤ L) {M : Mem} (hM : Iv M) {H : Heap} {locs : List Loc} {ls : Array Slot} (hP : WP g M H) (hS : va_S (LwA s) s.heap H locs) (hl : LwL g b i ls) (kk : ∀ (M2 : Mem) (H2 : Heap) (locs2 : List Loc), Iv M2 → WP g M2 H2 → va_S (LwA s) s.heap H2 locs2 → W p l e room_1 s m #[Value.ref b] below meth c H2 locs2 600000 7302250 (lw_Z below #[Value.ref b] s) (F0 m 1120 ls [])) : W p l e room_1 s m #[Value.ref b] below meth c H locs 600000 7302250 (lw_Z below #[Value.ref b] s) (F0 m 742 ls []) := by
  obtain ⟨hx, hb, hr, hml, hown, hts, hX, hbl, hlocks, hgv⟩ := id C0
  have C : CallFix p m c code 4 s #[Value.ref b] TG N_Law := ⟨hx, hb, hml, hown, fun w hw => hts w (TG_tbl hw)⟩
  have hl : lv_has ls 4 [(0, .ref b), (1, .ref (g.2.2.2 0)), (2, .ref (g.2.2.2 29)), (3, .int (nI i))] := hl
  have hbA : ¬ LwA s b := Nat.not_le.mpr hbl
  have hk := hst (xs (nI i + nI 1).toNatClampNeg) (xs (nI i + nI 2).toNatClampNeg) M hM
  refine lv_aload_n hx hb d_law_742 rfl (lv_at hl 1 rfl) ?_
  refine lv_aload_n hx hb d_law_743 rfl (lv_at hl 0 rfl) ?_
  refine lv_iload_n hx hb d_law_744 rfl (lv_at hl 3 rfl) ?_
  refine lv_iconst (v := nI 1) hx hb d_law_745 (by decide) ?_
  refine lv_iadd hx hb d_law_746 ?_
  refine va_sld hx hb hX hbl hbA hS (lw_ix hL hi 1 (by decide)) d_law_747 ?_
  refine lv_aload_n hx hb d_law_748 rfl (lv_at hl 0 rfl) ?_
  refine lv_iload_n hx hb d_law_749 rfl (lv_at hl 3 rfl) ?_
  refine lv_iconst (v := nI 2) hx hb d_law_750 (by decide) ?_
  refine lv_iadd hx hb d_law_751 ?_
  refine va_sld hx hb hX hbl hbA hS (lw_ix hL hi 2 (by decide)) d_law_752 ?_
  refine r_runLA (k_V (As := [.int (xs (nI i + nI 1).toNatClampNeg), .int (xs (nI i + nI 2).toNatClampNeg)]) (rest := []) C hW hP (c_Main_odds hI (xs (nI i + nI 1).toNatClampNeg) (xs (nI i + nI 2).toNatClampNeg) M _ hk) cb_Main_odds ml_Law_91 (io_0 g M) ⟨by decide, by decide⟩ rfl hl.1 rfl (Nat.le_of_ble_eq_true rfl) d_law_753 ⟨by decide, by decide⟩) hAW hS (fun r M1 H locs hk hP hS => ?_)
  refine lv_aload_n hx hb d_law_756 rfl (lv_at hl 2 rfl) ?_
  refine lv_aload_n hx hb d_law_757 rfl (lv_at hl 0 rfl) ?_
  refine lv_iload_n hx hb d_law_758 rfl (lv_at hl 3 rfl) ?_
  refine lv_iconst (v := nI 1) hx hb d_law_759 (by decide) ?_
  refine lv_iadd hx hb d_law_760 ?_
  refine va_sld hx hb hX hbl hbA hS (lw_ix hL hi 1 (by decide)) d_law_761 ?_
  refine lv_aload_n hx hb d_law_762 rfl (lv_at hl 0 rfl) ?_
  refine lv_iload_n hx hb d_law_763 rfl (lv_at hl 3 rfl) ?_
  refine lv_iconst (v := nI 2) hx hb d_law_764 (by decide) ?_
  refine lv_iadd hx hb d_law_765 ?_
  refine va_sld hx hb hX hbl hbA hS (lw_ix hL hi 2 (by decide)) d_law_766 ?_
  refine r_runLA (k_V (As := [.int (xs (nI i + nI 1).toNatClampNeg), .int (xs (nI i + nI 2).toNatClampNeg)]) (rest := [.long r]) C hW hP (c_Model_odds hI (xs (nI i + nI 1).toNatClampNeg) (xs (nI i + nI 2).toNatClampNeg) M1 _ hk) cb_Model_odds ml_Law_95 (io_29 g M1) ⟨by decide, by decide⟩ rfl hl.1 rfl (Nat.le_of_ble_eq_true rfl) d_law_767 ⟨by decide, by decide⟩) hAW hS (fun r2 M2 H locs hk hP hS => ?_)
  obtain ⟨rfl, hM2⟩ := hk
  refine W.lcmp hx hb d_law_770 ?_
  rw [lg_self]
  refine lv_if_eq (tgt := 1120) hx hb d_law_771 (by decide) (fun c1 => ?_) (fun c1 => absurd rfl c1)
  exact kk M2 H locs hM2 hP hS
theorem law_case_sheet {p : Program} {l : Launch} {e : Env} {s : State} {m : MethodId} {below : List Frame} {meth : Method} {c : Code} {b L : Nat} {xs : Nat → Int32} {g : GG} {Iv : Mem → Prop} (hL : L ≤ 384) (C0 : lw_At p s m meth c b L xs) (hI : WI g) (hW : WK g s) (hAW : ∀ q, AW g q → LwA s q) (hst : St_sheet Iv) {i : Nat} (hi : i + 6 ≤ L) {M : Mem} (hM : Iv M) {H : Heap} {locs : List Loc} {ls : Array Slot} (hP : WP g M H) (hS : va_S (LwA s) s.heap H locs) (hl : LwL g b i ls) (kk : ∀ (M2 : Mem) (H2 : Heap) (locs2 : List Loc), Iv M2 → WP g M2 H2 → va_S (LwA s) s.heap H2 locs2 → W p l e room_1 s m #[Value.ref b] below meth c H2 locs2 600000 7302250 (lw_Z below #[Value.ref b] s) (F0 m 1120 ls [])) : W p l e room_1 s m #[Value.ref b] below meth c H locs 600000 7302250 (lw_Z below #[Value.ref b] s) (F0 m 776 ls []) := by
  obtain ⟨hx, hb, hr, hml, hown, hts, hX, hbl, hlocks, hgv⟩ := id C0
  have C : CallFix p m c code 4 s #[Value.ref b] TG N_Law := ⟨hx, hb, hml, hown, fun w hw => hts w (TG_tbl hw)⟩
  have hl : lv_has ls 4 [(0, .ref b), (1, .ref (g.2.2.2 0)), (2, .ref (g.2.2.2 29)), (3, .int (nI i))] := hl
  have hbA : ¬ LwA s b := Nat.not_le.mpr hbl
  have hk := hst (xs (nI i + nI 1).toNatClampNeg) (xs (nI i + nI 2).toNatClampNeg) (xs (nI i + nI 3).toNatClampNeg) M hM
  refine lv_aload_n hx hb d_law_776 rfl (lv_at hl 1 rfl) ?_
  refine lv_aload_n hx hb d_law_777 rfl (lv_at hl 0 rfl) ?_
  refine lv_iload_n hx hb d_law_778 rfl (lv_at hl 3 rfl) ?_
  refine lv_iconst (v := nI 1) hx hb d_law_779 (by decide) ?_
  refine lv_iadd hx hb d_law_780 ?_
  refine va_sld hx hb hX hbl hbA hS (lw_ix hL hi 1 (by decide)) d_law_781 ?_
  refine lv_aload_n hx hb d_law_782 rfl (lv_at hl 0 rfl) ?_
  refine lv_iload_n hx hb d_law_783 rfl (lv_at hl 3 rfl) ?_
  refine lv_iconst (v := nI 2) hx hb d_law_784 (by decide) ?_
  refine lv_iadd hx hb d_law_785 ?_
  refine va_sld hx hb hX hbl hbA hS (lw_ix hL hi 2 (by decide)) d_law_786 ?_
  refine lv_aload_n hx hb d_law_787 rfl (lv_at hl 0 rfl) ?_
  refine lv_iload_n hx hb d_law_788 rfl (lv_at hl 3 rfl) ?_
  refine lv_iconst (v := nI 3) hx hb d_law_789 (by decide) ?_
  refine lv_iadd hx hb d_law_790 ?_
  refine va_sld hx hb hX hbl hbA hS (lw_ix hL hi 3 (by decide)) d_law_791 ?_
  refine r_runIA (k_V (As := [.int (xs (nI i + nI 1).toNatClampNeg), .int (xs (nI i + nI 2).toNatClampNeg), .int (xs (nI i + nI 3).toNatClampNeg)]) (rest := []) C hW hP (c_Main_sheet hI (xs (nI i + nI 1).toNatClampNeg) (xs (nI i + nI 2).toNatClampNeg) (xs (nI i + nI 3).toNatClampNeg) M _ hk) cb_Main_sheet ml_Law_96 (io_0 g M) ⟨by decide, by decide⟩ rfl hl.1 rfl (Nat.le_of_ble_eq_true rfl) d_law_792 ⟨by decide, by decide⟩) hAW hS (fun r M1 H locs hk hP hS => ?_)
  refine lv_aload_n hx hb d_law_795 rfl (lv_at hl 2 rfl) ?_
  refine lv_aload_n hx hb d_law_796 rfl (lv_at hl 0 rfl) ?_
  refine lv_iload_n hx hb d_law_797 rfl (lv_at hl 3 rfl) ?_
  refine lv_iconst (v := nI 1) hx hb d_law_798 (by decide) ?_
  refine lv_iadd hx hb d_law_799 ?_
  refine va_sld hx hb hX hbl hbA hS (lw_ix hL hi 1 (by decide)) d_law_800 ?_
  refine lv_aload_n hx hb d_law_801 rfl (lv_at hl 0 rfl) ?_
  refine lv_iload_n hx hb d_law_802 rfl (lv_at hl 3 rfl) ?_
  refine lv_iconst (v := nI 2) hx hb d_law_803 (by decide) ?_
  refine lv_iadd hx hb d_law_804 ?_
  refine va_sld hx hb hX hbl hbA hS (lw_ix hL hi 2 (by decide)) d_law_805 ?_
  refine lv_aload_n hx hb d_law_806 rfl (lv_at hl 0 rfl) ?_
  refine lv_iload_n hx hb d_law_807 rfl (lv_at hl 3 rfl) ?_
  refine lv_iconst (v := nI 3) hx hb d_law_808 (by decide) ?_
  refine lv_iadd hx hb d_law_809 ?_
  refine va_sld hx hb hX hbl hbA hS (lw_ix hL hi 3 (by decide)) d_law_810 ?_
  refine r_runIA (k_V (As := [.int (xs (nI i + nI 1).toNatClampNeg), .int (xs (nI i + nI 2).toNatClampNeg), .int (xs (nI i + nI 3).toNatClampNeg)]) (rest := [.int r]) C hW hP (c_Model_sheet hI (xs (nI i + nI 1).toNatClampNeg) (xs (nI i + nI 2).toNatClampNeg) (xs (nI i + nI 3).toNatClampNeg) M1 _ hk) cb_Model_sheet ml_Law_99 (io_29 g M1) ⟨by decide, by decide⟩ rfl hl.1 rfl (Nat.le_of_ble_eq_true rfl) d_law_811 ⟨by decide, by decide⟩) hAW hS (fun r2 M2 H locs hk hP hS => ?_)
  obtain ⟨rfl, hM2⟩ := hk
  refine lv_icmp_eq (tgt := 1120) hx hb d_law_814 (by decide) (fun c1 => ?_) (fun c1 => absurd rfl c1)
  exact kk M2 H locs hM2 hP hS
theorem law_case_lose {p : Program} {l : Launch} {e : Env} {s : State} {m : MethodId} {below : List Frame} {meth : Method} {c : Code} {b L : Nat} {xs : Nat → Int32} {g : GG} {Iv : Mem → Prop} (hL : L ≤ 384) (C0 : lw_At p s m meth c b L xs) (hI : WI g) (hW : WK g s) (hAW : ∀ q, AW g q → LwA s q) (hst : St_lose Iv) {i : Nat} (hi : i + 6 ≤ L) {M : Mem} (hM : Iv M) {H : Heap} {locs : List Loc} {ls : Array Slot} (hP : WP g M H) (hS : va_S (LwA s) s.heap H locs) (hl : LwL g b i ls) (kk : ∀ (M2 : Mem) (H2 : Heap) (locs2 : List Loc), Iv M2 → WP g M2 H2 → va_S (LwA s) s.heap H2 locs2 → W p l e room_1 s m #[Value.ref b] below meth c H2 locs2 600000 7302250 (lw_Z below #[Value.ref b] s) (F0 m 1120 ls [])) : W p l e room_1 s m #[Value.ref b] below meth c H locs 600000 7302250 (lw_Z below #[Value.ref b] s) (F0 m 819 ls []) := by
  obtain ⟨hx, hb, hr, hml, hown, hts, hX, hbl, hlocks, hgv⟩ := id C0
  have C : CallFix p m c code 4 s #[Value.ref b] TG N_Law := ⟨hx, hb, hml, hown, fun w hw => hts w (TG_tbl hw)⟩
  have hl : lv_has ls 4 [(0, .ref b), (1, .ref (g.2.2.2 0)), (2, .ref (g.2.2.2 29)), (3, .int (nI i))] := hl
  have hbA : ¬ LwA s b := Nat.not_le.mpr hbl
  have hk := hst (xs (nI i + nI 1).toNatClampNeg) M hM
  refine lv_aload_n hx hb d_law_819 rfl (lv_at hl 1 rfl) ?_
  refine lv_aload_n hx hb d_law_820 rfl (lv_at hl 0 rfl) ?_
  refine lv_iload_n hx hb d_law_821 rfl (lv_at hl 3 rfl) ?_
  refine lv_iconst (v := nI 1) hx hb d_law_822 (by decide) ?_
  refine lv_iadd hx hb d_law_823 ?_
  refine va_sld hx hb hX hbl hbA hS (lw_ix hL hi 1 (by decide)) d_law_824 ?_
  refine r_runIA (k_V (As := [.int (xs (nI i + nI 1).toNatClampNeg)]) (rest := []) C hW hP (c_Main_lose hI (xs (nI i + nI 1).toNatClampNeg) M _ hk) cb_Main_lose ml_Law_100 (io_0 g M) ⟨by decide, by decide⟩ rfl hl.1 rfl (Nat.le_of_ble_eq_true rfl) d_law_825 ⟨by decide, by decide⟩) hAW hS (fun r M1 H locs hk hP hS => ?_)
  refine lv_aload_n hx hb d_law_828 rfl (lv_at hl 2 rfl) ?_
  refine lv_aload_n hx hb d_law_829 rfl (lv_at hl 0 rfl) ?_
  refine lv_iload_n hx hb d_law_830 rfl (lv_at hl 3 rfl) ?_
  refine lv_iconst (v := nI 1) hx hb d_law_831 (by decide) ?_
  refine lv_iadd hx hb d_law_832 ?_
  refine va_sld hx hb hX hbl hbA hS (lw_ix hL hi 1 (by decide)) d_law_833 ?_
  refine r_runIA (k_V (As := [.int (xs (nI i + nI 1).toNatClampNeg)]) (rest := [.int r]) C hW hP (c_Model_lose hI (xs (nI i + nI 1).toNatClampNeg) M1 _ hk) cb_Model_lose ml_Law_103 (io_29 g M1) ⟨by decide, by decide⟩ rfl hl.1 rfl (Nat.le_of_ble_eq_true rfl) d_law_834 ⟨by decide, by decide⟩) hAW hS (fun r2 M2 H locs hk hP hS => ?_)
  obtain ⟨rfl, hM2⟩ := hk
  refine lv_icmp_eq (tgt := 1120) hx hb d_law_837 (by decide) (fun c1 => ?_) (fun c1 => absurd rfl c1)
  exact kk M2 H locs hM2 hP hS
theorem law_case_put {p : Program} {l : Launch} {e : Env} {s : State} {m : MethodId} {below : List Frame} {meth : Method} {c : Code} {b L : Nat} {xs : Nat → Int32} {g : GG} {Iv : Mem → Prop} (hL : L ≤ 384) (C0 : lw_At p s m meth c b L xs) (hI : WI g) (hW : WK g s) (hAW : ∀ q, AW g q → LwA s q) (hst : St_put Iv) {i : Nat} (hi : i + 6 ≤ L) {M : Mem} (hM : Iv M) {H : Heap} {locs : List Loc} {ls : Array Slot} (hP : WP g M H) (hS : va_S (LwA s) s.heap H locs) (hl : LwL g b i ls) (kk : ∀ (M2 : Mem) (H2 : Heap) (locs2 : List Loc), Iv M2 → WP g M2 H2 → va_S (LwA s) s.heap H2 locs2 → W p l e room_1 s m #[Value.ref b] below meth c H2 locs2 600000 7302250 (lw_Z below #[Value.ref b] s) (F0 m 1120 ls [])) : W p l e room_1 s m #[Value.ref b] below meth c H locs 600000 7302250 (lw_Z below #[Value.ref b] s) (F0 m 842 ls []) := by
  obtain ⟨hx, hb, hr, hml, hown, hts, hX, hbl, hlocks, hgv⟩ := id C0
  have C : CallFix p m c code 4 s #[Value.ref b] TG N_Law := ⟨hx, hb, hml, hown, fun w hw => hts w (TG_tbl hw)⟩
  have hl : lv_has ls 4 [(0, .ref b), (1, .ref (g.2.2.2 0)), (2, .ref (g.2.2.2 29)), (3, .int (nI i))] := hl
  have hbA : ¬ LwA s b := Nat.not_le.mpr hbl
  have hk := hst (xs (nI i + nI 1).toNatClampNeg) (xs (nI i + nI 2).toNatClampNeg) (xs (nI i + nI 3).toNatClampNeg) M hM
  refine lv_aload_n hx hb d_law_842 rfl (lv_at hl 1 rfl) ?_
  refine lv_aload_n hx hb d_law_843 rfl (lv_at hl 0 rfl) ?_
  refine lv_iload_n hx hb d_law_844 rfl (lv_at hl 3 rfl) ?_
  refine lv_iconst (v := nI 1) hx hb d_law_845 (by decide) ?_
  refine lv_iadd hx hb d_law_846 ?_
  refine va_sld hx hb hX hbl hbA hS (lw_ix hL hi 1 (by decide)) d_law_847 ?_
  refine lv_aload_n hx hb d_law_848 rfl (lv_at hl 0 rfl) ?_
  refine lv_iload_n hx hb d_law_849 rfl (lv_at hl 3 rfl) ?_
  refine lv_iconst (v := nI 2) hx hb d_law_850 (by decide) ?_
  refine lv_iadd hx hb d_law_851 ?_
  refine va_sld hx hb hX hbl hbA hS (lw_ix hL hi 2 (by decide)) d_law_852 ?_
  refine lv_aload_n hx hb d_law_853 rfl (lv_at hl 0 rfl) ?_
  refine lv_iload_n hx hb d_law_854 rfl (lv_at hl 3 rfl) ?_
  refine lv_iconst (v := nI 3) hx hb d_law_855 (by decide) ?_
  refine lv_iadd hx hb d_law_856 ?_
  refine va_sld hx hb hX hbl hbA hS (lw_ix hL hi 3 (by decide)) d_law_857 ?_
  refine r_runIA (k_V (As := [.int (xs (nI i + nI 1).toNatClampNeg), .int (xs (nI i + nI 2).toNatClampNeg), .int (xs (nI i + nI 3).toNatClampNeg)]) (rest := []) C hW hP (c_Main_put hI (xs (nI i + nI 1).toNatClampNeg) (xs (nI i + nI 2).toNatClampNeg) (xs (nI i + nI 3).toNatClampNeg) M _ hk) cb_Main_put ml_Law_104 (io_0 g M) ⟨by decide, by decide⟩ rfl hl.1 rfl (Nat.le_of_ble_eq_true rfl) d_law_858 ⟨by decide, by decide⟩) hAW hS (fun r M1 H locs hk hP hS => ?_)
  refine lv_aload_n hx hb d_law_861 rfl (lv_at hl 2 rfl) ?_
  refine lv_aload_n hx hb d_law_862 rfl (lv_at hl 0 rfl) ?_
  refine lv_iload_n hx hb d_law_863 rfl (lv_at hl 3 rfl) ?_
  refine lv_iconst (v := nI 1) hx hb d_law_864 (by decide) ?_
  refine lv_iadd hx hb d_law_865 ?_
  refine va_sld hx hb hX hbl hbA hS (lw_ix hL hi 1 (by decide)) d_law_866 ?_
  refine lv_aload_n hx hb d_law_867 rfl (lv_at hl 0 rfl) ?_
  refine lv_iload_n hx hb d_law_868 rfl (lv_at hl 3 rfl) ?_
  refine lv_iconst (v := nI 2) hx hb d_law_869 (by decide) ?_
  refine lv_iadd hx hb d_law_870 ?_
  refine va_sld hx hb hX hbl hbA hS (lw_ix hL hi 2 (by decide)) d_law_871 ?_
  refine lv_aload_n hx hb d_law_872 rfl (lv_at hl 0 rfl) ?_
  refine lv_iload_n hx hb d_law_873 rfl (lv_at hl 3 rfl) ?_
  refine lv_iconst (v := nI 3) hx hb d_law_874 (by decide) ?_
  refine lv_iadd hx hb d_law_875 ?_
  refine va_sld hx hb hX hbl hbA hS (lw_ix hL hi 3 (by decide)) d_law_876 ?_
  refine r_runIA (k_V (As := [.int (xs (nI i + nI 1).toNatClampNeg), .int (xs (nI i + nI 2).toNatClampNeg), .int (xs (nI i + nI 3).toNatClampNeg)]) (rest := [.int r]) C hW hP (c_Model_put hI (xs (nI i + nI 1).toNatClampNeg) (xs (nI i + nI 2).toNatClampNeg) (xs (nI i + nI 3).toNatClampNeg) M1 _ hk) cb_Model_put ml_Law_107 (io_29 g M1) ⟨by decide, by decide⟩ rfl hl.1 rfl (Nat.le_of_ble_eq_true rfl) d_law_877 ⟨by decide, by decide⟩) hAW hS (fun r2 M2 H locs hk hP hS => ?_)
  obtain ⟨rfl, hM2⟩ := hk
  refine lv_icmp_eq (tgt := 1120) hx hb d_law_880 (by decide) (fun c1 => ?_) (fun c1 => absurd rfl c1)
  exact kk M2 H locs hM2 hP hS
theorem law_case_cell {p : Program} {l : Launch} {e : Env} {s : State} {m : MethodId} {below : List Frame} {meth : Method} {c : Code} {b L : Nat} {xs : Nat → Int32} {g : GG} {Iv : Mem → Prop} (hL : L ≤ 384) (C0 : lw_At p s m meth c b L xs) (hI : WI g) (hW : WK g s) (hAW : ∀ q, AW g q → LwA s q) (hst : St_cell Iv) {i : Nat} (hi : i + 6 ≤ L) {M : Mem} (hM : Iv M) {H : Heap} {locs : List Loc} {ls : Array Slot} (hP : WP g M H) (hS : va_S (LwA s) s.heap H locs) (hl : LwL g b i ls) (kk : ∀ (M2 : Mem) (H2 : Heap) (locs2 : List Loc), Iv M2 → WP g M2 H2 → va_S (LwA s) s.heap H2 locs2 → W p l e room_1 s m #[Value.ref b] below meth c H2 locs2 600000 7302250 (lw_Z below #[Value.ref b] s) (F0 m 1120 ls [])) : W p l e room_1 s m #[Value.ref b] below meth c H locs 600000 7302250 (lw_Z below #[Value.ref b] s) (F0 m 885 ls []) := by
  obtain ⟨hx, hb, hr, hml, hown, hts, hX, hbl, hlocks, hgv⟩ := id C0
  have C : CallFix p m c code 4 s #[Value.ref b] TG N_Law := ⟨hx, hb, hml, hown, fun w hw => hts w (TG_tbl hw)⟩
  have hl : lv_has ls 4 [(0, .ref b), (1, .ref (g.2.2.2 0)), (2, .ref (g.2.2.2 29)), (3, .int (nI i))] := hl
  have hbA : ¬ LwA s b := Nat.not_le.mpr hbl
  have hk := hst (xs (nI i + nI 1).toNatClampNeg) (xs (nI i + nI 2).toNatClampNeg) (xs (nI i + nI 3).toNatClampNeg) M hM
  refine lv_aload_n hx hb d_law_885 rfl (lv_at hl 1 rfl) ?_
  refine lv_aload_n hx hb d_law_886 rfl (lv_at hl 0 rfl) ?_
  refine lv_iload_n hx hb d_law_887 rfl (lv_at hl 3 rfl) ?_
  refine lv_iconst (v := nI 1) hx hb d_law_888 (by decide) ?_
  refine lv_iadd hx hb d_law_889 ?_
  refine va_sld hx hb hX hbl hbA hS (lw_ix hL hi 1 (by decide)) d_law_890 ?_
  refine lv_aload_n hx hb d_law_891 rfl (lv_at hl 0 rfl) ?_
  refine lv_iload_n hx hb d_law_892 rfl (lv_at hl 3 rfl) ?_
  refine lv_iconst (v := nI 2) hx hb d_law_893 (by decide) ?_
  refine lv_iadd hx hb d_law_894 ?_
  refine va_sld hx hb hX hbl hbA hS (lw_ix hL hi 2 (by decide)) d_law_895 ?_
  refine lv_aload_n hx hb d_law_896 rfl (lv_at hl 0 rfl) ?_
  refine lv_iload_n hx hb d_law_897 rfl (lv_at hl 3 rfl) ?_
  refine lv_iconst (v := nI 3) hx hb d_law_898 (by decide) ?_
  refine lv_iadd hx hb d_law_899 ?_
  refine va_sld hx hb hX hbl hbA hS (lw_ix hL hi 3 (by decide)) d_law_900 ?_
  refine r_runLA (k_V (As := [.int (xs (nI i + nI 1).toNatClampNeg), .int (xs (nI i + nI 2).toNatClampNeg), .int (xs (nI i + nI 3).toNatClampNeg)]) (rest := []) C hW hP (c_Main_cell hI (xs (nI i + nI 1).toNatClampNeg) (xs (nI i + nI 2).toNatClampNeg) (xs (nI i + nI 3).toNatClampNeg) M _ hk) cb_Main_cell ml_Law_108 (io_0 g M) ⟨by decide, by decide⟩ rfl hl.1 rfl (Nat.le_of_ble_eq_true rfl) d_law_901 ⟨by decide, by decide⟩) hAW hS (fun r M1 H locs hk hP hS => ?_)
  refine lv_aload_n hx hb d_law_904 rfl (lv_at hl 2 rfl) ?_
  refine lv_aload_n hx hb d_law_905 rfl (lv_at hl 0 rfl) ?_
  refine lv_iload_n hx hb d_law_906 rfl (lv_at hl 3 rfl) ?_
  refine lv_iconst (v := nI 1) hx hb d_law_907 (by decide) ?_
  refine lv_iadd hx hb d_law_908 ?_
  refine va_sld hx hb hX hbl hbA hS (lw_ix hL hi 1 (by decide)) d_law_909 ?_
  refine lv_aload_n hx hb d_law_910 rfl (lv_at hl 0 rfl) ?_
  refine lv_iload_n hx hb d_law_911 rfl (lv_at hl 3 rfl) ?_
  refine lv_iconst (v := nI 2) hx hb d_law_912 (by decide) ?_
  refine lv_iadd hx hb d_law_913 ?_
  refine va_sld hx hb hX hbl hbA hS (lw_ix hL hi 2 (by decide)) d_law_914 ?_
  refine lv_aload_n hx hb d_law_915 rfl (lv_at hl 0 rfl) ?_
  refine lv_iload_n hx hb d_law_916 rfl (lv_at hl 3 rfl) ?_
  refine lv_iconst (v := nI 3) hx hb d_law_917 (by decide) ?_
  refine lv_iadd hx hb d_law_918 ?_
  refine va_sld hx hb hX hbl hbA hS (lw_ix hL hi 3 (by decide)) d_law_919 ?_
  refine r_runLA (k_V (As := [.int (xs (nI i + nI 1).toNatClampNeg), .int (xs (nI i + nI 2).toNatClampNeg), .int (xs (nI i + nI 3).toNatClampNeg)]) (rest := [.long r]) C hW hP (c_Model_cell hI (xs (nI i + nI 1).toNatClampNeg) (xs (nI i + nI 2).toNatClampNeg) (xs (nI i + nI 3).toNatClampNeg) M1 _ hk) cb_Model_cell ml_Law_112 (io_29 g M1) ⟨by decide, by decide⟩ rfl hl.1 rfl (Nat.le_of_ble_eq_true rfl) d_law_920 ⟨by decide, by decide⟩) hAW hS (fun r2 M2 H locs hk hP hS => ?_)
  obtain ⟨rfl, hM2⟩ := hk
  refine W.lcmp hx hb d_law_923 ?_
  rw [lg_self]
  refine lv_if_eq (tgt := 1120) hx hb d_law_924 (by decide) (fun c1 => ?_) (fun c1 => absurd rfl c1)
  exact kk M2 H locs hM2 hP hS
theorem law_case_copy {p : Program} {l : Launch} {e : Env} {s : State} {m : MethodId} {below : List Frame} {meth : Method} {c : Code} {b L : Nat} {xs : Nat → Int32} {g : GG} {Iv : Mem → Prop} (hL : L ≤ 384) (C0 : lw_At p s m meth c b L xs) (hI : WI g) (hW : WK g s) (hAW : ∀ q, AW g q → LwA s q) (hst : St_copy Iv) {i : Nat} (hi : i + 6 ≤ L) {M : Mem} (hM : Iv M) {H : Heap} {locs : List Loc} {ls : Array Slot} (hP : WP g M H) (hS : va_S (LwA s) s.heap H locs) (hl : LwL g b i ls) (kk : ∀ (M2 : Mem) (H2 : Heap) (locs2 : List Loc), Iv M2 → WP g M2 H2 → va_S (LwA s) s.heap H2 locs2 → W p l e room_1 s m #[Value.ref b] below meth c H2 locs2 600000 7302250 (lw_Z below #[Value.ref b] s) (F0 m 1120 ls [])) : W p l e room_1 s m #[Value.ref b] below meth c H locs 600000 7302250 (lw_Z below #[Value.ref b] s) (F0 m 929 ls []) := by
  obtain ⟨hx, hb, hr, hml, hown, hts, hX, hbl, hlocks, hgv⟩ := id C0
  have C : CallFix p m c code 4 s #[Value.ref b] TG N_Law := ⟨hx, hb, hml, hown, fun w hw => hts w (TG_tbl hw)⟩
  have hl : lv_has ls 4 [(0, .ref b), (1, .ref (g.2.2.2 0)), (2, .ref (g.2.2.2 29)), (3, .int (nI i))] := hl
  have hbA : ¬ LwA s b := Nat.not_le.mpr hbl
  have hk := hst (xs (nI i + nI 1).toNatClampNeg) (xs (nI i + nI 2).toNatClampNeg) (xs (nI i + nI 3).toNatClampNeg) (xs (nI i + nI 4).toNatClampNeg) (xs (nI i + nI 5).toNatClampNeg) M hM
  refine lv_aload_n hx hb d_law_929 rfl (lv_at hl 1 rfl) ?_
  refine lv_aload_n hx hb d_law_930 rfl (lv_at hl 0 rfl) ?_
  refine lv_iload_n hx hb d_law_931 rfl (lv_at hl 3 rfl) ?_
  refine lv_iconst (v := nI 1) hx hb d_law_932 (by decide) ?_
  refine lv_iadd hx hb d_law_933 ?_
  refine va_sld hx hb hX hbl hbA hS (lw_ix hL hi 1 (by decide)) d_law_934 ?_
  refine lv_aload_n hx hb d_law_935 rfl (lv_at hl 0 rfl) ?_
  refine lv_iload_n hx hb d_law_936 rfl (lv_at hl 3 rfl) ?_
  refine lv_iconst (v := nI 2) hx hb d_law_937 (by decide) ?_
  refine lv_iadd hx hb d_law_938 ?_
  refine va_sld hx hb hX hbl hbA hS (lw_ix hL hi 2 (by decide)) d_law_939 ?_
  refine lv_aload_n hx hb d_law_940 rfl (lv_at hl 0 rfl) ?_
  refine lv_iload_n hx hb d_law_941 rfl (lv_at hl 3 rfl) ?_
  refine lv_iconst (v := nI 3) hx hb d_law_942 (by decide) ?_
  refine lv_iadd hx hb d_law_943 ?_
  refine va_sld hx hb hX hbl hbA hS (lw_ix hL hi 3 (by decide)) d_law_944 ?_
  refine lv_aload_n hx hb d_law_945 rfl (lv_at hl 0 rfl) ?_
  refine lv_iload_n hx hb d_law_946 rfl (lv_at hl 3 rfl) ?_
  refine lv_iconst (v := nI 4) hx hb d_law_947 (by decide) ?_
  refine lv_iadd hx hb d_law_948 ?_
  refine va_sld hx hb hX hbl hbA hS (lw_ix hL hi 4 (by decide)) d_law_949 ?_
  refine lv_aload_n hx hb d_law_950 rfl (lv_at hl 0 rfl) ?_
  refine lv_iload_n hx hb d_law_951 rfl (lv_at hl 3 rfl) ?_
  refine lv_iconst (v := nI 5) hx hb d_law_952 (by decide) ?_
  refine lv_iadd hx hb d_law_953 ?_
  refine va_sld hx hb hX hbl hbA hS (lw_ix hL hi 5 (by decide)) d_law_954 ?_
  refine r_runIA (k_V (As := [.int (xs (nI i + nI 1).toNatClampNeg), .int (xs (nI i + nI 2).toNatClampNeg), .int (xs (nI i + nI 3).toNatClampNeg), .int (xs (nI i + nI 4).toNatClampNeg), .int (xs (nI i + nI 5).toNatClampNeg)]) (rest := []) C hW hP (c_Main_copy hI (xs (nI i + nI 1).toNatClampNeg) (xs (nI i + nI 2).toNatClampNeg) (xs (nI i + nI 3).toNatClampNeg) (xs (nI i + nI 4).toNatClampNeg) (xs (nI i + nI 5).toNatClampNeg) M _ hk) cb_Main_copy ml_Law_113 (io_0 g M) ⟨by decide, by decide⟩ rfl hl.1 rfl (Nat.le_of_ble_eq_true rfl) d_law_955 ⟨by decide, by decide⟩) hAW hS (fun r M1 H locs hk hP hS => ?_)
  refine lv_aload_n hx hb d_law_958 rfl (lv_at hl 2 rfl) ?_
  refine lv_aload_n hx hb d_law_959 rfl (lv_at hl 0 rfl) ?_
  refine lv_iload_n hx hb d_law_960 rfl (lv_at hl 3 rfl) ?_
  refine lv_iconst (v := nI 1) hx hb d_law_961 (by decide) ?_
  refine lv_iadd hx hb d_law_962 ?_
  refine va_sld hx hb hX hbl hbA hS (lw_ix hL hi 1 (by decide)) d_law_963 ?_
  refine lv_aload_n hx hb d_law_964 rfl (lv_at hl 0 rfl) ?_
  refine lv_iload_n hx hb d_law_965 rfl (lv_at hl 3 rfl) ?_
  refine lv_iconst (v := nI 2) hx hb d_law_966 (by decide) ?_
  refine lv_iadd hx hb d_law_967 ?_
  refine va_sld hx hb hX hbl hbA hS (lw_ix hL hi 2 (by decide)) d_law_968 ?_
  refine lv_aload_n hx hb d_law_969 rfl (lv_at hl 0 rfl) ?_
  refine lv_iload_n hx hb d_law_970 rfl (lv_at hl 3 rfl) ?_
  refine lv_iconst (v := nI 3) hx hb d_law_971 (by decide) ?_
  refine lv_iadd hx hb d_law_972 ?_
  refine va_sld hx hb hX hbl hbA hS (lw_ix hL hi 3 (by decide)) d_law_973 ?_
  refine lv_aload_n hx hb d_law_974 rfl (lv_at hl 0 rfl) ?_
  refine lv_iload_n hx hb d_law_975 rfl (lv_at hl 3 rfl) ?_
  refine lv_iconst (v := nI 4) hx hb d_law_976 (by decide) ?_
  refine lv_iadd hx hb d_law_977 ?_
  refine va_sld hx hb hX hbl hbA hS (lw_ix hL hi 4 (by decide)) d_law_978 ?_
  refine lv_aload_n hx hb d_law_979 rfl (lv_at hl 0 rfl) ?_
  refine lv_iload_n hx hb d_law_980 rfl (lv_at hl 3 rfl) ?_
  refine lv_iconst (v := nI 5) hx hb d_law_981 (by decide) ?_
  refine lv_iadd hx hb d_law_982 ?_
  refine va_sld hx hb hX hbl hbA hS (lw_ix hL hi 5 (by decide)) d_law_983 ?_
  refine r_runIA (k_V (As := [.int (xs (nI i + nI 1).toNatClampNeg), .int (xs (nI i + nI 2).toNatClampNeg), .int (xs (nI i + nI 3).toNatClampNeg), .int (xs (nI i + nI 4).toNatClampNeg), .int (xs (nI i + nI 5).toNatClampNeg)]) (rest := [.int r]) C hW hP (c_Model_copy hI (xs (nI i + nI 1).toNatClampNeg) (xs (nI i + nI 2).toNatClampNeg) (xs (nI i + nI 3).toNatClampNeg) (xs (nI i + nI 4).toNatClampNeg) (xs (nI i + nI 5).toNatClampNeg) M1 _ hk) cb_Model_copy ml_Law_116 (io_29 g M1) ⟨by decide, by decide⟩ rfl hl.1 rfl (Nat.le_of_ble_eq_true rfl) d_law_984 ⟨by decide, by decide⟩) hAW hS (fun r2 M2 H locs hk hP hS => ?_)
  obtain ⟨rfl, hM2⟩ := hk
  refine lv_icmp_eq (tgt := 1120) hx hb d_law_987 (by decide) (fun c1 => ?_) (fun c1 => absurd rfl c1)
  exact kk M2 H locs hM2 hP hS
theorem law_case_tell {p : Program} {l : Launch} {e : Env} {s : State} {m : MethodId} {below : List Frame} {meth : Method} {c : Code} {b L : Nat} {xs : Nat → Int32} {g : GG} {Iv : Mem → Prop} (hL : L ≤ 384) (C0 : lw_At p s m meth c b L xs) (hI : WI g) (hW : WK g s) (hAW : ∀ q, AW g q → LwA s q) (hst : St_tell Iv) {i : Nat} (hi : i + 6 ≤ L) {M : Mem} (hM : Iv M) {H : Heap} {locs : List Loc} {ls : Array Slot} (hP : WP g M H) (hS : va_S (LwA s) s.heap H locs) (hl : LwL g b i ls) (kk : ∀ (M2 : Mem) (H2 : Heap) (locs2 : List Loc), Iv M2 → WP g M2 H2 → va_S (LwA s) s.heap H2 locs2 → W p l e room_1 s m #[Value.ref b] below meth c H2 locs2 600000 7302250 (lw_Z below #[Value.ref b] s) (F0 m 1120 ls [])) : W p l e room_1 s m #[Value.ref b] below meth c H locs 600000 7302250 (lw_Z below #[Value.ref b] s) (F0 m 992 ls []) := by
  obtain ⟨hx, hb, hr, hml, hown, hts, hX, hbl, hlocks, hgv⟩ := id C0
  have C : CallFix p m c code 4 s #[Value.ref b] TG N_Law := ⟨hx, hb, hml, hown, fun w hw => hts w (TG_tbl hw)⟩
  have hl : lv_has ls 4 [(0, .ref b), (1, .ref (g.2.2.2 0)), (2, .ref (g.2.2.2 29)), (3, .int (nI i))] := hl
  have hbA : ¬ LwA s b := Nat.not_le.mpr hbl
  have hk := hst (xs (nI i + nI 1).toNatClampNeg) M hM
  refine lv_aload_n hx hb d_law_992 rfl (lv_at hl 1 rfl) ?_
  refine lv_aload_n hx hb d_law_993 rfl (lv_at hl 0 rfl) ?_
  refine lv_iload_n hx hb d_law_994 rfl (lv_at hl 3 rfl) ?_
  refine lv_iconst (v := nI 1) hx hb d_law_995 (by decide) ?_
  refine lv_iadd hx hb d_law_996 ?_
  refine va_sld hx hb hX hbl hbA hS (lw_ix hL hi 1 (by decide)) d_law_997 ?_
  refine r_runIA (k_V (As := [.int (xs (nI i + nI 1).toNatClampNeg)]) (rest := []) C hW hP (c_Main_tell hI (xs (nI i + nI 1).toNatClampNeg) M _ hk) cb_Main_tell ml_Law_117 (io_0 g M) ⟨by decide, by decide⟩ rfl hl.1 rfl (Nat.le_of_ble_eq_true rfl) d_law_998 ⟨by decide, by decide⟩) hAW hS (fun r M1 H locs hk hP hS => ?_)
  refine lv_aload_n hx hb d_law_1001 rfl (lv_at hl 2 rfl) ?_
  refine lv_aload_n hx hb d_law_1002 rfl (lv_at hl 0 rfl) ?_
  refine lv_iload_n hx hb d_law_1003 rfl (lv_at hl 3 rfl) ?_
  refine lv_iconst (v := nI 1) hx hb d_law_1004 (by decide) ?_
  refine lv_iadd hx hb d_law_1005 ?_
  refine va_sld hx hb hX hbl hbA hS (lw_ix hL hi 1 (by decide)) d_law_1006 ?_
  refine r_runIA (k_V (As := [.int (xs (nI i + nI 1).toNatClampNeg)]) (rest := [.int r]) C hW hP (c_Model_tell hI (xs (nI i + nI 1).toNatClampNeg) M1 _ hk) cb_Model_tell ml_Law_120 (io_29 g M1) ⟨by decide, by decide⟩ rfl hl.1 rfl (Nat.le_of_ble_eq_true rfl) d_law_1007 ⟨by decide, by decide⟩) hAW hS (fun r2 M2 H locs hk hP hS => ?_)
  obtain ⟨rfl, hM2⟩ := hk
  refine lv_icmp_eq (tgt := 1120) hx hb d_law_1010 (by decide) (fun c1 => ?_) (fun c1 => absurd rfl c1)
  exact kk M2 H locs hM2 hP hS
theorem law_case_knock {p : Program} {l : Launch} {e : Env} {s : State} {m : MethodId} {below : List Frame} {meth : Method} {c : Code} {b L : Nat} {xs : Nat → Int32} {g : GG} {Iv : Mem → Prop} (hL : L ≤ 384) (C0 : lw_At p s m meth c b L xs) (hI : WI g) (hW : WK g s) (hAW : ∀ q, AW g q → LwA s q) (hst : St_knock Iv) {i : Nat} (hi : i + 6 ≤ L) {M : Mem} (hM : Iv M) {H : Heap} {locs : List Loc} {ls : Array Slot} (hP : WP g M H) (hS : va_S (LwA s) s.heap H locs) (hl : LwL g b i ls) (kk : ∀ (M2 : Mem) (H2 : Heap) (locs2 : List Loc), Iv M2 → WP g M2 H2 → va_S (LwA s) s.heap H2 locs2 → W p l e room_1 s m #[Value.ref b] below meth c H2 locs2 600000 7302250 (lw_Z below #[Value.ref b] s) (F0 m 1120 ls [])) : W p l e room_1 s m #[Value.ref b] below meth c H locs 600000 7302250 (lw_Z below #[Value.ref b] s) (F0 m 1015 ls []) := by
  obtain ⟨hx, hb, hr, hml, hown, hts, hX, hbl, hlocks, hgv⟩ := id C0
  have C : CallFix p m c code 4 s #[Value.ref b] TG N_Law := ⟨hx, hb, hml, hown, fun w hw => hts w (TG_tbl hw)⟩
  have hl : lv_has ls 4 [(0, .ref b), (1, .ref (g.2.2.2 0)), (2, .ref (g.2.2.2 29)), (3, .int (nI i))] := hl
  have hbA : ¬ LwA s b := Nat.not_le.mpr hbl
  have hk := hst (xs (nI i + nI 1).toNatClampNeg) M hM
  refine lv_aload_n hx hb d_law_1015 rfl (lv_at hl 1 rfl) ?_
  refine lv_aload_n hx hb d_law_1016 rfl (lv_at hl 0 rfl) ?_
  refine lv_iload_n hx hb d_law_1017 rfl (lv_at hl 3 rfl) ?_
  refine lv_iconst (v := nI 1) hx hb d_law_1018 (by decide) ?_
  refine lv_iadd hx hb d_law_1019 ?_
  refine va_sld hx hb hX hbl hbA hS (lw_ix hL hi 1 (by decide)) d_law_1020 ?_
  refine r_runIA (k_V (As := [.int (xs (nI i + nI 1).toNatClampNeg)]) (rest := []) C hW hP (c_Main_knock hI (xs (nI i + nI 1).toNatClampNeg) M _ hk) cb_Main_knock ml_Law_121 (io_0 g M) ⟨by decide, by decide⟩ rfl hl.1 rfl (Nat.le_of_ble_eq_true rfl) d_law_1021 ⟨by decide, by decide⟩) hAW hS (fun r M1 H locs hk hP hS => ?_)
  refine lv_aload_n hx hb d_law_1024 rfl (lv_at hl 2 rfl) ?_
  refine lv_aload_n hx hb d_law_1025 rfl (lv_at hl 0 rfl) ?_
  refine lv_iload_n hx hb d_law_1026 rfl (lv_at hl 3 rfl) ?_
  refine lv_iconst (v := nI 1) hx hb d_law_1027 (by decide) ?_
  refine lv_iadd hx hb d_law_1028 ?_
  refine va_sld hx hb hX hbl hbA hS (lw_ix hL hi 1 (by decide)) d_law_1029 ?_
  refine r_runIA (k_V (As := [.int (xs (nI i + nI 1).toNatClampNeg)]) (rest := [.int r]) C hW hP (c_Model_knock hI (xs (nI i + nI 1).toNatClampNeg) M1 _ hk) cb_Model_knock ml_Law_124 (io_29 g M1) ⟨by decide, by decide⟩ rfl hl.1 rfl (Nat.le_of_ble_eq_true rfl) d_law_1030 ⟨by decide, by decide⟩) hAW hS (fun r2 M2 H locs hk hP hS => ?_)
  obtain ⟨rfl, hM2⟩ := hk
  refine lv_icmp_eq (tgt := 1120) hx hb d_law_1033 (by decide) (fun c1 => ?_) (fun c1 => absurd rfl c1)
  exact kk M2 H locs hM2 hP hS
theorem law_case_as {p : Program} {l : Launch} {e : Env} {s : State} {m : MethodId} {below : List Frame} {meth : Method} {c : Code} {b L : Nat} {xs : Nat → Int32} {g : GG} {Iv : Mem → Prop} (hL : L ≤ 384) (C0 : lw_At p s m meth c b L xs) (hI : WI g) (hW : WK g s) (hAW : ∀ q, AW g q → LwA s q) (hst : St_as Iv) {i : Nat} (hi : i + 6 ≤ L) {M : Mem} (hM : Iv M) {H : Heap} {locs : List Loc} {ls : Array Slot} (hP : WP g M H) (hS : va_S (LwA s) s.heap H locs) (hl : LwL g b i ls) (kk : ∀ (M2 : Mem) (H2 : Heap) (locs2 : List Loc), Iv M2 → WP g M2 H2 → va_S (LwA s) s.heap H2 locs2 → W p l e room_1 s m #[Value.ref b] below meth c H2 locs2 600000 7302250 (lw_Z below #[Value.ref b] s) (F0 m 1120 ls [])) : W p l e room_1 s m #[Value.ref b] below meth c H locs 600000 7302250 (lw_Z below #[Value.ref b] s) (F0 m 1038 ls []) := by
  obtain ⟨hx, hb, hr, hml, hown, hts, hX, hbl, hlocks, hgv⟩ := id C0
  have C : CallFix p m c code 4 s #[Value.ref b] TG N_Law := ⟨hx, hb, hml, hown, fun w hw => hts w (TG_tbl hw)⟩
  have hl : lv_has ls 4 [(0, .ref b), (1, .ref (g.2.2.2 0)), (2, .ref (g.2.2.2 29)), (3, .int (nI i))] := hl
  have hbA : ¬ LwA s b := Nat.not_le.mpr hbl
  have hk := hst (xs (nI i + nI 1).toNatClampNeg) (xs (nI i + nI 2).toNatClampNeg) M hM
  refine lv_aload_n hx hb d_law_1038 rfl (lv_at hl 1 rfl) ?_
  refine lv_aload_n hx hb d_law_1039 rfl (lv_at hl 0 rfl) ?_
  refine lv_iload_n hx hb d_law_1040 rfl (lv_at hl 3 rfl) ?_
  refine lv_iconst (v := nI 1) hx hb d_law_1041 (by decide) ?_
  refine lv_iadd hx hb d_law_1042 ?_
  refine va_sld hx hb hX hbl hbA hS (lw_ix hL hi 1 (by decide)) d_law_1043 ?_
  refine lv_aload_n hx hb d_law_1044 rfl (lv_at hl 0 rfl) ?_
  refine lv_iload_n hx hb d_law_1045 rfl (lv_at hl 3 rfl) ?_
  refine lv_iconst (v := nI 2) hx hb d_law_1046 (by decide) ?_
  refine lv_iadd hx hb d_law_1047 ?_
  refine va_sld hx hb hX hbl hbA hS (lw_ix hL hi 2 (by decide)) d_law_1048 ?_
  refine r_runIA (k_V (As := [.int (xs (nI i + nI 1).toNatClampNeg), .int (xs (nI i + nI 2).toNatClampNeg)]) (rest := []) C hW hP (c_Main_as hI (xs (nI i + nI 1).toNatClampNeg) (xs (nI i + nI 2).toNatClampNeg) M _ hk) cb_Main_as ml_Law_125 (io_0 g M) ⟨by decide, by decide⟩ rfl hl.1 rfl (Nat.le_of_ble_eq_true rfl) d_law_1049 ⟨by decide, by decide⟩) hAW hS (fun r M1 H locs hk hP hS => ?_)
  refine lv_aload_n hx hb d_law_1052 rfl (lv_at hl 2 rfl) ?_
  refine lv_aload_n hx hb d_law_1053 rfl (lv_at hl 0 rfl) ?_
  refine lv_iload_n hx hb d_law_1054 rfl (lv_at hl 3 rfl) ?_
  refine lv_iconst (v := nI 1) hx hb d_law_1055 (by decide) ?_
  refine lv_iadd hx hb d_law_1056 ?_
  refine va_sld hx hb hX hbl hbA hS (lw_ix hL hi 1 (by decide)) d_law_1057 ?_
  refine lv_aload_n hx hb d_law_1058 rfl (lv_at hl 0 rfl) ?_
  refine lv_iload_n hx hb d_law_1059 rfl (lv_at hl 3 rfl) ?_
  refine lv_iconst (v := nI 2) hx hb d_law_1060 (by decide) ?_
  refine lv_iadd hx hb d_law_1061 ?_
  refine va_sld hx hb hX hbl hbA hS (lw_ix hL hi 2 (by decide)) d_law_1062 ?_
  refine r_runIA (k_V (As := [.int (xs (nI i + nI 1).toNatClampNeg), .int (xs (nI i + nI 2).toNatClampNeg)]) (rest := [.int r]) C hW hP (c_Model_as hI (xs (nI i + nI 1).toNatClampNeg) (xs (nI i + nI 2).toNatClampNeg) M1 _ hk) cb_Model_as ml_Law_128 (io_29 g M1) ⟨by decide, by decide⟩ rfl hl.1 rfl (Nat.le_of_ble_eq_true rfl) d_law_1063 ⟨by decide, by decide⟩) hAW hS (fun r2 M2 H locs hk hP hS => ?_)
  obtain ⟨rfl, hM2⟩ := hk
  refine lv_icmp_eq (tgt := 1120) hx hb d_law_1066 (by decide) (fun c1 => ?_) (fun c1 => absurd rfl c1)
  exact kk M2 H locs hM2 hP hS
theorem law_case_trace {p : Program} {l : Launch} {e : Env} {s : State} {m : MethodId} {below : List Frame} {meth : Method} {c : Code} {b L : Nat} {xs : Nat → Int32} {g : GG} {Iv : Mem → Prop} (hL : L ≤ 384) (C0 : lw_At p s m meth c b L xs) (hI : WI g) (hW : WK g s) (hAW : ∀ q, AW g q → LwA s q) (hst : St_trace Iv) {i : Nat} (hi : i + 6 ≤ L) {M : Mem} (hM : Iv M) {H : Heap} {locs : List Loc} {ls : Array Slot} (hP : WP g M H) (hS : va_S (LwA s) s.heap H locs) (hl : LwL g b i ls) (kk : ∀ (M2 : Mem) (H2 : Heap) (locs2 : List Loc), Iv M2 → WP g M2 H2 → va_S (LwA s) s.heap H2 locs2 → W p l e room_1 s m #[Value.ref b] below meth c H2 locs2 600000 7302250 (lw_Z below #[Value.ref b] s) (F0 m 1120 ls [])) : W p l e room_1 s m #[Value.ref b] below meth c H locs 600000 7302250 (lw_Z below #[Value.ref b] s) (F0 m 1071 ls []) := by
  obtain ⟨hx, hb, hr, hml, hown, hts, hX, hbl, hlocks, hgv⟩ := id C0
  have C : CallFix p m c code 4 s #[Value.ref b] TG N_Law := ⟨hx, hb, hml, hown, fun w hw => hts w (TG_tbl hw)⟩
  have hl : lv_has ls 4 [(0, .ref b), (1, .ref (g.2.2.2 0)), (2, .ref (g.2.2.2 29)), (3, .int (nI i))] := hl
  have hbA : ¬ LwA s b := Nat.not_le.mpr hbl
  have hk := hst  M hM
  refine lv_aload_n hx hb d_law_1071 rfl (lv_at hl 1 rfl) ?_
  refine r_runIA (k_V (As := []) (rest := []) C hW hP (c_Main_trace hI  M _ hk) cb_Main_trace ml_Law_129 (io_0 g M) ⟨by decide, by decide⟩ rfl hl.1 rfl (Nat.le_of_ble_eq_true rfl) d_law_1072 ⟨by decide, by decide⟩) hAW hS (fun r M1 H locs hk hP hS => ?_)
  refine lv_aload_n hx hb d_law_1075 rfl (lv_at hl 2 rfl) ?_
  refine r_runIA (k_V (As := []) (rest := [.int r]) C hW hP (c_Model_trace hI  M1 _ hk) cb_Model_trace ml_Law_132 (io_29 g M1) ⟨by decide, by decide⟩ rfl hl.1 rfl (Nat.le_of_ble_eq_true rfl) d_law_1076 ⟨by decide, by decide⟩) hAW hS (fun r2 M2 H locs hk hP hS => ?_)
  obtain ⟨rfl, hM2⟩ := hk
  refine lv_icmp_eq (tgt := 1120) hx hb d_law_1079 (by decide) (fun c1 => ?_) (fun c1 => absurd rfl c1)
  exact kk M2 H locs hM2 hP hS
theorem law_case_fault {p : Program} {l : Launch} {e : Env} {s : State} {m : MethodId} {below : List Frame} {meth : Method} {c : Code} {b L : Nat} {xs : Nat → Int32} {g : GG} {Iv : Mem → Prop} (hL : L ≤ 384) (C0 : lw_At p s m meth c b L xs) (hI : WI g) (hW : WK g s) (hAW : ∀ q, AW g q → LwA s q) (hst : St_fault Iv) {i : Nat} (hi : i + 6 ≤ L) {M : Mem} (hM : Iv M) {H : Heap} {locs : List Loc} {ls : Array Slot} (hP : WP g M H) (hS : va_S (LwA s) s.heap H locs) (hl : LwL g b i ls) (kk : ∀ (M2 : Mem) (H2 : Heap) (locs2 : List Loc), Iv M2 → WP g M2 H2 → va_S (LwA s) s.heap H2 locs2 → W p l e room_1 s m #[Value.ref b] below meth c H2 locs2 600000 7302250 (lw_Z below #[Value.ref b] s) (F0 m 1120 ls [])) : W p l e room_1 s m #[Value.ref b] below meth c H locs 600000 7302250 (lw_Z below #[Value.ref b] s) (F0 m 1084 ls []) := by
  obtain ⟨hx, hb, hr, hml, hown, hts, hX, hbl, hlocks, hgv⟩ := id C0
  have C : CallFix p m c code 4 s #[Value.ref b] TG N_Law := ⟨hx, hb, hml, hown, fun w hw => hts w (TG_tbl hw)⟩
  have hl : lv_has ls 4 [(0, .ref b), (1, .ref (g.2.2.2 0)), (2, .ref (g.2.2.2 29)), (3, .int (nI i))] := hl
  have hbA : ¬ LwA s b := Nat.not_le.mpr hbl
  have hk := hst  M hM
  refine lv_aload_n hx hb d_law_1084 rfl (lv_at hl 1 rfl) ?_
  refine r_runIA (k_V (As := []) (rest := []) C hW hP (c_Main_fault hI  M _ hk) cb_Main_fault ml_Law_133 (io_0 g M) ⟨by decide, by decide⟩ rfl hl.1 rfl (Nat.le_of_ble_eq_true rfl) d_law_1085 ⟨by decide, by decide⟩) hAW hS (fun r M1 H locs hk hP hS => ?_)
  refine lv_aload_n hx hb d_law_1088 rfl (lv_at hl 2 rfl) ?_
  refine r_runIA (k_V (As := []) (rest := [.int r]) C hW hP (c_Model_fault hI  M1 _ hk) cb_Model_fault ml_Law_136 (io_29 g M1) ⟨by decide, by decide⟩ rfl hl.1 rfl (Nat.le_of_ble_eq_true rfl) d_law_1089 ⟨by decide, by decide⟩) hAW hS (fun r2 M2 H locs hk hP hS => ?_)
  obtain ⟨rfl, hM2⟩ := hk
  refine lv_icmp_eq (tgt := 1120) hx hb d_law_1092 (by decide) (fun c1 => ?_) (fun c1 => absurd rfl c1)
  exact kk M2 H locs hM2 hP hS
theorem law_case_many {p : Program} {l : Launch} {e : Env} {s : State} {m : MethodId} {below : List Frame} {meth : Method} {c : Code} {b L : Nat} {xs : Nat → Int32} {g : GG} {Iv : Mem → Prop} (hL : L ≤ 384) (C0 : lw_At p s m meth c b L xs) (hI : WI g) (hW : WK g s) (hAW : ∀ q, AW g q → LwA s q) (hst : St_many Iv) {i : Nat} (hi : i + 6 ≤ L) {M : Mem} (hM : Iv M) {H : Heap} {locs : List Loc} {ls : Array Slot} (hP : WP g M H) (hS : va_S (LwA s) s.heap H locs) (hl : LwL g b i ls) (kk : ∀ (M2 : Mem) (H2 : Heap) (locs2 : List Loc), Iv M2 → WP g M2 H2 → va_S (LwA s) s.heap H2 locs2 → W p l e room_1 s m #[Value.ref b] below meth c H2 locs2 600000 7302250 (lw_Z below #[Value.ref b] s) (F0 m 1120 ls [])) : W p l e room_1 s m #[Value.ref b] below meth c H locs 600000 7302250 (lw_Z below #[Value.ref b] s) (F0 m 1097 ls []) := by
  obtain ⟨hx, hb, hr, hml, hown, hts, hX, hbl, hlocks, hgv⟩ := id C0
  have C : CallFix p m c code 4 s #[Value.ref b] TG N_Law := ⟨hx, hb, hml, hown, fun w hw => hts w (TG_tbl hw)⟩
  have hl : lv_has ls 4 [(0, .ref b), (1, .ref (g.2.2.2 0)), (2, .ref (g.2.2.2 29)), (3, .int (nI i))] := hl
  have hbA : ¬ LwA s b := Nat.not_le.mpr hbl
  have hk := hst (xs (nI i + nI 1).toNatClampNeg) M hM
  refine lv_aload_n hx hb d_law_1097 rfl (lv_at hl 1 rfl) ?_
  refine lv_aload_n hx hb d_law_1098 rfl (lv_at hl 0 rfl) ?_
  refine lv_iload_n hx hb d_law_1099 rfl (lv_at hl 3 rfl) ?_
  refine lv_iconst (v := nI 1) hx hb d_law_1100 (by decide) ?_
  refine lv_iadd hx hb d_law_1101 ?_
  refine va_sld hx hb hX hbl hbA hS (lw_ix hL hi 1 (by decide)) d_law_1102 ?_
  refine r_runIA (k_V (As := [.int (xs (nI i + nI 1).toNatClampNeg)]) (rest := []) C hW hP (c_Main_many hI (xs (nI i + nI 1).toNatClampNeg) M _ hk) cb_Main_many ml_Law_137 (io_0 g M) ⟨by decide, by decide⟩ rfl hl.1 rfl (Nat.le_of_ble_eq_true rfl) d_law_1103 ⟨by decide, by decide⟩) hAW hS (fun r M1 H locs hk hP hS => ?_)
  refine lv_aload_n hx hb d_law_1106 rfl (lv_at hl 2 rfl) ?_
  refine lv_aload_n hx hb d_law_1107 rfl (lv_at hl 0 rfl) ?_
  refine lv_iload_n hx hb d_law_1108 rfl (lv_at hl 3 rfl) ?_
  refine lv_iconst (v := nI 1) hx hb d_law_1109 (by decide) ?_
  refine lv_iadd hx hb d_law_1110 ?_
  refine va_sld hx hb hX hbl hbA hS (lw_ix hL hi 1 (by decide)) d_law_1111 ?_
  refine r_runIA (k_V (As := [.int (xs (nI i + nI 1).toNatClampNeg)]) (rest := [.int r]) C hW hP (c_Model_many hI (xs (nI i + nI 1).toNatClampNeg) M1 _ hk) cb_Model_many ml_Law_140 (io_29 g M1) ⟨by decide, by decide⟩ rfl hl.1 rfl (Nat.le_of_ble_eq_true rfl) d_law_1112 ⟨by decide, by decide⟩) hAW hS (fun r2 M2 H locs hk hP hS => ?_)
  obtain ⟨rfl, hM2⟩ := hk
  refine lv_icmp_eq (tgt := 1120) hx hb d_law_1115 (by decide) (fun c1 => ?_) (fun c1 => absurd rfl c1)
  exact kk M2 H locs hM2 hP hS
