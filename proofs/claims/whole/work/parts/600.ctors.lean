/-! the constructors -/
theorem ko_inst : Cond.instanceMethod objectInit ∈ TG := TG_m 73 (by decide +kernel) (by decide +kernel)
theorem ko_code : Cond.code objectInit ⟨#[0xb1]⟩ 1 none ∈ TG := TG_m 74 (by decide +kernel) (by decide +kernel)
theorem ka_int : Cond.arrayClass .int ∈ TG := TG_m 100 (by decide +kernel) (by decide +kernel)
theorem vp_lit {i : Int32} {n : Nat} (h : 0 ≤ i.toInt ∧ i.toInt < n) : vp_in i n := vp_in_iff.mpr h
theorem PC_blind {g : GG} {av : List Value} {sz : Nat} {ws : va_W} : FrameBlind (va_Pc av (fun U => U.heap.size = sz ∧ va_P g.1 classes ws U.heap ∧ WK g U ∧ va_D (fun _ => True) ws)) := fun _ _ _ _ h => ⟨h.1, h.2.1, h.2.2.1, h.2.2.2.1.calling, h.2.2.2.2⟩
section NR
variable {p : Program} {l : Launch} {e : Env} {R : Room} {s : State} {m : MethodId} {args : Array Value} {below : List Frame} {meth : Method} {c : Code} {H H0 : Heap} {locs : List Loc} {cells slots : Nat} {Q : State → Prop}
variable {cc : ByteArray} {pc nL : Nat} {ls : Array Slot} {rest : List Value} {own : String} {g : GG} {A : Nat → Prop} {ws : va_W}
theorem r_newa {N : Nat} (hx : p.tables.exec = Jvm.exec) (hb : c.code = cc) (hts : ∀ w ∈ TG, w.before args s = true) (hW : WK g s) (hP : va_P g.1 classes ws H) (hD : va_D A ws) (hS : va_S A H0 H locs) (hA : ∀ q, H0.size ≤ q → A q) {n : Int32} (hn : ¬ n < 0) (hN : n.toNatClampNeg = N) (hbytes : N * componentBytes .int ≤ 536870912) (hcells : cells + 1 ≤ R.cells) (hslots : slots + N ≤ R.slots) (hdg : decode cc pc = .ok (.newarray .int, 2))
    (kk : ∀ (q : Nat) (H1 : Heap), va_P g.1 classes (ws ++ [(q, .inl (g.2.1, N, .inl (fun _ => 0)))]) H1 → va_D A (ws ++ [(q, .inl (g.2.1, N, .inl (fun _ => 0)))]) → va_S A H0 H1 locs → W p l e R s m args below meth c H1 locs (cells + 1) (slots + N) Q (F0 m (pc + 2) ls (.ref q :: rest))) : W p l e R s m args below meth c H locs cells slots Q (F0 m pc ls (.int n :: rest)) := by
  refine va_newa (atype := .int) (tys := tysOf g) (a0 := (N, .inl (fun _ => 0))) hx hb (hts _ ka_int) (ty := .int) rfl hW.1 hP hD hS hA (fun cA => rfl) hn hN hbytes hcells hslots hdg (fun q cA H1 hK1 hP1 hD1 hS1 => ?_)
  have e1 : cA = g.2.1 := Option.some.inj ((hK1.2 2 (cA, .int) rfl).2.symm.trans (hK1.2 0 (g.2.1, .int) rfl).2)
  subst e1
  exact kk q H1 hP1 hD1 hS1
theorem r_newq {N : Nat} (hx : p.tables.exec = Jvm.exec) (hb : c.code = cc) (hown : s.vm.findClass own = some m.cls) {index : Nat} (hcl : (Cond.classLink own index N_Sheet).before args s = true) (hO : va_AO N_Sheet s) (hW : WK g s) (hP : va_P g.1 classes ws H) (hD : va_D A ws) (hS : va_S A H0 H locs) (hA : ∀ q, H0.size ≤ q → A q) {n : Int32} (hn : ¬ n < 0) (hN : n.toNatClampNeg = N) (hbytes : N * 4 ≤ 536870912) (hcells : cells + 1 ≤ R.cells) (hslots : slots + N ≤ R.slots) (hdg : decode cc pc = .ok (.anewarray index, 3))
    (kk : ∀ (q : Nat) (H1 : Heap), va_P g.1 classes (ws ++ [(q, .inl (g.2.2.1, N, .inr (.inr (.inr (.inr (fun _ => none))))))]) H1 → va_D A (ws ++ [(q, .inl (g.2.2.1, N, .inr (.inr (.inr (.inr (fun _ => none))))))]) → va_S A H0 H1 locs → W p l e R s m args below meth c H1 locs (cells + 1) (slots + N) Q (F0 m (pc + 3) ls (.ref q :: rest))) : W p l e R s m args below meth c H locs cells slots Q (F0 m pc ls (.int n :: rest)) := by
  refine va_newq (tys := tysOf g) hx hb hown hcl hO hW.1 hP hD hS hA hn hN hbytes hcells hslots hdg (fun q cA H1 hK1 hP1 hD1 hS1 => ?_)
  obtain ⟨_, _, _, _, _, f1⟩ := (hK1.2 2 (cA, .object "TrickHouses$Sheet") rfl).2
  obtain ⟨_, _, _, _, _, f2⟩ := (hK1.2 1 (g.2.2.1, .object "TrickHouses$Sheet") rfl).2
  have e1 : cA = g.2.2.1 := Option.some.inj (f1.symm.trans f2)
  subst e1
  exact kk q H1 hP1 hD1 hS1
end NR
theorem kin_Sheet : Cond.instantiable N_Sheet 4 ∈ TG := TG_m 77 (by decide +kernel) (by decide +kernel)
theorem kin_Text : Cond.instantiable N_Text 4 ∈ TG := TG_m 102 (by decide +kernel) (by decide +kernel)
theorem kin_Way : Cond.instantiable N_Way 8 ∈ TG := TG_m 123 (by decide +kernel) (by decide +kernel)
theorem kin_Walk : Cond.instantiable N_Walk 6 ∈ TG := TG_m 170 (by decide +kernel) (by decide +kernel)
theorem kin_Orders : Cond.instantiable N_Orders 2 ∈ TG := TG_m 208 (by decide +kernel) (by decide +kernel)
theorem kin_Search : Cond.instantiable N_Search 8 ∈ TG := TG_m 202 (by decide +kernel) (by decide +kernel)
theorem kin_Trials : Cond.instantiable N_Trials 4 ∈ TG := TG_m 252 (by decide +kernel) (by decide +kernel)
theorem kin_Readings : Cond.instantiable N_Readings 7 ∈ TG := TG_m 273 (by decide +kernel) (by decide +kernel)
theorem kin_Main : Cond.instantiable N_Main 9 ∈ TG := TG_m 68 (by decide +kernel) (by decide +kernel)
theorem kin_Model : Cond.instantiable N_Model 26 ∈ TG := TG_m 728 (by decide +kernel) (by decide +kernel)
abbrev b_Sheet_init : ByteArray := prog_5_method_1_code
def y_Sheet_init : MethodName := ⟨N_Sheet, "<init>", "()V"⟩
theorem d_Sheet_init_0 : decode b_Sheet_init 0 = .ok (.aload_n 0, 1) := by decide +kernel
theorem d_Sheet_init_1 : decode b_Sheet_init 1 = .ok (.invokespecial 3, 3) := by decide +kernel
theorem d_Sheet_init_4 : decode b_Sheet_init 4 = .ok (.aload_n 0, 1) := by decide +kernel
theorem d_Sheet_init_5 : decode b_Sheet_init 5 = .ok (.bipush 60, 2) := by decide +kernel
theorem d_Sheet_init_7 : decode b_Sheet_init 7 = .ok (.newarray .int, 2) := by decide +kernel
theorem d_Sheet_init_9 : decode b_Sheet_init 9 = .ok (.putfield 9, 3) := by decide +kernel
theorem d_Sheet_init_12 : decode b_Sheet_init 12 = .ok (.aload_n 0, 1) := by decide +kernel
theorem d_Sheet_init_13 : decode b_Sheet_init 13 = .ok (.iconst 0, 1) := by decide +kernel
theorem d_Sheet_init_14 : decode b_Sheet_init 14 = .ok (.putfield 15, 3) := by decide +kernel
theorem d_Sheet_init_17 : decode b_Sheet_init 17 = .ok (.aload_n 0, 1) := by decide +kernel
theorem d_Sheet_init_18 : decode b_Sheet_init 18 = .ok (.iconst 0, 1) := by decide +kernel
theorem d_Sheet_init_19 : decode b_Sheet_init 19 = .ok (.putfield 19, 3) := by decide +kernel
theorem d_Sheet_init_22 : decode b_Sheet_init 22 = .ok (.aload_n 0, 1) := by decide +kernel
theorem d_Sheet_init_23 : decode b_Sheet_init 23 = .ok (.iconst 0, 1) := by decide +kernel
theorem d_Sheet_init_24 : decode b_Sheet_init 24 = .ok (.putfield 23, 3) := by decide +kernel
theorem d_Sheet_init_27 : decode b_Sheet_init 27 = .ok (.return_, 1) := by decide +kernel
theorem kc_Sheet_init : Cond.code y_Sheet_init b_Sheet_init 1 none ∈ TG := TG_m 80 (by decide +kernel) (by decide +kernel)
theorem ki_Sheet_init : Cond.instanceMethod y_Sheet_init ∈ TG := TG_m 79 (by decide +kernel) (by decide +kernel)
theorem kn_Sheet : Cond.initialized N_Sheet ∈ TG := TG_m 55 (by decide +kernel) (by decide +kernel)
theorem mi_Sheet_3 : Cond.methodLink N_Sheet 3 objectInit ∈ TG := TG_m 81 (by decide +kernel) (by decide +kernel)
set_option maxHeartbeats 4000000 in
set_option maxRecDepth 100000 in
theorem c_Sheet_init (l : Launch) (g : GG) (h0 sz : Nat) : Met l y_Sheet_init (wm y_Sheet_init b_Sheet_init 1 none) { frames := 1, cells := 1, slots := 60, locals := 20 } (va_Pc [.ref h0] (fun U => U.heap.size = sz ∧ va_P g.1 classes [(h0, .inr (3, [.null, .int 0, .int 0, .int 0]))] U.heap ∧ WK g U ∧ va_D (fun _ => True) [(h0, .inr (3, [.null, .int 0, .int 0, .int 0]))])) (va_Qv (fun _ : Unit => True) (fun _ t => ∃ q1, va_P g.1 classes [(h0, .inr (3, [.ref q1, .int (0), .int (0), .int (0)])), (q1, .inl (g.2.1, 60, .inl (fun _ => 0)))] t.heap ∧ va_D (va_A [(h0, .inr (3, [.null, .int 0, .int 0, .int 0]))] sz) [(h0, .inr (3, [.ref q1, .int (0), .int (0), .int (0)])), (q1, .inl (g.2.1, 60, .inl (fun _ => 0)))]) (va_A [(h0, .inr (3, [.null, .int 0, .int 0, .int 0]))] sz)) 1 60 (va_A [(h0, .inr (3, [.null, .int 0, .int 0, .int 0]))] sz) := by
  refine Met.ofW (cc := b_Sheet_init) (maxL := 1) (ret := none) (by decide) rfl ?_
  intro p e s m args below meth c s₁ B hml hv
  obtain ⟨rfl, hsz, hP, hW, hD0⟩ := hv
  have hx := B.exec
  have hb := B.bytes
  have hr := B.returns
  have hts : ∀ w ∈ TG, w.before _ s = true := fun w hw => atoms_spec (ws := wm y_Sheet_init b_Sheet_init 1 none) B.pre w (List.mem_cons_of_mem _ hw)
  have hown : s.vm.findClass N_Sheet = some m.cls := findClass_of_methodNamed B.named
  have hlocks := B.notSynchronized
  have hin : meth.name = "<init>" := (name_of_methodNamed B.named B.method).1
  subst hsz
  have hD := hD0.self (sz := s.heap.size)
  generalize hAe : va_A [(h0, .inr (3, [.null, .int 0, .int 0, .int 0]))] s.heap.size = A at hD ⊢
  have hA : ∀ q : Nat, s.heap.size ≤ q → A q := fun q h => by rw [← hAe]; exact Or.inr h
  have hS : va_S A s.heap s.heap [] := va_S.rf
  have hP : va_P g.1 classes [(h0, .inr (3, [.null, .int 0, .int 0, .int 0]))] s.heap := hP
  have hl := lv_entry ([.ref h0]) (n := 1) (Nat.le_of_ble_eq_true rfl)
  rw [lg_entry_eq]
  generalize (lg_sl ([.ref h0]) ++ List.replicate (1 - (lg_sl ([.ref h0])).length) Slot.unset).toArray = ls at hl ⊢
  have hl : lv_has ls 1 [(0, .ref h0)] := hl
  refine lv_aload_n hx hb d_Sheet_init_0 rfl (lv_at hl 0 rfl) ?_
  refine W.objInit hx hb hown (hts _ mi_Sheet_3) (hts _ ko_inst) (hts _ ko_code) rfl (by rw [hml]; exact hl.1) rfl d_Sheet_init_1 (Nat.le_of_ble_eq_true rfl) (Nat.le_of_ble_eq_true rfl) ?_
  refine W.eq (g2 := F0 m 4 ls []) rfl ?_
  refine lv_aload_n hx hb d_Sheet_init_4 rfl (lv_at hl 0 rfl) ?_
  refine lv_bipush (v := 60) hx hb d_Sheet_init_5 (by decide) ?_
  refine r_newa (N := 60) hx hb hts hW hP hD hS hA (by decide) (by decide) (by decide) (Nat.le_of_ble_eq_true rfl) (Nat.le_of_ble_eq_true rfl) d_Sheet_init_7 (fun q1 H hP hD hS => ?_)
  have hP : va_P g.1 classes [(h0, .inr (3, [.null, .int 0, .int 0, .int 0])), (q1, .inl (g.2.1, 60, .inl (fun _ => 0)))] H := hP
  have hD : va_D A [(h0, .inr (3, [.null, .int 0, .int 0, .int 0])), (q1, .inl (g.2.1, 60, .inl (fun _ => 0)))] := hD
  refine W.widen (k := 1) (n := 60) (Nat.le_of_ble_eq_true rfl) (Nat.le_of_ble_eq_true rfl) ?_
  refine va_putF (D := g.1) (cl := classes) (ci := 3) (v := .ref q1) (ty := .array .int) (C := N_Sheet) (T := T_Sheet) (N := 4) (tys := tysOf g) hx hb hts t_Sheet_in y_Sheet_t t_Sheet_ok t_Sheet_nm hown hW.1 hP hD hS 0 rfl rfl 0 (by decide) (hts _ fl_Sheet_9) (fun _ h9 => h9) rfl hin rfl (by decide +kernel) rfl rfl (Nat.le_of_ble_eq_true rfl) d_Sheet_init_9 (fun H locs hP hD hS => ?_)
  have hP : va_P g.1 classes [(h0, .inr (3, [.ref q1, .int 0, .int 0, .int 0])), (q1, .inl (g.2.1, 60, .inl (fun _ => 0)))] H := hP
  have hD : va_D A [(h0, .inr (3, [.ref q1, .int 0, .int 0, .int 0])), (q1, .inl (g.2.1, 60, .inl (fun _ => 0)))] := hD
  refine lv_aload_n hx hb d_Sheet_init_12 rfl (lv_at hl 0 rfl) ?_
  refine lv_iconst (v := 0) hx hb d_Sheet_init_13 (by decide) ?_
  refine va_put (D := g.1) (cl := classes) (ci := 3) (v := .int (0)) (ty := .boolean) (C := N_Sheet) (T := T_Sheet) (N := 4) (tys := tysOf g) hx hb hts t_Sheet_in y_Sheet_t t_Sheet_ok t_Sheet_nm hown hW.1 hP hD hS 0 rfl rfl 1 (by decide) (hts _ fl_Sheet_15) (fun _ h9 => h9) rfl (by decide +kernel) rfl rfl (Nat.le_of_ble_eq_true rfl) d_Sheet_init_14 (fun H locs hP hD hS => ?_)
  have hP : va_P g.1 classes [(h0, .inr (3, [.ref q1, .int (0), .int 0, .int 0])), (q1, .inl (g.2.1, 60, .inl (fun _ => 0)))] H := hP
  have hD : va_D A [(h0, .inr (3, [.ref q1, .int (0), .int 0, .int 0])), (q1, .inl (g.2.1, 60, .inl (fun _ => 0)))] := hD
  refine lv_aload_n hx hb d_Sheet_init_17 rfl (lv_at hl 0 rfl) ?_
  refine lv_iconst (v := 0) hx hb d_Sheet_init_18 (by decide) ?_
  refine va_put (D := g.1) (cl := classes) (ci := 3) (v := .int (0)) (ty := .int) (C := N_Sheet) (T := T_Sheet) (N := 4) (tys := tysOf g) hx hb hts t_Sheet_in y_Sheet_t t_Sheet_ok t_Sheet_nm hown hW.1 hP hD hS 0 rfl rfl 2 (by decide) (hts _ fl_Sheet_19) (fun _ h9 => h9) rfl (by decide +kernel) rfl rfl (Nat.le_of_ble_eq_true rfl) d_Sheet_init_19 (fun H locs hP hD hS => ?_)
  have hP : va_P g.1 classes [(h0, .inr (3, [.ref q1, .int (0), .int (0), .int 0])), (q1, .inl (g.2.1, 60, .inl (fun _ => 0)))] H := hP
  have hD : va_D A [(h0, .inr (3, [.ref q1, .int (0), .int (0), .int 0])), (q1, .inl (g.2.1, 60, .inl (fun _ => 0)))] := hD
  refine lv_aload_n hx hb d_Sheet_init_22 rfl (lv_at hl 0 rfl) ?_
  refine lv_iconst (v := 0) hx hb d_Sheet_init_23 (by decide) ?_
  refine va_put (D := g.1) (cl := classes) (ci := 3) (v := .int (0)) (ty := .int) (C := N_Sheet) (T := T_Sheet) (N := 4) (tys := tysOf g) hx hb hts t_Sheet_in y_Sheet_t t_Sheet_ok t_Sheet_nm hown hW.1 hP hD hS 0 rfl rfl 3 (by decide) (hts _ fl_Sheet_23) (fun _ h9 => h9) rfl (by decide +kernel) rfl rfl (Nat.le_of_ble_eq_true rfl) d_Sheet_init_24 (fun H locs hP hD hS => ?_)
  have hP : va_P g.1 classes [(h0, .inr (3, [.ref q1, .int (0), .int (0), .int (0)])), (q1, .inl (g.2.1, 60, .inl (fun _ => 0)))] H := hP
  have hD : va_D A [(h0, .inr (3, [.ref q1, .int (0), .int (0), .int (0)])), (q1, .inl (g.2.1, 60, .inl (fun _ => 0)))] := hD
  refine W.widen (k := 1) (n := 60) (Nat.le_of_ble_eq_true rfl) (Nat.le_of_ble_eq_true rfl) ?_
  exact W.vret hx hb hr (fun t ht hWm => ⟨⟨(), rfl, trivial, q1, by rw [ht]; exact hP, hD⟩, hS.F ht⟩) hS.2.2 d_Sheet_init_27
abbrev b_Text_init : ByteArray := prog_6_method_1_code
def y_Text_init : MethodName := ⟨N_Text, "<init>", "()V"⟩
theorem d_Text_init_0 : decode b_Text_init 0 = .ok (.aload_n 0, 1) := by decide +kernel
theorem d_Text_init_1 : decode b_Text_init 1 = .ok (.invokespecial 3, 3) := by decide +kernel
theorem d_Text_init_4 : decode b_Text_init 4 = .ok (.aload_n 0, 1) := by decide +kernel
theorem d_Text_init_5 : decode b_Text_init 5 = .ok (.bipush 60, 2) := by decide +kernel
theorem d_Text_init_7 : decode b_Text_init 7 = .ok (.newarray .int, 2) := by decide +kernel
theorem d_Text_init_9 : decode b_Text_init 9 = .ok (.putfield 9, 3) := by decide +kernel
theorem d_Text_init_12 : decode b_Text_init 12 = .ok (.aload_n 0, 1) := by decide +kernel
theorem d_Text_init_13 : decode b_Text_init 13 = .ok (.iconst 0, 1) := by decide +kernel
theorem d_Text_init_14 : decode b_Text_init 14 = .ok (.putfield 15, 3) := by decide +kernel
theorem d_Text_init_17 : decode b_Text_init 17 = .ok (.aload_n 0, 1) := by decide +kernel
theorem d_Text_init_18 : decode b_Text_init 18 = .ok (.iconst 0, 1) := by decide +kernel
theorem d_Text_init_19 : decode b_Text_init 19 = .ok (.putfield 19, 3) := by decide +kernel
theorem d_Text_init_22 : decode b_Text_init 22 = .ok (.aload_n 0, 1) := by decide +kernel
theorem d_Text_init_23 : decode b_Text_init 23 = .ok (.iconst 0, 1) := by decide +kernel
theorem d_Text_init_24 : decode b_Text_init 24 = .ok (.putfield 22, 3) := by decide +kernel
theorem d_Text_init_27 : decode b_Text_init 27 = .ok (.return_, 1) := by decide +kernel
theorem kc_Text_init : Cond.code y_Text_init b_Text_init 1 none ∈ TG := TG_m 105 (by decide +kernel) (by decide +kernel)
theorem ki_Text_init : Cond.instanceMethod y_Text_init ∈ TG := TG_m 104 (by decide +kernel) (by decide +kernel)
theorem kn_Text : Cond.initialized N_Text ∈ TG := TG_m 56 (by decide +kernel) (by decide +kernel)
theorem mi_Text_3 : Cond.methodLink N_Text 3 objectInit ∈ TG := TG_m 106 (by decide +kernel) (by decide +kernel)
set_option maxHeartbeats 4000000 in
set_option maxRecDepth 100000 in
theorem c_Text_init (l : Launch) (g : GG) (h0 sz : Nat) : Met l y_Text_init (wm y_Text_init b_Text_init 1 none) { frames := 1, cells := 1, slots := 60, locals := 20 } (va_Pc [.ref h0] (fun U => U.heap.size = sz ∧ va_P g.1 classes [(h0, .inr (4, [.null, .int 0, .int 0, .int 0]))] U.heap ∧ WK g U ∧ va_D (fun _ => True) [(h0, .inr (4, [.null, .int 0, .int 0, .int 0]))])) (va_Qv (fun _ : Unit => True) (fun _ t => ∃ q1, va_P g.1 classes [(h0, .inr (4, [.ref q1, .int (0), .int (0), .int (0)])), (q1, .inl (g.2.1, 60, .inl (fun _ => 0)))] t.heap ∧ va_D (va_A [(h0, .inr (4, [.null, .int 0, .int 0, .int 0]))] sz) [(h0, .inr (4, [.ref q1, .int (0), .int (0), .int (0)])), (q1, .inl (g.2.1, 60, .inl (fun _ => 0)))]) (va_A [(h0, .inr (4, [.null, .int 0, .int 0, .int 0]))] sz)) 1 60 (va_A [(h0, .inr (4, [.null, .int 0, .int 0, .int 0]))] sz) := by
  refine Met.ofW (cc := b_Text_init) (maxL := 1) (ret := none) (by decide) rfl ?_
  intro p e s m args below meth c s₁ B hml hv
  obtain ⟨rfl, hsz, hP, hW, hD0⟩ := hv
  have hx := B.exec
  have hb := B.bytes
  have hr := B.returns
  have hts : ∀ w ∈ TG, w.before _ s = true := fun w hw => atoms_spec (ws := wm y_Text_init b_Text_init 1 none) B.pre w (List.mem_cons_of_mem _ hw)
  have hown : s.vm.findClass N_Text = some m.cls := findClass_of_methodNamed B.named
  have hlocks := B.notSynchronized
  have hin : meth.name = "<init>" := (name_of_methodNamed B.named B.method).1
  subst hsz
  have hD := hD0.self (sz := s.heap.size)
  generalize hAe : va_A [(h0, .inr (4, [.null, .int 0, .int 0, .int 0]))] s.heap.size = A at hD ⊢
  have hA : ∀ q : Nat, s.heap.size ≤ q → A q := fun q h => by rw [← hAe]; exact Or.inr h
  have hS : va_S A s.heap s.heap [] := va_S.rf
  have hP : va_P g.1 classes [(h0, .inr (4, [.null, .int 0, .int 0, .int 0]))] s.heap := hP
  have hl := lv_entry ([.ref h0]) (n := 1) (Nat.le_of_ble_eq_true rfl)
  rw [lg_entry_eq]
  generalize (lg_sl ([.ref h0]) ++ List.replicate (1 - (lg_sl ([.ref h0])).length) Slot.unset).toArray = ls at hl ⊢
  have hl : lv_has ls 1 [(0, .ref h0)] := hl
  refine lv_aload_n hx hb d_Text_init_0 rfl (lv_at hl 0 rfl) ?_
  refine W.objInit hx hb hown (hts _ mi_Text_3) (hts _ ko_inst) (hts _ ko_code) rfl (by rw [hml]; exact hl.1) rfl d_Text_init_1 (Nat.le_of_ble_eq_true rfl) (Nat.le_of_ble_eq_true rfl) ?_
  refine W.eq (g2 := F0 m 4 ls []) rfl ?_
  refine lv_aload_n hx hb d_Text_init_4 rfl (lv_at hl 0 rfl) ?_
  refine lv_bipush (v := 60) hx hb d_Text_init_5 (by decide) ?_
  refine r_newa (N := 60) hx hb hts hW hP hD hS hA (by decide) (by decide) (by decide) (Nat.le_of_ble_eq_true rfl) (Nat.le_of_ble_eq_true rfl) d_Text_init_7 (fun q1 H hP hD hS => ?_)
  have hP : va_P g.1 classes [(h0, .inr (4, [.null, .int 0, .int 0, .int 0])), (q1, .inl (g.2.1, 60, .inl (fun _ => 0)))] H := hP
  have hD : va_D A [(h0, .inr (4, [.null, .int 0, .int 0, .int 0])), (q1, .inl (g.2.1, 60, .inl (fun _ => 0)))] := hD
  refine W.widen (k := 1) (n := 60) (Nat.le_of_ble_eq_true rfl) (Nat.le_of_ble_eq_true rfl) ?_
  refine va_putF (D := g.1) (cl := classes) (ci := 4) (v := .ref q1) (ty := .array .int) (C := N_Text) (T := T_Text) (N := 4) (tys := tysOf g) hx hb hts t_Text_in y_Text_t t_Text_ok t_Text_nm hown hW.1 hP hD hS 0 rfl rfl 0 (by decide) (hts _ fl_Text_9) (fun _ h9 => h9) rfl hin rfl (by decide +kernel) rfl rfl (Nat.le_of_ble_eq_true rfl) d_Text_init_9 (fun H locs hP hD hS => ?_)
  have hP : va_P g.1 classes [(h0, .inr (4, [.ref q1, .int 0, .int 0, .int 0])), (q1, .inl (g.2.1, 60, .inl (fun _ => 0)))] H := hP
  have hD : va_D A [(h0, .inr (4, [.ref q1, .int 0, .int 0, .int 0])), (q1, .inl (g.2.1, 60, .inl (fun _ => 0)))] := hD
  refine lv_aload_n hx hb d_Text_init_12 rfl (lv_at hl 0 rfl) ?_
  refine lv_iconst (v := 0) hx hb d_Text_init_13 (by decide) ?_
  refine va_put (D := g.1) (cl := classes) (ci := 4) (v := .int (0)) (ty := .int) (C := N_Text) (T := T_Text) (N := 4) (tys := tysOf g) hx hb hts t_Text_in y_Text_t t_Text_ok t_Text_nm hown hW.1 hP hD hS 0 rfl rfl 1 (by decide) (hts _ fl_Text_15) (fun _ h9 => h9) rfl (by decide +kernel) rfl rfl (Nat.le_of_ble_eq_true rfl) d_Text_init_14 (fun H locs hP hD hS => ?_)
  have hP : va_P g.1 classes [(h0, .inr (4, [.ref q1, .int (0), .int 0, .int 0])), (q1, .inl (g.2.1, 60, .inl (fun _ => 0)))] H := hP
  have hD : va_D A [(h0, .inr (4, [.ref q1, .int (0), .int 0, .int 0])), (q1, .inl (g.2.1, 60, .inl (fun _ => 0)))] := hD
  refine lv_aload_n hx hb d_Text_init_17 rfl (lv_at hl 0 rfl) ?_
  refine lv_iconst (v := 0) hx hb d_Text_init_18 (by decide) ?_
  refine va_put (D := g.1) (cl := classes) (ci := 4) (v := .int (0)) (ty := .int) (C := N_Text) (T := T_Text) (N := 4) (tys := tysOf g) hx hb hts t_Text_in y_Text_t t_Text_ok t_Text_nm hown hW.1 hP hD hS 0 rfl rfl 2 (by decide) (hts _ fl_Text_19) (fun _ h9 => h9) rfl (by decide +kernel) rfl rfl (Nat.le_of_ble_eq_true rfl) d_Text_init_19 (fun H locs hP hD hS => ?_)
  have hP : va_P g.1 classes [(h0, .inr (4, [.ref q1, .int (0), .int (0), .int 0])), (q1, .inl (g.2.1, 60, .inl (fun _ => 0)))] H := hP
  have hD : va_D A [(h0, .inr (4, [.ref q1, .int (0), .int (0), .int 0])), (q1, .inl (g.2.1, 60, .inl (fun _ => 0)))] := hD
  refine lv_aload_n hx hb d_Text_init_22 rfl (lv_at hl 0 rfl) ?_
  refine lv_iconst (v := 0) hx hb d_Text_init_23 (by decide) ?_
  refine va_put (D := g.1) (cl := classes) (ci := 4) (v := .int (0)) (ty := .int) (C := N_Text) (T := T_Text) (N := 4) (tys := tysOf g) hx hb hts t_Text_in y_Text_t t_Text_ok t_Text_nm hown hW.1 hP hD hS 0 rfl rfl 3 (by decide) (hts _ fl_Text_22) (fun _ h9 => h9) rfl (by decide +kernel) rfl rfl (Nat.le_of_ble_eq_true rfl) d_Text_init_24 (fun H locs hP hD hS => ?_)
  have hP : va_P g.1 classes [(h0, .inr (4, [.ref q1, .int (0), .int (0), .int (0)])), (q1, .inl (g.2.1, 60, .inl (fun _ => 0)))] H := hP
  have hD : va_D A [(h0, .inr (4, [.ref q1, .int (0), .int (0), .int (0)])), (q1, .inl (g.2.1, 60, .inl (fun _ => 0)))] := hD
  refine W.widen (k := 1) (n := 60) (Nat.le_of_ble_eq_true rfl) (Nat.le_of_ble_eq_true rfl) ?_
  exact W.vret hx hb hr (fun t ht hWm => ⟨⟨(), rfl, trivial, q1, by rw [ht]; exact hP, hD⟩, hS.F ht⟩) hS.2.2 d_Text_init_27
abbrev b_Way_init : ByteArray := prog_9_method_1_code
def y_Way_init : MethodName := ⟨N_Way, "<init>", "()V"⟩
theorem d_Way_init_0 : decode b_Way_init 0 = .ok (.aload_n 0, 1) := by decide +kernel
theorem d_Way_init_1 : decode b_Way_init 1 = .ok (.invokespecial 3, 3) := by decide +kernel
theorem d_Way_init_4 : decode b_Way_init 4 = .ok (.aload_n 0, 1) := by decide +kernel
theorem d_Way_init_5 : decode b_Way_init 5 = .ok (.bipush 6, 2) := by decide +kernel
theorem d_Way_init_7 : decode b_Way_init 7 = .ok (.newarray .int, 2) := by decide +kernel
theorem d_Way_init_9 : decode b_Way_init 9 = .ok (.putfield 9, 3) := by decide +kernel
theorem d_Way_init_12 : decode b_Way_init 12 = .ok (.aload_n 0, 1) := by decide +kernel
theorem d_Way_init_13 : decode b_Way_init 13 = .ok (.bipush 6, 2) := by decide +kernel
theorem d_Way_init_15 : decode b_Way_init 15 = .ok (.newarray .int, 2) := by decide +kernel
theorem d_Way_init_17 : decode b_Way_init 17 = .ok (.putfield 15, 3) := by decide +kernel
theorem d_Way_init_20 : decode b_Way_init 20 = .ok (.aload_n 0, 1) := by decide +kernel
theorem d_Way_init_21 : decode b_Way_init 21 = .ok (.bipush 6, 2) := by decide +kernel
theorem d_Way_init_23 : decode b_Way_init 23 = .ok (.newarray .int, 2) := by decide +kernel
theorem d_Way_init_25 : decode b_Way_init 25 = .ok (.putfield 18, 3) := by decide +kernel
theorem d_Way_init_28 : decode b_Way_init 28 = .ok (.aload_n 0, 1) := by decide +kernel
theorem d_Way_init_29 : decode b_Way_init 29 = .ok (.bipush 6, 2) := by decide +kernel
theorem d_Way_init_31 : decode b_Way_init 31 = .ok (.newarray .int, 2) := by decide +kernel
theorem d_Way_init_33 : decode b_Way_init 33 = .ok (.putfield 21, 3) := by decide +kernel
theorem d_Way_init_36 : decode b_Way_init 36 = .ok (.aload_n 0, 1) := by decide +kernel
theorem d_Way_init_37 : decode b_Way_init 37 = .ok (.iconst 5, 1) := by decide +kernel
theorem d_Way_init_38 : decode b_Way_init 38 = .ok (.newarray .int, 2) := by decide +kernel
theorem d_Way_init_40 : decode b_Way_init 40 = .ok (.putfield 24, 3) := by decide +kernel
theorem d_Way_init_43 : decode b_Way_init 43 = .ok (.aload_n 0, 1) := by decide +kernel
theorem d_Way_init_44 : decode b_Way_init 44 = .ok (.iconst 0, 1) := by decide +kernel
theorem d_Way_init_45 : decode b_Way_init 45 = .ok (.putfield 27, 3) := by decide +kernel
theorem d_Way_init_48 : decode b_Way_init 48 = .ok (.aload_n 0, 1) := by decide +kernel
theorem d_Way_init_49 : decode b_Way_init 49 = .ok (.iconst 0, 1) := by decide +kernel
theorem d_Way_init_50 : decode b_Way_init 50 = .ok (.putfield 31, 3) := by decide +kernel
theorem d_Way_init_53 : decode b_Way_init 53 = .ok (.aload_n 0, 1) := by decide +kernel
theorem d_Way_init_54 : decode b_Way_init 54 = .ok (.bipush 6, 2) := by decide +kernel
theorem d_Way_init_56 : decode b_Way_init 56 = .ok (.putfield 34, 3) := by decide +kernel
theorem d_Way_init_59 : decode b_Way_init 59 = .ok (.return_, 1) := by decide +kernel
theorem kc_Way_init : Cond.code y_Way_init b_Way_init 1 none ∈ TG := TG_m 126 (by decide +kernel) (by decide +kernel)
theorem ki_Way_init : Cond.instanceMethod y_Way_init ∈ TG := TG_m 125 (by decide +kernel) (by decide +kernel)
theorem kn_Way : Cond.initialized N_Way ∈ TG := TG_m 57 (by decide +kernel) (by decide +kernel)
theorem mi_Way_3 : Cond.methodLink N_Way 3 objectInit ∈ TG := TG_m 127 (by decide +kernel) (by decide +kernel)
set_option maxHeartbeats 4000000 in
set_option maxRecDepth 100000 in
theorem c_Way_init (l : Launch) (g : GG) (h0 sz : Nat) : Met l y_Way_init (wm y_Way_init b_Way_init 1 none) { frames := 1, cells := 5, slots := 29, locals := 20 } (va_Pc [.ref h0] (fun U => U.heap.size = sz ∧ va_P g.1 classes [(h0, .inr (7, [.null, .null, .null, .null, .null, .int 0, .int 0, .int 0]))] U.heap ∧ WK g U ∧ va_D (fun _ => True) [(h0, .inr (7, [.null, .null, .null, .null, .null, .int 0, .int 0, .int 0]))])) (va_Qv (fun _ : Unit => True) (fun _ t => ∃ q1, ∃ q2, ∃ q3, ∃ q4, ∃ q5, va_P g.1 classes [(h0, .inr (7, [.ref q1, .ref q2, .ref q3, .ref q4, .ref q5, .int (0), .int (0), .int (6)])), (q1, .inl (g.2.1, 6, .inl (fun _ => 0))), (q2, .inl (g.2.1, 6, .inl (fun _ => 0))), (q3, .inl (g.2.1, 6, .inl (fun _ => 0))), (q4, .inl (g.2.1, 6, .inl (fun _ => 0))), (q5, .inl (g.2.1, 5, .inl (fun _ => 0)))] t.heap ∧ va_D (va_A [(h0, .inr (7, [.null, .null, .null, .null, .null, .int 0, .int 0, .int 0]))] sz) [(h0, .inr (7, [.ref q1, .ref q2, .ref q3, .ref q4, .ref q5, .int (0), .int (0), .int (6)])), (q1, .inl (g.2.1, 6, .inl (fun _ => 0))), (q2, .inl (g.2.1, 6, .inl (fun _ => 0))), (q3, .inl (g.2.1, 6, .inl (fun _ => 0))), (q4, .inl (g.2.1, 6, .inl (fun _ => 0))), (q5, .inl (g.2.1, 5, .inl (fun _ => 0)))]) (va_A [(h0, .inr (7, [.null, .null, .null, .null, .null, .int 0, .int 0, .int 0]))] sz)) 5 29 (va_A [(h0, .inr (7, [.null, .null, .null, .null, .null, .int 0, .int 0, .int 0]))] sz) := by
  refine Met.ofW (cc := b_Way_init) (maxL := 1) (ret := none) (by decide) rfl ?_
  intro p e s m args below meth c s₁ B hml hv
  obtain ⟨rfl, hsz, hP, hW, hD0⟩ := hv
  have hx := B.exec
  have hb := B.bytes
  have hr := B.returns
  have hts : ∀ w ∈ TG, w.before _ s = true := fun w hw => atoms_spec (ws := wm y_Way_init b_Way_init 1 none) B.pre w (List.mem_cons_of_mem _ hw)
  have hown : s.vm.findClass N_Way = some m.cls := findClass_of_methodNamed B.named
  have hlocks := B.notSynchronized
  have hin : meth.name = "<init>" := (name_of_methodNamed B.named B.method).1
  subst hsz
  have hD := hD0.self (sz := s.heap.size)
  generalize hAe : va_A [(h0, .inr (7, [.null, .null, .null, .null, .null, .int 0, .int 0, .int 0]))] s.heap.size = A at hD ⊢
  have hA : ∀ q : Nat, s.heap.size ≤ q → A q := fun q h => by rw [← hAe]; exact Or.inr h
  have hS : va_S A s.heap s.heap [] := va_S.rf
  have hP : va_P g.1 classes [(h0, .inr (7, [.null, .null, .null, .null, .null, .int 0, .int 0, .int 0]))] s.heap := hP
  have hl := lv_entry ([.ref h0]) (n := 1) (Nat.le_of_ble_eq_true rfl)
  rw [lg_entry_eq]
  generalize (lg_sl ([.ref h0]) ++ List.replicate (1 - (lg_sl ([.ref h0])).length) Slot.unset).toArray = ls at hl ⊢
  have hl : lv_has ls 1 [(0, .ref h0)] := hl
  refine lv_aload_n hx hb d_Way_init_0 rfl (lv_at hl 0 rfl) ?_
  refine W.objInit hx hb hown (hts _ mi_Way_3) (hts _ ko_inst) (hts _ ko_code) rfl (by rw [hml]; exact hl.1) rfl d_Way_init_1 (Nat.le_of_ble_eq_true rfl) (Nat.le_of_ble_eq_true rfl) ?_
  refine W.eq (g2 := F0 m 4 ls []) rfl ?_
  refine lv_aload_n hx hb d_Way_init_4 rfl (lv_at hl 0 rfl) ?_
  refine lv_bipush (v := 6) hx hb d_Way_init_5 (by decide) ?_
  refine r_newa (N := 6) hx hb hts hW hP hD hS hA (by decide) (by decide) (by decide) (Nat.le_of_ble_eq_true rfl) (Nat.le_of_ble_eq_true rfl) d_Way_init_7 (fun q1 H hP hD hS => ?_)
  have hP : va_P g.1 classes [(h0, .inr (7, [.null, .null, .null, .null, .null, .int 0, .int 0, .int 0])), (q1, .inl (g.2.1, 6, .inl (fun _ => 0)))] H := hP
  have hD : va_D A [(h0, .inr (7, [.null, .null, .null, .null, .null, .int 0, .int 0, .int 0])), (q1, .inl (g.2.1, 6, .inl (fun _ => 0)))] := hD
  refine W.widen (k := 1) (n := 6) (Nat.le_of_ble_eq_true rfl) (Nat.le_of_ble_eq_true rfl) ?_
  refine va_putF (D := g.1) (cl := classes) (ci := 7) (v := .ref q1) (ty := .array .int) (C := N_Way) (T := T_Way) (N := 8) (tys := tysOf g) hx hb hts t_Way_in y_Way_t t_Way_ok t_Way_nm hown hW.1 hP hD hS 0 rfl rfl 0 (by decide) (hts _ fl_Way_9) (fun _ h9 => h9) rfl hin rfl (by decide +kernel) rfl rfl (Nat.le_of_ble_eq_true rfl) d_Way_init_9 (fun H locs hP hD hS => ?_)
  have hP : va_P g.1 classes [(h0, .inr (7, [.ref q1, .null, .null, .null, .null, .int 0, .int 0, .int 0])), (q1, .inl (g.2.1, 6, .inl (fun _ => 0)))] H := hP
  have hD : va_D A [(h0, .inr (7, [.ref q1, .null, .null, .null, .null, .int 0, .int 0, .int 0])), (q1, .inl (g.2.1, 6, .inl (fun _ => 0)))] := hD
  refine lv_aload_n hx hb d_Way_init_12 rfl (lv_at hl 0 rfl) ?_
  refine lv_bipush (v := 6) hx hb d_Way_init_13 (by decide) ?_
  refine r_newa (N := 6) hx hb hts hW hP hD hS hA (by decide) (by decide) (by decide) (Nat.le_of_ble_eq_true rfl) (Nat.le_of_ble_eq_true rfl) d_Way_init_15 (fun q2 H hP hD hS => ?_)
  have hP : va_P g.1 classes [(h0, .inr (7, [.ref q1, .null, .null, .null, .null, .int 0, .int 0, .int 0])), (q1, .inl (g.2.1, 6, .inl (fun _ => 0))), (q2, .inl (g.2.1, 6, .inl (fun _ => 0)))] H := hP
  have hD : va_D A [(h0, .inr (7, [.ref q1, .null, .null, .null, .null, .int 0, .int 0, .int 0])), (q1, .inl (g.2.1, 6, .inl (fun _ => 0))), (q2, .inl (g.2.1, 6, .inl (fun _ => 0)))] := hD
  refine W.widen (k := 2) (n := 12) (Nat.le_of_ble_eq_true rfl) (Nat.le_of_ble_eq_true rfl) ?_
  refine va_putF (D := g.1) (cl := classes) (ci := 7) (v := .ref q2) (ty := .array .int) (C := N_Way) (T := T_Way) (N := 8) (tys := tysOf g) hx hb hts t_Way_in y_Way_t t_Way_ok t_Way_nm hown hW.1 hP hD hS 0 rfl rfl 1 (by decide) (hts _ fl_Way_15) (fun _ h9 => h9) rfl hin rfl (by decide +kernel) rfl rfl (Nat.le_of_ble_eq_true rfl) d_Way_init_17 (fun H locs hP hD hS => ?_)
  have hP : va_P g.1 classes [(h0, .inr (7, [.ref q1, .ref q2, .null, .null, .null, .int 0, .int 0, .int 0])), (q1, .inl (g.2.1, 6, .inl (fun _ => 0))), (q2, .inl (g.2.1, 6, .inl (fun _ => 0)))] H := hP
  have hD : va_D A [(h0, .inr (7, [.ref q1, .ref q2, .null, .null, .null, .int 0, .int 0, .int 0])), (q1, .inl (g.2.1, 6, .inl (fun _ => 0))), (q2, .inl (g.2.1, 6, .inl (fun _ => 0)))] := hD
  refine lv_aload_n hx hb d_Way_init_20 rfl (lv_at hl 0 rfl) ?_
  refine lv_bipush (v := 6) hx hb d_Way_init_21 (by decide) ?_
  refine r_newa (N := 6) hx hb hts hW hP hD hS hA (by decide) (by decide) (by decide) (Nat.le_of_ble_eq_true rfl) (Nat.le_of_ble_eq_true rfl) d_Way_init_23 (fun q3 H hP hD hS => ?_)
  have hP : va_P g.1 classes [(h0, .inr (7, [.ref q1, .ref q2, .null, .null, .null, .int 0, .int 0, .int 0])), (q1, .inl (g.2.1, 6, .inl (fun _ => 0))), (q2, .inl (g.2.1, 6, .inl (fun _ => 0))), (q3, .inl (g.2.1, 6, .inl (fun _ => 0)))] H := hP
  have hD : va_D A [(h0, .inr (7, [.ref q1, .ref q2, .null, .null, .null, .int 0, .int 0, .int 0])), (q1, .inl (g.2.1, 6, .inl (fun _ => 0))), (q2, .inl (g.2.1, 6, .inl (fun _ => 0))), (q3, .inl (g.2.1, 6, .inl (fun _ => 0)))] := hD
  refine W.widen (k := 3) (n := 18) (Nat.le_of_ble_eq_true rfl) (Nat.le_of_ble_eq_true rfl) ?_
  refine va_putF (D := g.1) (cl := classes) (ci := 7) (v := .ref q3) (ty := .array .int) (C := N_Way) (T := T_Way) (N := 8) (tys := tysOf g) hx hb hts t_Way_in y_Way_t t_Way_ok t_Way_nm hown hW.1 hP hD hS 0 rfl rfl 2 (by decide) (hts _ fl_Way_18) (fun _ h9 => h9) rfl hin rfl (by decide +kernel) rfl rfl (Nat.le_of_ble_eq_true rfl) d_Way_init_25 (fun H locs hP hD hS => ?_)
  have hP : va_P g.1 classes [(h0, .inr (7, [.ref q1, .ref q2, .ref q3, .null, .null, .int 0, .int 0, .int 0])), (q1, .inl (g.2.1, 6, .inl (fun _ => 0))), (q2, .inl (g.2.1, 6, .inl (fun _ => 0))), (q3, .inl (g.2.1, 6, .inl (fun _ => 0)))] H := hP
  have hD : va_D A [(h0, .inr (7, [.ref q1, .ref q2, .ref q3, .null, .null, .int 0, .int 0, .int 0])), (q1, .inl (g.2.1, 6, .inl (fun _ => 0))), (q2, .inl (g.2.1, 6, .inl (fun _ => 0))), (q3, .inl (g.2.1, 6, .inl (fun _ => 0)))] := hD
  refine lv_aload_n hx hb d_Way_init_28 rfl (lv_at hl 0 rfl) ?_
  refine lv_bipush (v := 6) hx hb d_Way_init_29 (by decide) ?_
  refine r_newa (N := 6) hx hb hts hW hP hD hS hA (by decide) (by decide) (by decide) (Nat.le_of_ble_eq_true rfl) (Nat.le_of_ble_eq_true rfl) d_Way_init_31 (fun q4 H hP hD hS => ?_)
  have hP : va_P g.1 classes [(h0, .inr (7, [.ref q1, .ref q2, .ref q3, .null, .null, .int 0, .int 0, .int 0])), (q1, .inl (g.2.1, 6, .inl (fun _ => 0))), (q2, .inl (g.2.1, 6, .inl (fun _ => 0))), (q3, .inl (g.2.1, 6, .inl (fun _ => 0))), (q4, .inl (g.2.1, 6, .inl (fun _ => 0)))] H := hP
  have hD : va_D A [(h0, .inr (7, [.ref q1, .ref q2, .ref q3, .null, .null, .int 0, .int 0, .int 0])), (q1, .inl (g.2.1, 6, .inl (fun _ => 0))), (q2, .inl (g.2.1, 6, .inl (fun _ => 0))), (q3, .inl (g.2.1, 6, .inl (fun _ => 0))), (q4, .inl (g.2.1, 6, .inl (fun _ => 0)))] := hD
  refine W.widen (k := 4) (n := 24) (Nat.le_of_ble_eq_true rfl) (Nat.le_of_ble_eq_true rfl) ?_
  refine va_putF (D := g.1) (cl := classes) (ci := 7) (v := .ref q4) (ty := .array .int) (C := N_Way) (T := T_Way) (N := 8) (tys := tysOf g) hx hb hts t_Way_in y_Way_t t_Way_ok t_Way_nm hown hW.1 hP hD hS 0 rfl rfl 3 (by decide) (hts _ fl_Way_21) (fun _ h9 => h9) rfl hin rfl (by decide +kernel) rfl rfl (Nat.le_of_ble_eq_true rfl) d_Way_init_33 (fun H locs hP hD hS => ?_)
  have hP : va_P g.1 classes [(h0, .inr (7, [.ref q1, .ref q2, .ref q3, .ref q4, .null, .int 0, .int 0, .int 0])), (q1, .inl (g.2.1, 6, .inl (fun _ => 0))), (q2, .inl (g.2.1, 6, .inl (fun _ => 0))), (q3, .inl (g.2.1, 6, .inl (fun _ => 0))), (q4, .inl (g.2.1, 6, .inl (fun _ => 0)))] H := hP
  have hD : va_D A [(h0, .inr (7, [.ref q1, .ref q2, .ref q3, .ref q4, .null, .int 0, .int 0, .int 0])), (q1, .inl (g.2.1, 6, .inl (fun _ => 0))), (q2, .inl (g.2.1, 6, .inl (fun _ => 0))), (q3, .inl (g.2.1, 6, .inl (fun _ => 0))), (q4, .inl (g.2.1, 6, .inl (fun _ => 0)))] := hD
  refine lv_aload_n hx hb d_Way_init_36 rfl (lv_at hl 0 rfl) ?_
  refine lv_iconst (v := 5) hx hb d_Way_init_37 (by decide) ?_
  refine r_newa (N := 5) hx hb hts hW hP hD hS hA (by decide) (by decide) (by decide) (Nat.le_of_ble_eq_true rfl) (Nat.le_of_ble_eq_true rfl) d_Way_init_38 (fun q5 H hP hD hS => ?_)
  have hP : va_P g.1 classes [(h0, .inr (7, [.ref q1, .ref q2, .ref q3, .ref q4, .null, .int 0, .int 0, .int 0])), (q1, .inl (g.2.1, 6, .inl (fun _ => 0))), (q2, .inl (g.2.1, 6, .inl (fun _ => 0))), (q3, .inl (g.2.1, 6, .inl (fun _ => 0))), (q4, .inl (g.2.1, 6, .inl (fun _ => 0))), (q5, .inl (g.2.1, 5, .inl (fun _ => 0)))] H := hP
  have hD : va_D A [(h0, .inr (7, [.ref q1, .ref q2, .ref q3, .ref q4, .null, .int 0, .int 0, .int 0])), (q1, .inl (g.2.1, 6, .inl (fun _ => 0))), (q2, .inl (g.2.1, 6, .inl (fun _ => 0))), (q3, .inl (g.2.1, 6, .inl (fun _ => 0))), (q4, .inl (g.2.1, 6, .inl (fun _ => 0))), (q5, .inl (g.2.1, 5, .inl (fun _ => 0)))] := hD
  refine W.widen (k := 5) (n := 29) (Nat.le_of_ble_eq_true rfl) (Nat.le_of_ble_eq_true rfl) ?_
  refine va_putF (D := g.1) (cl := classes) (ci := 7) (v := .ref q5) (ty := .array .int) (C := N_Way) (T := T_Way) (N := 8) (tys := tysOf g) hx hb hts t_Way_in y_Way_t t_Way_ok t_Way_nm hown hW.1 hP hD hS 0 rfl rfl 4 (by decide) (hts _ fl_Way_24) (fun _ h9 => h9) rfl hin rfl (by decide +kernel) rfl rfl (Nat.le_of_ble_eq_true rfl) d_Way_init_40 (fun H locs hP hD hS => ?_)
  have hP : va_P g.1 classes [(h0, .inr (7, [.ref q1, .ref q2, .ref q3, .ref q4, .ref q5, .int 0, .int 0, .int 0])), (q1, .inl (g.2.1, 6, .inl (fun _ => 0))), (q2, .inl (g.2.1, 6, .inl (fun _ => 0))), (q3, .inl (g.2.1, 6, .inl (fun _ => 0))), (q4, .inl (g.2.1, 6, .inl (fun _ => 0))), (q5, .inl (g.2.1, 5, .inl (fun _ => 0)))] H := hP
  have hD : va_D A [(h0, .inr (7, [.ref q1, .ref q2, .ref q3, .ref q4, .ref q5, .int 0, .int 0, .int 0])), (q1, .inl (g.2.1, 6, .inl (fun _ => 0))), (q2, .inl (g.2.1, 6, .inl (fun _ => 0))), (q3, .inl (g.2.1, 6, .inl (fun _ => 0))), (q4, .inl (g.2.1, 6, .inl (fun _ => 0))), (q5, .inl (g.2.1, 5, .inl (fun _ => 0)))] := hD
  refine lv_aload_n hx hb d_Way_init_43 rfl (lv_at hl 0 rfl) ?_
  refine lv_iconst (v := 0) hx hb d_Way_init_44 (by decide) ?_
  refine va_put (D := g.1) (cl := classes) (ci := 7) (v := .int (0)) (ty := .int) (C := N_Way) (T := T_Way) (N := 8) (tys := tysOf g) hx hb hts t_Way_in y_Way_t t_Way_ok t_Way_nm hown hW.1 hP hD hS 0 rfl rfl 5 (by decide) (hts _ fl_Way_27) (fun _ h9 => h9) rfl (by decide +kernel) rfl rfl (Nat.le_of_ble_eq_true rfl) d_Way_init_45 (fun H locs hP hD hS => ?_)
  have hP : va_P g.1 classes [(h0, .inr (7, [.ref q1, .ref q2, .ref q3, .ref q4, .ref q5, .int (0), .int 0, .int 0])), (q1, .inl (g.2.1, 6, .inl (fun _ => 0))), (q2, .inl (g.2.1, 6, .inl (fun _ => 0))), (q3, .inl (g.2.1, 6, .inl (fun _ => 0))), (q4, .inl (g.2.1, 6, .inl (fun _ => 0))), (q5, .inl (g.2.1, 5, .inl (fun _ => 0)))] H := hP
  have hD : va_D A [(h0, .inr (7, [.ref q1, .ref q2, .ref q3, .ref q4, .ref q5, .int (0), .int 0, .int 0])), (q1, .inl (g.2.1, 6, .inl (fun _ => 0))), (q2, .inl (g.2.1, 6, .inl (fun _ => 0))), (q3, .inl (g.2.1, 6, .inl (fun _ => 0))), (q4, .inl (g.2.1, 6, .inl (fun _ => 0))), (q5, .inl (g.2.1, 5, .inl (fun _ => 0)))] := hD
  refine lv_aload_n hx hb d_Way_init_48 rfl (lv_at hl 0 rfl) ?_
  refine lv_iconst (v := 0) hx hb d_Way_init_49 (by decide) ?_
  refine va_put (D := g.1) (cl := classes) (ci := 7) (v := .int (0)) (ty := .int) (C := N_Way) (T := T_Way) (N := 8) (tys := tysOf g) hx hb hts t_Way_in y_Way_t t_Way_ok t_Way_nm hown hW.1 hP hD hS 0 rfl rfl 6 (by decide) (hts _ fl_Way_31) (fun _ h9 => h9) rfl (by decide +kernel) rfl rfl (Nat.le_of_ble_eq_true rfl) d_Way_init_50 (fun H locs hP hD hS => ?_)
  have hP : va_P g.1 classes [(h0, .inr (7, [.ref q1, .ref q2, .ref q3, .ref q4, .ref q5, .int (0), .int (0), .int 0])), (q1, .inl (g.2.1, 6, .inl (fun _ => 0))), (q2, .inl (g.2.1, 6, .inl (fun _ => 0))), (q3, .inl (g.2.1, 6, .inl (fun _ => 0))), (q4, .inl (g.2.1, 6, .inl (fun _ => 0))), (q5, .inl (g.2.1, 5, .inl (fun _ => 0)))] H := hP
  have hD : va_D A [(h0, .inr (7, [.ref q1, .ref q2, .ref q3, .ref q4, .ref q5, .int (0), .int (0), .int 0])), (q1, .inl (g.2.1, 6, .inl (fun _ => 0))), (q2, .inl (g.2.1, 6, .inl (fun _ => 0))), (q3, .inl (g.2.1, 6, .inl (fun _ => 0))), (q4, .inl (g.2.1, 6, .inl (fun _ => 0))), (q5, .inl (g.2.1, 5, .inl (fun _ => 0)))] := hD
  refine lv_aload_n hx hb d_Way_init_53 rfl (lv_at hl 0 rfl) ?_
  refine lv_bipush (v := 6) hx hb d_Way_init_54 (by decide) ?_
  refine va_put (D := g.1) (cl := classes) (ci := 7) (v := .int (6)) (ty := .int) (C := N_Way) (T := T_Way) (N := 8) (tys := tysOf g) hx hb hts t_Way_in y_Way_t t_Way_ok t_Way_nm hown hW.1 hP hD hS 0 rfl rfl 7 (by decide) (hts _ fl_Way_34) (fun _ h9 => h9) rfl (by decide +kernel) rfl rfl (Nat.le_of_ble_eq_true rfl) d_Way_init_56 (fun H locs hP hD hS => ?_)
  have hP : va_P g.1 classes [(h0, .inr (7, [.ref q1, .ref q2, .ref q3, .ref q4, .ref q5, .int (0), .int (0), .int (6)])), (q1, .inl (g.2.1, 6, .inl (fun _ => 0))), (q2, .inl (g.2.1, 6, .inl (fun _ => 0))), (q3, .inl (g.2.1, 6, .inl (fun _ => 0))), (q4, .inl (g.2.1, 6, .inl (fun _ => 0))), (q5, .inl (g.2.1, 5, .inl (fun _ => 0)))] H := hP
  have hD : va_D A [(h0, .inr (7, [.ref q1, .ref q2, .ref q3, .ref q4, .ref q5, .int (0), .int (0), .int (6)])), (q1, .inl (g.2.1, 6, .inl (fun _ => 0))), (q2, .inl (g.2.1, 6, .inl (fun _ => 0))), (q3, .inl (g.2.1, 6, .inl (fun _ => 0))), (q4, .inl (g.2.1, 6, .inl (fun _ => 0))), (q5, .inl (g.2.1, 5, .inl (fun _ => 0)))] := hD
  refine W.widen (k := 5) (n := 29) (Nat.le_of_ble_eq_true rfl) (Nat.le_of_ble_eq_true rfl) ?_
  exact W.vret hx hb hr (fun t ht hWm => ⟨⟨(), rfl, trivial, q1, q2, q3, q4, q5, by rw [ht]; exact hP, hD⟩, hS.F ht⟩) hS.2.2 d_Way_init_59
abbrev b_Walk_init : ByteArray := prog_8_method_1_code
def y_Walk_init : MethodName := ⟨N_Walk, "<init>", "(LTrickHouses$Way;)V"⟩
theorem d_Walk_init_0 : decode b_Walk_init 0 = .ok (.aload_n 0, 1) := by decide +kernel
theorem d_Walk_init_1 : decode b_Walk_init 1 = .ok (.invokespecial 3, 3) := by decide +kernel
theorem d_Walk_init_4 : decode b_Walk_init 4 = .ok (.aload_n 0, 1) := by decide +kernel
theorem d_Walk_init_5 : decode b_Walk_init 5 = .ok (.aload_n 1, 1) := by decide +kernel
theorem d_Walk_init_6 : decode b_Walk_init 6 = .ok (.putfield 9, 3) := by decide +kernel
theorem d_Walk_init_9 : decode b_Walk_init 9 = .ok (.aload_n 0, 1) := by decide +kernel
theorem d_Walk_init_10 : decode b_Walk_init 10 = .ok (.bipush 6, 2) := by decide +kernel
theorem d_Walk_init_12 : decode b_Walk_init 12 = .ok (.newarray .int, 2) := by decide +kernel
theorem d_Walk_init_14 : decode b_Walk_init 14 = .ok (.putfield 15, 3) := by decide +kernel
theorem d_Walk_init_17 : decode b_Walk_init 17 = .ok (.aload_n 0, 1) := by decide +kernel
theorem d_Walk_init_18 : decode b_Walk_init 18 = .ok (.iconst 5, 1) := by decide +kernel
theorem d_Walk_init_19 : decode b_Walk_init 19 = .ok (.newarray .int, 2) := by decide +kernel
theorem d_Walk_init_21 : decode b_Walk_init 21 = .ok (.putfield 19, 3) := by decide +kernel
theorem d_Walk_init_24 : decode b_Walk_init 24 = .ok (.aload_n 0, 1) := by decide +kernel
theorem d_Walk_init_25 : decode b_Walk_init 25 = .ok (.iconst 0, 1) := by decide +kernel
theorem d_Walk_init_26 : decode b_Walk_init 26 = .ok (.putfield 22, 3) := by decide +kernel
theorem d_Walk_init_29 : decode b_Walk_init 29 = .ok (.aload_n 0, 1) := by decide +kernel
theorem d_Walk_init_30 : decode b_Walk_init 30 = .ok (.iconst 0, 1) := by decide +kernel
theorem d_Walk_init_31 : decode b_Walk_init 31 = .ok (.putfield 26, 3) := by decide +kernel
theorem d_Walk_init_34 : decode b_Walk_init 34 = .ok (.aload_n 0, 1) := by decide +kernel
theorem d_Walk_init_35 : decode b_Walk_init 35 = .ok (.bipush (-9), 2) := by decide +kernel
theorem d_Walk_init_37 : decode b_Walk_init 37 = .ok (.putfield 29, 3) := by decide +kernel
theorem d_Walk_init_40 : decode b_Walk_init 40 = .ok (.return_, 1) := by decide +kernel
theorem kc_Walk_init : Cond.code y_Walk_init b_Walk_init 2 none ∈ TG := TG_m 173 (by decide +kernel) (by decide +kernel)
theorem ki_Walk_init : Cond.instanceMethod y_Walk_init ∈ TG := TG_m 172 (by decide +kernel) (by decide +kernel)
theorem kn_Walk : Cond.initialized N_Walk ∈ TG := TG_m 58 (by decide +kernel) (by decide +kernel)
theorem mi_Walk_3 : Cond.methodLink N_Walk 3 objectInit ∈ TG := TG_m 174 (by decide +kernel) (by decide +kernel)
set_option maxHeartbeats 4000000 in
set_option maxRecDepth 100000 in
theorem c_Walk_init (l : Launch) (g : GG) (h0 sz w1 : Nat) : Met l y_Walk_init (wm y_Walk_init b_Walk_init 2 none) { frames := 1, cells := 2, slots := 11, locals := 20 } (va_Pc [.ref h0, .ref w1] (fun U => U.heap.size = sz ∧ va_P g.1 classes [(h0, .inr (6, [.null, .null, .null, .int 0, .int 0, .int 0]))] U.heap ∧ WK g U ∧ va_D (fun _ => True) [(h0, .inr (6, [.null, .null, .null, .int 0, .int 0, .int 0]))])) (va_Qv (fun _ : Unit => True) (fun _ t => ∃ q1, ∃ q2, va_P g.1 classes [(h0, .inr (6, [.ref w1, .ref q1, .ref q2, .int (0), .int (0), .int (-9)])), (q1, .inl (g.2.1, 6, .inl (fun _ => 0))), (q2, .inl (g.2.1, 5, .inl (fun _ => 0)))] t.heap ∧ va_D (va_A [(h0, .inr (6, [.null, .null, .null, .int 0, .int 0, .int 0]))] sz) [(h0, .inr (6, [.ref w1, .ref q1, .ref q2, .int (0), .int (0), .int (-9)])), (q1, .inl (g.2.1, 6, .inl (fun _ => 0))), (q2, .inl (g.2.1, 5, .inl (fun _ => 0)))]) (va_A [(h0, .inr (6, [.null, .null, .null, .int 0, .int 0, .int 0]))] sz)) 2 11 (va_A [(h0, .inr (6, [.null, .null, .null, .int 0, .int 0, .int 0]))] sz) := by
  refine Met.ofW (cc := b_Walk_init) (maxL := 2) (ret := none) (by decide) rfl ?_
  intro p e s m args below meth c s₁ B hml hv
  obtain ⟨rfl, hsz, hP, hW, hD0⟩ := hv
  have hx := B.exec
  have hb := B.bytes
  have hr := B.returns
  have hts : ∀ w ∈ TG, w.before _ s = true := fun w hw => atoms_spec (ws := wm y_Walk_init b_Walk_init 2 none) B.pre w (List.mem_cons_of_mem _ hw)
  have hown : s.vm.findClass N_Walk = some m.cls := findClass_of_methodNamed B.named
  have hlocks := B.notSynchronized
  have hin : meth.name = "<init>" := (name_of_methodNamed B.named B.method).1
  subst hsz
  have hD := hD0.self (sz := s.heap.size)
  generalize hAe : va_A [(h0, .inr (6, [.null, .null, .null, .int 0, .int 0, .int 0]))] s.heap.size = A at hD ⊢
  have hA : ∀ q : Nat, s.heap.size ≤ q → A q := fun q h => by rw [← hAe]; exact Or.inr h
  have hS : va_S A s.heap s.heap [] := va_S.rf
  have hP : va_P g.1 classes [(h0, .inr (6, [.null, .null, .null, .int 0, .int 0, .int 0]))] s.heap := hP
  have hl := lv_entry ([.ref h0, .ref w1]) (n := 2) (Nat.le_of_ble_eq_true rfl)
  rw [lg_entry_eq]
  generalize (lg_sl ([.ref h0, .ref w1]) ++ List.replicate (2 - (lg_sl ([.ref h0, .ref w1])).length) Slot.unset).toArray = ls at hl ⊢
  have hl : lv_has ls 2 [(0, .ref h0), (1, .ref w1)] := hl
  refine lv_aload_n hx hb d_Walk_init_0 rfl (lv_at hl 0 rfl) ?_
  refine W.objInit hx hb hown (hts _ mi_Walk_3) (hts _ ko_inst) (hts _ ko_code) rfl (by rw [hml]; exact hl.1) rfl d_Walk_init_1 (Nat.le_of_ble_eq_true rfl) (Nat.le_of_ble_eq_true rfl) ?_
  refine W.eq (g2 := F0 m 4 ls []) rfl ?_
  refine lv_aload_n hx hb d_Walk_init_4 rfl (lv_at hl 0 rfl) ?_
  refine lv_aload_n hx hb d_Walk_init_5 rfl (lv_at hl 1 rfl) ?_
  refine va_putF (D := g.1) (cl := classes) (ci := 6) (v := .ref w1) (ty := .object "TrickHouses$Way") (C := N_Walk) (T := T_Walk) (N := 6) (tys := tysOf g) hx hb hts t_Walk_in y_Walk_t t_Walk_ok t_Walk_nm hown hW.1 hP hD hS 0 rfl rfl 0 (by decide) (hts _ fl_Walk_9) (fun _ h9 => h9) rfl hin rfl (by decide +kernel) rfl rfl (Nat.le_of_ble_eq_true rfl) d_Walk_init_6 (fun H locs hP hD hS => ?_)
  have hP : va_P g.1 classes [(h0, .inr (6, [.ref w1, .null, .null, .int 0, .int 0, .int 0]))] H := hP
  have hD : va_D A [(h0, .inr (6, [.ref w1, .null, .null, .int 0, .int 0, .int 0]))] := hD
  refine lv_aload_n hx hb d_Walk_init_9 rfl (lv_at hl 0 rfl) ?_
  refine lv_bipush (v := 6) hx hb d_Walk_init_10 (by decide) ?_
  refine r_newa (N := 6) hx hb hts hW hP hD hS hA (by decide) (by decide) (by decide) (Nat.le_of_ble_eq_true rfl) (Nat.le_of_ble_eq_true rfl) d_Walk_init_12 (fun q1 H hP hD hS => ?_)
  have hP : va_P g.1 classes [(h0, .inr (6, [.ref w1, .null, .null, .int 0, .int 0, .int 0])), (q1, .inl (g.2.1, 6, .inl (fun _ => 0)))] H := hP
  have hD : va_D A [(h0, .inr (6, [.ref w1, .null, .null, .int 0, .int 0, .int 0])), (q1, .inl (g.2.1, 6, .inl (fun _ => 0)))] := hD
  refine W.widen (k := 1) (n := 6) (Nat.le_of_ble_eq_true rfl) (Nat.le_of_ble_eq_true rfl) ?_
  refine va_putF (D := g.1) (cl := classes) (ci := 6) (v := .ref q1) (ty := .array .int) (C := N_Walk) (T := T_Walk) (N := 6) (tys := tysOf g) hx hb hts t_Walk_in y_Walk_t t_Walk_ok t_Walk_nm hown hW.1 hP hD hS 0 rfl rfl 1 (by decide) (hts _ fl_Walk_15) (fun _ h9 => h9) rfl hin rfl (by decide +kernel) rfl rfl (Nat.le_of_ble_eq_true rfl) d_Walk_init_14 (fun H locs hP hD hS => ?_)
  have hP : va_P g.1 classes [(h0, .inr (6, [.ref w1, .ref q1, .null, .int 0, .int 0, .int 0])), (q1, .inl (g.2.1, 6, .inl (fun _ => 0)))] H := hP
  have hD : va_D A [(h0, .inr (6, [.ref w1, .ref q1, .null, .int 0, .int 0, .int 0])), (q1, .inl (g.2.1, 6, .inl (fun _ => 0)))] := hD
  refine lv_aload_n hx hb d_Walk_init_17 rfl (lv_at hl 0 rfl) ?_
  refine lv_iconst (v := 5) hx hb d_Walk_init_18 (by decide) ?_
  refine r_newa (N := 5) hx hb hts hW hP hD hS hA (by decide) (by decide) (by decide) (Nat.le_of_ble_eq_true rfl) (Nat.le_of_ble_eq_true rfl) d_Walk_init_19 (fun q2 H hP hD hS => ?_)
  have hP : va_P g.1 classes [(h0, .inr (6, [.ref w1, .ref q1, .null, .int 0, .int 0, .int 0])), (q1, .inl (g.2.1, 6, .inl (fun _ => 0))), (q2, .inl (g.2.1, 5, .inl (fun _ => 0)))] H := hP
  have hD : va_D A [(h0, .inr (6, [.ref w1, .ref q1, .null, .int 0, .int 0, .int 0])), (q1, .inl (g.2.1, 6, .inl (fun _ => 0))), (q2, .inl (g.2.1, 5, .inl (fun _ => 0)))] := hD
  refine W.widen (k := 2) (n := 11) (Nat.le_of_ble_eq_true rfl) (Nat.le_of_ble_eq_true rfl) ?_
  refine va_putF (D := g.1) (cl := classes) (ci := 6) (v := .ref q2) (ty := .array .int) (C := N_Walk) (T := T_Walk) (N := 6) (tys := tysOf g) hx hb hts t_Walk_in y_Walk_t t_Walk_ok t_Walk_nm hown hW.1 hP hD hS 0 rfl rfl 2 (by decide) (hts _ fl_Walk_19) (fun _ h9 => h9) rfl hin rfl (by decide +kernel) rfl rfl (Nat.le_of_ble_eq_true rfl) d_Walk_init_21 (fun H locs hP hD hS => ?_)
  have hP : va_P g.1 classes [(h0, .inr (6, [.ref w1, .ref q1, .ref q2, .int 0, .int 0, .int 0])), (q1, .inl (g.2.1, 6, .inl (fun _ => 0))), (q2, .inl (g.2.1, 5, .inl (fun _ => 0)))] H := hP
  have hD : va_D A [(h0, .inr (6, [.ref w1, .ref q1, .ref q2, .int 0, .int 0, .int 0])), (q1, .inl (g.2.1, 6, .inl (fun _ => 0))), (q2, .inl (g.2.1, 5, .inl (fun _ => 0)))] := hD
  refine lv_aload_n hx hb d_Walk_init_24 rfl (lv_at hl 0 rfl) ?_
  refine lv_iconst (v := 0) hx hb d_Walk_init_25 (by decide) ?_
  refine va_put (D := g.1) (cl := classes) (ci := 6) (v := .int (0)) (ty := .int) (C := N_Walk) (T := T_Walk) (N := 6) (tys := tysOf g) hx hb hts t_Walk_in y_Walk_t t_Walk_ok t_Walk_nm hown hW.1 hP hD hS 0 rfl rfl 3 (by decide) (hts _ fl_Walk_22) (fun _ h9 => h9) rfl (by decide +kernel) rfl rfl (Nat.le_of_ble_eq_true rfl) d_Walk_init_26 (fun H locs hP hD hS => ?_)
  have hP : va_P g.1 classes [(h0, .inr (6, [.ref w1, .ref q1, .ref q2, .int (0), .int 0, .int 0])), (q1, .inl (g.2.1, 6, .inl (fun _ => 0))), (q2, .inl (g.2.1, 5, .inl (fun _ => 0)))] H := hP
  have hD : va_D A [(h0, .inr (6, [.ref w1, .ref q1, .ref q2, .int (0), .int 0, .int 0])), (q1, .inl (g.2.1, 6, .inl (fun _ => 0))), (q2, .inl (g.2.1, 5, .inl (fun _ => 0)))] := hD
  refine lv_aload_n hx hb d_Walk_init_29 rfl (lv_at hl 0 rfl) ?_
  refine lv_iconst (v := 0) hx hb d_Walk_init_30 (by decide) ?_
  refine va_put (D := g.1) (cl := classes) (ci := 6) (v := .int (0)) (ty := .int) (C := N_Walk) (T := T_Walk) (N := 6) (tys := tysOf g) hx hb hts t_Walk_in y_Walk_t t_Walk_ok t_Walk_nm hown hW.1 hP hD hS 0 rfl rfl 4 (by decide) (hts _ fl_Walk_26) (fun _ h9 => h9) rfl (by decide +kernel) rfl rfl (Nat.le_of_ble_eq_true rfl) d_Walk_init_31 (fun H locs hP hD hS => ?_)
  have hP : va_P g.1 classes [(h0, .inr (6, [.ref w1, .ref q1, .ref q2, .int (0), .int (0), .int 0])), (q1, .inl (g.2.1, 6, .inl (fun _ => 0))), (q2, .inl (g.2.1, 5, .inl (fun _ => 0)))] H := hP
  have hD : va_D A [(h0, .inr (6, [.ref w1, .ref q1, .ref q2, .int (0), .int (0), .int 0])), (q1, .inl (g.2.1, 6, .inl (fun _ => 0))), (q2, .inl (g.2.1, 5, .inl (fun _ => 0)))] := hD
  refine lv_aload_n hx hb d_Walk_init_34 rfl (lv_at hl 0 rfl) ?_
  refine lv_bipush (v := -9) hx hb d_Walk_init_35 (by decide) ?_
  refine va_put (D := g.1) (cl := classes) (ci := 6) (v := .int (-9)) (ty := .int) (C := N_Walk) (T := T_Walk) (N := 6) (tys := tysOf g) hx hb hts t_Walk_in y_Walk_t t_Walk_ok t_Walk_nm hown hW.1 hP hD hS 0 rfl rfl 5 (by decide) (hts _ fl_Walk_29) (fun _ h9 => h9) rfl (by decide +kernel) rfl rfl (Nat.le_of_ble_eq_true rfl) d_Walk_init_37 (fun H locs hP hD hS => ?_)
  have hP : va_P g.1 classes [(h0, .inr (6, [.ref w1, .ref q1, .ref q2, .int (0), .int (0), .int (-9)])), (q1, .inl (g.2.1, 6, .inl (fun _ => 0))), (q2, .inl (g.2.1, 5, .inl (fun _ => 0)))] H := hP
  have hD : va_D A [(h0, .inr (6, [.ref w1, .ref q1, .ref q2, .int (0), .int (0), .int (-9)])), (q1, .inl (g.2.1, 6, .inl (fun _ => 0))), (q2, .inl (g.2.1, 5, .inl (fun _ => 0)))] := hD
  refine W.widen (k := 2) (n := 11) (Nat.le_of_ble_eq_true rfl) (Nat.le_of_ble_eq_true rfl) ?_
  exact W.vret hx hb hr (fun t ht hWm => ⟨⟨(), rfl, trivial, q1, q2, by rw [ht]; exact hP, hD⟩, hS.F ht⟩) hS.2.2 d_Walk_init_40
abbrev b_Orders_init : ByteArray := prog_2_method_1_code
def y_Orders_init : MethodName := ⟨N_Orders, "<init>", "()V"⟩
theorem d_Orders_init_0 : decode b_Orders_init 0 = .ok (.aload_n 0, 1) := by decide +kernel
theorem d_Orders_init_1 : decode b_Orders_init 1 = .ok (.invokespecial 3, 3) := by decide +kernel
theorem d_Orders_init_4 : decode b_Orders_init 4 = .ok (.aload_n 0, 1) := by decide +kernel
theorem d_Orders_init_5 : decode b_Orders_init 5 = .ok (.iconst 5, 1) := by decide +kernel
theorem d_Orders_init_6 : decode b_Orders_init 6 = .ok (.newarray .int, 2) := by decide +kernel
theorem d_Orders_init_8 : decode b_Orders_init 8 = .ok (.putfield 9, 3) := by decide +kernel
theorem d_Orders_init_11 : decode b_Orders_init 11 = .ok (.aload_n 0, 1) := by decide +kernel
theorem d_Orders_init_12 : decode b_Orders_init 12 = .ok (.iconst 0, 1) := by decide +kernel
theorem d_Orders_init_13 : decode b_Orders_init 13 = .ok (.putfield 15, 3) := by decide +kernel
theorem d_Orders_init_16 : decode b_Orders_init 16 = .ok (.return_, 1) := by decide +kernel
theorem kc_Orders_init : Cond.code y_Orders_init b_Orders_init 1 none ∈ TG := TG_m 211 (by decide +kernel) (by decide +kernel)
theorem ki_Orders_init : Cond.instanceMethod y_Orders_init ∈ TG := TG_m 210 (by decide +kernel) (by decide +kernel)
theorem kn_Orders : Cond.initialized N_Orders ∈ TG := TG_m 60 (by decide +kernel) (by decide +kernel)
theorem mi_Orders_3 : Cond.methodLink N_Orders 3 objectInit ∈ TG := TG_m 212 (by decide +kernel) (by decide +kernel)
set_option maxHeartbeats 4000000 in
set_option maxRecDepth 100000 in
theorem c_Orders_init (l : Launch) (g : GG) (h0 sz : Nat) : Met l y_Orders_init (wm y_Orders_init b_Orders_init 1 none) { frames := 1, cells := 1, slots := 5, locals := 20 } (va_Pc [.ref h0] (fun U => U.heap.size = sz ∧ va_P g.1 classes [(h0, .inr (0, [.null, .int 0]))] U.heap ∧ WK g U ∧ va_D (fun _ => True) [(h0, .inr (0, [.null, .int 0]))])) (va_Qv (fun _ : Unit => True) (fun _ t => ∃ q1, va_P g.1 classes [(h0, .inr (0, [.ref q1, .int (0)])), (q1, .inl (g.2.1, 5, .inl (fun _ => 0)))] t.heap ∧ va_D (va_A [(h0, .inr (0, [.null, .int 0]))] sz) [(h0, .inr (0, [.ref q1, .int (0)])), (q1, .inl (g.2.1, 5, .inl (fun _ => 0)))]) (va_A [(h0, .inr (0, [.null, .int 0]))] sz)) 1 5 (va_A [(h0, .inr (0, [.null, .int 0]))] sz) := by
  refine Met.ofW (cc := b_Orders_init) (maxL := 1) (ret := none) (by decide) rfl ?_
  intro p e s m args below meth c s₁ B hml hv
  obtain ⟨rfl, hsz, hP, hW, hD0⟩ := hv
  have hx := B.exec
  have hb := B.bytes
  have hr := B.returns
  have hts : ∀ w ∈ TG, w.before _ s = true := fun w hw => atoms_spec (ws := wm y_Orders_init b_Orders_init 1 none) B.pre w (List.mem_cons_of_mem _ hw)
  have hown : s.vm.findClass N_Orders = some m.cls := findClass_of_methodNamed B.named
  have hlocks := B.notSynchronized
  have hin : meth.name = "<init>" := (name_of_methodNamed B.named B.method).1
  subst hsz
  have hD := hD0.self (sz := s.heap.size)
  generalize hAe : va_A [(h0, .inr (0, [.null, .int 0]))] s.heap.size = A at hD ⊢
  have hA : ∀ q : Nat, s.heap.size ≤ q → A q := fun q h => by rw [← hAe]; exact Or.inr h
  have hS : va_S A s.heap s.heap [] := va_S.rf
  have hP : va_P g.1 classes [(h0, .inr (0, [.null, .int 0]))] s.heap := hP
  have hl := lv_entry ([.ref h0]) (n := 1) (Nat.le_of_ble_eq_true rfl)
  rw [lg_entry_eq]
  generalize (lg_sl ([.ref h0]) ++ List.replicate (1 - (lg_sl ([.ref h0])).length) Slot.unset).toArray = ls at hl ⊢
  have hl : lv_has ls 1 [(0, .ref h0)] := hl
  refine lv_aload_n hx hb d_Orders_init_0 rfl (lv_at hl 0 rfl) ?_
  refine W.objInit hx hb hown (hts _ mi_Orders_3) (hts _ ko_inst) (hts _ ko_code) rfl (by rw [hml]; exact hl.1) rfl d_Orders_init_1 (Nat.le_of_ble_eq_true rfl) (Nat.le_of_ble_eq_true rfl) ?_
  refine W.eq (g2 := F0 m 4 ls []) rfl ?_
  refine lv_aload_n hx hb d_Orders_init_4 rfl (lv_at hl 0 rfl) ?_
  refine lv_iconst (v := 5) hx hb d_Orders_init_5 (by decide) ?_
  refine r_newa (N := 5) hx hb hts hW hP hD hS hA (by decide) (by decide) (by decide) (Nat.le_of_ble_eq_true rfl) (Nat.le_of_ble_eq_true rfl) d_Orders_init_6 (fun q1 H hP hD hS => ?_)
  have hP : va_P g.1 classes [(h0, .inr (0, [.null, .int 0])), (q1, .inl (g.2.1, 5, .inl (fun _ => 0)))] H := hP
  have hD : va_D A [(h0, .inr (0, [.null, .int 0])), (q1, .inl (g.2.1, 5, .inl (fun _ => 0)))] := hD
  refine W.widen (k := 1) (n := 5) (Nat.le_of_ble_eq_true rfl) (Nat.le_of_ble_eq_true rfl) ?_
  refine va_putF (D := g.1) (cl := classes) (ci := 0) (v := .ref q1) (ty := .array .int) (C := N_Orders) (T := T_Orders) (N := 2) (tys := tysOf g) hx hb hts t_Orders_in y_Orders_t t_Orders_ok t_Orders_nm hown hW.1 hP hD hS 0 rfl rfl 0 (by decide) (hts _ fl_Orders_9) (fun _ h9 => h9) rfl hin rfl (by decide +kernel) rfl rfl (Nat.le_of_ble_eq_true rfl) d_Orders_init_8 (fun H locs hP hD hS => ?_)
  have hP : va_P g.1 classes [(h0, .inr (0, [.ref q1, .int 0])), (q1, .inl (g.2.1, 5, .inl (fun _ => 0)))] H := hP
  have hD : va_D A [(h0, .inr (0, [.ref q1, .int 0])), (q1, .inl (g.2.1, 5, .inl (fun _ => 0)))] := hD
  refine lv_aload_n hx hb d_Orders_init_11 rfl (lv_at hl 0 rfl) ?_
  refine lv_iconst (v := 0) hx hb d_Orders_init_12 (by decide) ?_
  refine va_put (D := g.1) (cl := classes) (ci := 0) (v := .int (0)) (ty := .int) (C := N_Orders) (T := T_Orders) (N := 2) (tys := tysOf g) hx hb hts t_Orders_in y_Orders_t t_Orders_ok t_Orders_nm hown hW.1 hP hD hS 0 rfl rfl 1 (by decide) (hts _ fl_Orders_15) (fun _ h9 => h9) rfl (by decide +kernel) rfl rfl (Nat.le_of_ble_eq_true rfl) d_Orders_init_13 (fun H locs hP hD hS => ?_)
  have hP : va_P g.1 classes [(h0, .inr (0, [.ref q1, .int (0)])), (q1, .inl (g.2.1, 5, .inl (fun _ => 0)))] H := hP
  have hD : va_D A [(h0, .inr (0, [.ref q1, .int (0)])), (q1, .inl (g.2.1, 5, .inl (fun _ => 0)))] := hD
  refine W.widen (k := 1) (n := 5) (Nat.le_of_ble_eq_true rfl) (Nat.le_of_ble_eq_true rfl) ?_
  exact W.vret hx hb hr (fun t ht hWm => ⟨⟨(), rfl, trivial, q1, by rw [ht]; exact hP, hD⟩, hS.F ht⟩) hS.2.2 d_Orders_init_16
abbrev b_Search_init : ByteArray := prog_4_method_1_code
def y_Search_init : MethodName := ⟨N_Search, "<init>", "(LTrickHouses$Way;LTrickHouses$Walk;)V"⟩
theorem d_Search_init_0 : decode b_Search_init 0 = .ok (.aload_n 0, 1) := by decide +kernel
theorem d_Search_init_1 : decode b_Search_init 1 = .ok (.invokespecial 3, 3) := by decide +kernel
theorem d_Search_init_4 : decode b_Search_init 4 = .ok (.aload_n 0, 1) := by decide +kernel
theorem d_Search_init_5 : decode b_Search_init 5 = .ok (.aload_n 1, 1) := by decide +kernel
theorem d_Search_init_6 : decode b_Search_init 6 = .ok (.putfield 9, 3) := by decide +kernel
theorem d_Search_init_9 : decode b_Search_init 9 = .ok (.aload_n 0, 1) := by decide +kernel
theorem d_Search_init_10 : decode b_Search_init 10 = .ok (.aload_n 2, 1) := by decide +kernel
theorem d_Search_init_11 : decode b_Search_init 11 = .ok (.putfield 15, 3) := by decide +kernel
theorem d_Search_init_14 : decode b_Search_init 14 = .ok (.aload_n 0, 1) := by decide +kernel
theorem d_Search_init_15 : decode b_Search_init 15 = .ok (.new 19, 3) := by decide +kernel
theorem d_Search_init_18 : decode b_Search_init 18 = .ok (.dup, 1) := by decide +kernel
theorem d_Search_init_19 : decode b_Search_init 19 = .ok (.invokespecial 21, 3) := by decide +kernel
theorem d_Search_init_22 : decode b_Search_init 22 = .ok (.putfield 22, 3) := by decide +kernel
theorem d_Search_init_25 : decode b_Search_init 25 = .ok (.aload_n 0, 1) := by decide +kernel
theorem d_Search_init_26 : decode b_Search_init 26 = .ok (.iconst 5, 1) := by decide +kernel
theorem d_Search_init_27 : decode b_Search_init 27 = .ok (.newarray .int, 2) := by decide +kernel
theorem d_Search_init_29 : decode b_Search_init 29 = .ok (.putfield 26, 3) := by decide +kernel
theorem d_Search_init_32 : decode b_Search_init 32 = .ok (.aload_n 0, 1) := by decide +kernel
theorem d_Search_init_33 : decode b_Search_init 33 = .ok (.iconst 0, 1) := by decide +kernel
theorem d_Search_init_34 : decode b_Search_init 34 = .ok (.putfield 30, 3) := by decide +kernel
theorem d_Search_init_37 : decode b_Search_init 37 = .ok (.aload_n 0, 1) := by decide +kernel
theorem d_Search_init_38 : decode b_Search_init 38 = .ok (.iconst 0, 1) := by decide +kernel
theorem d_Search_init_39 : decode b_Search_init 39 = .ok (.putfield 34, 3) := by decide +kernel
theorem d_Search_init_42 : decode b_Search_init 42 = .ok (.aload_n 0, 1) := by decide +kernel
theorem d_Search_init_43 : decode b_Search_init 43 = .ok (.iconst 0, 1) := by decide +kernel
theorem d_Search_init_44 : decode b_Search_init 44 = .ok (.putfield 37, 3) := by decide +kernel
theorem d_Search_init_47 : decode b_Search_init 47 = .ok (.aload_n 0, 1) := by decide +kernel
theorem d_Search_init_48 : decode b_Search_init 48 = .ok (.iconst 0, 1) := by decide +kernel
theorem d_Search_init_49 : decode b_Search_init 49 = .ok (.putfield 40, 3) := by decide +kernel
theorem d_Search_init_52 : decode b_Search_init 52 = .ok (.return_, 1) := by decide +kernel
theorem kc_Search_init : Cond.code y_Search_init b_Search_init 3 none ∈ TG := TG_m 205 (by decide +kernel) (by decide +kernel)
theorem ki_Search_init : Cond.instanceMethod y_Search_init ∈ TG := TG_m 204 (by decide +kernel) (by decide +kernel)
theorem kn_Search : Cond.initialized N_Search ∈ TG := TG_m 59 (by decide +kernel) (by decide +kernel)
theorem mi_Search_3 : Cond.methodLink N_Search 3 objectInit ∈ TG := TG_m 206 (by decide +kernel) (by decide +kernel)
theorem kl_Search_19 : Cond.classLink N_Search 19 N_Orders ∈ TG := TG_m 207 (by decide +kernel) (by decide +kernel)
theorem mi_Search_21 : Cond.methodLink N_Search 21 y_Orders_init ∈ TG := TG_m 209 (by decide +kernel) (by decide +kernel)
set_option maxHeartbeats 4000000 in
set_option maxRecDepth 100000 in
theorem c_Search_init (l : Launch) (g : GG) (h0 sz w1 w2 : Nat) : Met l y_Search_init (wm y_Search_init b_Search_init 3 none) { frames := 2, cells := 3, slots := 12, locals := 40 } (va_Pc [.ref h0, .ref w1, .ref w2] (fun U => U.heap.size = sz ∧ va_P g.1 classes [(h0, .inr (2, [.null, .null, .null, .null, .int 0, .int 0, .int 0, .int 0]))] U.heap ∧ WK g U ∧ va_D (fun _ => True) [(h0, .inr (2, [.null, .null, .null, .null, .int 0, .int 0, .int 0, .int 0]))])) (va_Qv (fun _ : Unit => True) (fun _ t => ∃ q1, ∃ q2, ∃ q3, va_P g.1 classes [(h0, .inr (2, [.ref w1, .ref w2, .ref q1, .ref q3, .int (0), .int (0), .int (0), .int (0)])), (q1, .inr (0, [.ref q2, .int (0)])), (q2, .inl (g.2.1, 5, .inl (fun _ => 0))), (q3, .inl (g.2.1, 5, .inl (fun _ => 0)))] t.heap ∧ va_D (va_A [(h0, .inr (2, [.null, .null, .null, .null, .int 0, .int 0, .int 0, .int 0]))] sz) [(h0, .inr (2, [.ref w1, .ref w2, .ref q1, .ref q3, .int (0), .int (0), .int (0), .int (0)])), (q1, .inr (0, [.ref q2, .int (0)])), (q2, .inl (g.2.1, 5, .inl (fun _ => 0))), (q3, .inl (g.2.1, 5, .inl (fun _ => 0)))]) (va_A [(h0, .inr (2, [.null, .null, .null, .null, .int 0, .int 0, .int 0, .int 0]))] sz)) 3 12 (va_A [(h0, .inr (2, [.null, .null, .null, .null, .int 0, .int 0, .int 0, .int 0]))] sz) := by
  refine Met.ofW (cc := b_Search_init) (maxL := 3) (ret := none) (by decide) rfl ?_
  intro p e s m args below meth c s₁ B hml hv
  obtain ⟨rfl, hsz, hP, hW, hD0⟩ := hv
  have hx := B.exec
  have hb := B.bytes
  have hr := B.returns
  have hts : ∀ w ∈ TG, w.before _ s = true := fun w hw => atoms_spec (ws := wm y_Search_init b_Search_init 3 none) B.pre w (List.mem_cons_of_mem _ hw)
  have hown : s.vm.findClass N_Search = some m.cls := findClass_of_methodNamed B.named
  have hlocks := B.notSynchronized
  have hin : meth.name = "<init>" := (name_of_methodNamed B.named B.method).1
  subst hsz
  have hD := hD0.self (sz := s.heap.size)
  generalize hAe : va_A [(h0, .inr (2, [.null, .null, .null, .null, .int 0, .int 0, .int 0, .int 0]))] s.heap.size = A at hD ⊢
  have hA : ∀ q : Nat, s.heap.size ≤ q → A q := fun q h => by rw [← hAe]; exact Or.inr h
  have hS : va_S A s.heap s.heap [] := va_S.rf
  have hP : va_P g.1 classes [(h0, .inr (2, [.null, .null, .null, .null, .int 0, .int 0, .int 0, .int 0]))] s.heap := hP
  have hl := lv_entry ([.ref h0, .ref w1, .ref w2]) (n := 3) (Nat.le_of_ble_eq_true rfl)
  rw [lg_entry_eq]
  generalize (lg_sl ([.ref h0, .ref w1, .ref w2]) ++ List.replicate (3 - (lg_sl ([.ref h0, .ref w1, .ref w2])).length) Slot.unset).toArray = ls at hl ⊢
  have hl : lv_has ls 3 [(0, .ref h0), (1, .ref w1), (2, .ref w2)] := hl
  refine lv_aload_n hx hb d_Search_init_0 rfl (lv_at hl 0 rfl) ?_
  refine W.objInit hx hb hown (hts _ mi_Search_3) (hts _ ko_inst) (hts _ ko_code) rfl (by rw [hml]; exact hl.1) rfl d_Search_init_1 (Nat.le_of_ble_eq_true rfl) (Nat.le_of_ble_eq_true rfl) ?_
  refine W.eq (g2 := F0 m 4 ls []) rfl ?_
  refine lv_aload_n hx hb d_Search_init_4 rfl (lv_at hl 0 rfl) ?_
  refine lv_aload_n hx hb d_Search_init_5 rfl (lv_at hl 1 rfl) ?_
  refine va_putF (D := g.1) (cl := classes) (ci := 2) (v := .ref w1) (ty := .object "TrickHouses$Way") (C := N_Search) (T := T_Search) (N := 8) (tys := tysOf g) hx hb hts t_Search_in y_Search_t t_Search_ok t_Search_nm hown hW.1 hP hD hS 0 rfl rfl 0 (by decide) (hts _ fl_Search_9) (fun _ h9 => h9) rfl hin rfl (by decide +kernel) rfl rfl (Nat.le_of_ble_eq_true rfl) d_Search_init_6 (fun H locs hP hD hS => ?_)
  have hP : va_P g.1 classes [(h0, .inr (2, [.ref w1, .null, .null, .null, .int 0, .int 0, .int 0, .int 0]))] H := hP
  have hD : va_D A [(h0, .inr (2, [.ref w1, .null, .null, .null, .int 0, .int 0, .int 0, .int 0]))] := hD
  refine lv_aload_n hx hb d_Search_init_9 rfl (lv_at hl 0 rfl) ?_
  refine lv_aload_n hx hb d_Search_init_10 rfl (lv_at hl 2 rfl) ?_
  refine va_putF (D := g.1) (cl := classes) (ci := 2) (v := .ref w2) (ty := .object "TrickHouses$Walk") (C := N_Search) (T := T_Search) (N := 8) (tys := tysOf g) hx hb hts t_Search_in y_Search_t t_Search_ok t_Search_nm hown hW.1 hP hD hS 0 rfl rfl 1 (by decide) (hts _ fl_Search_15) (fun _ h9 => h9) rfl hin rfl (by decide +kernel) rfl rfl (Nat.le_of_ble_eq_true rfl) d_Search_init_11 (fun H locs hP hD hS => ?_)
  have hP : va_P g.1 classes [(h0, .inr (2, [.ref w1, .ref w2, .null, .null, .int 0, .int 0, .int 0, .int 0]))] H := hP
  have hD : va_D A [(h0, .inr (2, [.ref w1, .ref w2, .null, .null, .int 0, .int 0, .int 0, .int 0]))] := hD
  refine lv_aload_n hx hb d_Search_init_14 rfl (lv_at hl 0 rfl) ?_
  refine va_new (ci := 0) (fs := [.null, .int 0]) (C := N_Orders) (T := T_Orders) (N := 2) hx hb hts t_Orders_in y_Orders_t t_Orders_ok hown (hts _ kl_Search_19) (hts _ kin_Orders) (hts _ kn_Orders) hW.1 hP hD hS hA rfl (by decide +kernel) (Nat.le_of_ble_eq_true rfl) (Nat.le_of_ble_eq_true rfl) d_Search_init_15 (fun q1 H hP hD hS => ?_)
  have hP : va_P g.1 classes [(h0, .inr (2, [.ref w1, .ref w2, .null, .null, .int 0, .int 0, .int 0, .int 0])), (q1, .inr (0, [.null, .int 0]))] H := hP
  have hD : va_D A [(h0, .inr (2, [.ref w1, .ref w2, .null, .null, .int 0, .int 0, .int 0, .int 0])), (q1, .inr (0, [.null, .int 0]))] := hD
  refine W.widen (k := 1) (n := 2) (Nat.le_of_ble_eq_true rfl) (Nat.le_of_ble_eq_true rfl) ?_
  refine lv_dup hx hb d_Search_init_18 rfl ?_
  have hPc := hP.sub (ws' := [(q1, .inr (0, [.null, .int 0]))]) [1] rfl
  have hDc := hD.sub (ws' := [(q1, .inr (0, [.null, .int 0]))]) [1] (by decide) rfl
  have hFc := va_free (wc := [(q1, .inr (0, [.null, .int 0]))]) hD hS hA [1] rfl
  refine va_callv (va_runI (As := []) (rest := [.ref q1, .ref h0]) ⟨hx, hb, hml, hown, hts⟩ (c_Orders_init l g q1 H.size) (cwI 0 hts (TG_in (fun w hw => wm_in kc_Orders_init hw)) rfl rfl rfl (hts _ kn_Orders) (hts _ mi_Search_21) (hts _ ki_Orders_init) rfl (by decide +kernel) ⟨Nat.le_of_ble_eq_true rfl, Nat.le_of_ble_eq_true rfl⟩) ⟨PC_blind, fun U hU hWm => ⟨rfl, by rw [hU], by rw [hU]; exact hPc, hW.warm hWm, hDc.weaken (fun _ _ _ _ => trivial)⟩⟩ rfl rfl hl.1 rfl (lv_room (Nat.le_of_ble_eq_true rfl)) d_Search_init_19 ⟨Nat.le_of_ble_eq_true rfl, Nat.le_of_ble_eq_true rfl⟩) hS (fun q _ h => hFc q h) hFc (fun u t H1 locs ht hvm hw hB hz1 hk1 hS => ?_)
  obtain ⟨q2, hP1, hD1⟩ := hB
  rw [ht] at hP1
  obtain ⟨hP, hD⟩ := va_join (wr := [(h0, .inr (2, [.ref w1, .ref w2, .null, .null, .int 0, .int 0, .int 0, .int 0]))]) (w1 := [(q1, .inr (0, [.ref q2, .int (0)])), (q2, .inl (g.2.1, 5, .inl (fun _ => 0)))]) hP hD [1] [0] rfl rfl (by decide) (by decide) hk1 hFc hP1 hD1
  generalize H1 = H at hP hS ⊢
  have hP : va_P g.1 classes [(h0, .inr (2, [.ref w1, .ref w2, .null, .null, .int 0, .int 0, .int 0, .int 0])), (q1, .inr (0, [.ref q2, .int (0)])), (q2, .inl (g.2.1, 5, .inl (fun _ => 0)))] H := hP
  have hD : va_D A [(h0, .inr (2, [.ref w1, .ref w2, .null, .null, .int 0, .int 0, .int 0, .int 0])), (q1, .inr (0, [.ref q2, .int (0)])), (q2, .inl (g.2.1, 5, .inl (fun _ => 0)))] := hD
  refine W.widen (k := 2) (n := 7) (Nat.le_of_ble_eq_true rfl) (Nat.le_of_ble_eq_true rfl) ?_
  refine va_putF (D := g.1) (cl := classes) (ci := 2) (v := .ref q1) (ty := .object "TrickHouses$Orders") (C := N_Search) (T := T_Search) (N := 8) (tys := tysOf g) hx hb hts t_Search_in y_Search_t t_Search_ok t_Search_nm hown hW.1 hP hD hS 0 rfl rfl 2 (by decide) (hts _ fl_Search_22) (fun _ h9 => h9) rfl hin rfl (by decide +kernel) rfl rfl (Nat.le_of_ble_eq_true rfl) d_Search_init_22 (fun H locs hP hD hS => ?_)
  have hP : va_P g.1 classes [(h0, .inr (2, [.ref w1, .ref w2, .ref q1, .null, .int 0, .int 0, .int 0, .int 0])), (q1, .inr (0, [.ref q2, .int (0)])), (q2, .inl (g.2.1, 5, .inl (fun _ => 0)))] H := hP
  have hD : va_D A [(h0, .inr (2, [.ref w1, .ref w2, .ref q1, .null, .int 0, .int 0, .int 0, .int 0])), (q1, .inr (0, [.ref q2, .int (0)])), (q2, .inl (g.2.1, 5, .inl (fun _ => 0)))] := hD
  refine lv_aload_n hx hb d_Search_init_25 rfl (lv_at hl 0 rfl) ?_
  refine lv_iconst (v := 5) hx hb d_Search_init_26 (by decide) ?_
  refine r_newa (N := 5) hx hb hts hW hP hD hS hA (by decide) (by decide) (by decide) (Nat.le_of_ble_eq_true rfl) (Nat.le_of_ble_eq_true rfl) d_Search_init_27 (fun q3 H hP hD hS => ?_)
  have hP : va_P g.1 classes [(h0, .inr (2, [.ref w1, .ref w2, .ref q1, .null, .int 0, .int 0, .int 0, .int 0])), (q1, .inr (0, [.ref q2, .int (0)])), (q2, .inl (g.2.1, 5, .inl (fun _ => 0))), (q3, .inl (g.2.1, 5, .inl (fun _ => 0)))] H := hP
  have hD : va_D A [(h0, .inr (2, [.ref w1, .ref w2, .ref q1, .null, .int 0, .int 0, .int 0, .int 0])), (q1, .inr (0, [.ref q2, .int (0)])), (q2, .inl (g.2.1, 5, .inl (fun _ => 0))), (q3, .inl (g.2.1, 5, .inl (fun _ => 0)))] := hD
  refine W.widen (k := 3) (n := 12) (Nat.le_of_ble_eq_true rfl) (Nat.le_of_ble_eq_true rfl) ?_
  refine va_putF (D := g.1) (cl := classes) (ci := 2) (v := .ref q3) (ty := .array .int) (C := N_Search) (T := T_Search) (N := 8) (tys := tysOf g) hx hb hts t_Search_in y_Search_t t_Search_ok t_Search_nm hown hW.1 hP hD hS 0 rfl rfl 3 (by decide) (hts _ fl_Search_26) (fun _ h9 => h9) rfl hin rfl (by decide +kernel) rfl rfl (Nat.le_of_ble_eq_true rfl) d_Search_init_29 (fun H locs hP hD hS => ?_)
  have hP : va_P g.1 classes [(h0, .inr (2, [.ref w1, .ref w2, .ref q1, .ref q3, .int 0, .int 0, .int 0, .int 0])), (q1, .inr (0, [.ref q2, .int (0)])), (q2, .inl (g.2.1, 5, .inl (fun _ => 0))), (q3, .inl (g.2.1, 5, .inl (fun _ => 0)))] H := hP
  have hD : va_D A [(h0, .inr (2, [.ref w1, .ref w2, .ref q1, .ref q3, .int 0, .int 0, .int 0, .int 0])), (q1, .inr (0, [.ref q2, .int (0)])), (q2, .inl (g.2.1, 5, .inl (fun _ => 0))), (q3, .inl (g.2.1, 5, .inl (fun _ => 0)))] := hD
  refine lv_aload_n hx hb d_Search_init_32 rfl (lv_at hl 0 rfl) ?_
  refine lv_iconst (v := 0) hx hb d_Search_init_33 (by decide) ?_
  refine va_put (D := g.1) (cl := classes) (ci := 2) (v := .int (0)) (ty := .int) (C := N_Search) (T := T_Search) (N := 8) (tys := tysOf g) hx hb hts t_Search_in y_Search_t t_Search_ok t_Search_nm hown hW.1 hP hD hS 0 rfl rfl 4 (by decide) (hts _ fl_Search_30) (fun _ h9 => h9) rfl (by decide +kernel) rfl rfl (Nat.le_of_ble_eq_true rfl) d_Search_init_34 (fun H locs hP hD hS => ?_)
  have hP : va_P g.1 classes [(h0, .inr (2, [.ref w1, .ref w2, .ref q1, .ref q3, .int (0), .int 0, .int 0, .int 0])), (q1, .inr (0, [.ref q2, .int (0)])), (q2, .inl (g.2.1, 5, .inl (fun _ => 0))), (q3, .inl (g.2.1, 5, .inl (fun _ => 0)))] H := hP
  have hD : va_D A [(h0, .inr (2, [.ref w1, .ref w2, .ref q1, .ref q3, .int (0), .int 0, .int 0, .int 0])), (q1, .inr (0, [.ref q2, .int (0)])), (q2, .inl (g.2.1, 5, .inl (fun _ => 0))), (q3, .inl (g.2.1, 5, .inl (fun _ => 0)))] := hD
  refine lv_aload_n hx hb d_Search_init_37 rfl (lv_at hl 0 rfl) ?_
  refine lv_iconst (v := 0) hx hb d_Search_init_38 (by decide) ?_
  refine va_put (D := g.1) (cl := classes) (ci := 2) (v := .int (0)) (ty := .int) (C := N_Search) (T := T_Search) (N := 8) (tys := tysOf g) hx hb hts t_Search_in y_Search_t t_Search_ok t_Search_nm hown hW.1 hP hD hS 0 rfl rfl 5 (by decide) (hts _ fl_Search_34) (fun _ h9 => h9) rfl (by decide +kernel) rfl rfl (Nat.le_of_ble_eq_true rfl) d_Search_init_39 (fun H locs hP hD hS => ?_)
  have hP : va_P g.1 classes [(h0, .inr (2, [.ref w1, .ref w2, .ref q1, .ref q3, .int (0), .int (0), .int 0, .int 0])), (q1, .inr (0, [.ref q2, .int (0)])), (q2, .inl (g.2.1, 5, .inl (fun _ => 0))), (q3, .inl (g.2.1, 5, .inl (fun _ => 0)))] H := hP
  have hD : va_D A [(h0, .inr (2, [.ref w1, .ref w2, .ref q1, .ref q3, .int (0), .int (0), .int 0, .int 0])), (q1, .inr (0, [.ref q2, .int (0)])), (q2, .inl (g.2.1, 5, .inl (fun _ => 0))), (q3, .inl (g.2.1, 5, .inl (fun _ => 0)))] := hD
  refine lv_aload_n hx hb d_Search_init_42 rfl (lv_at hl 0 rfl) ?_
  refine lv_iconst (v := 0) hx hb d_Search_init_43 (by decide) ?_
  refine va_put (D := g.1) (cl := classes) (ci := 2) (v := .int (0)) (ty := .int) (C := N_Search) (T := T_Search) (N := 8) (tys := tysOf g) hx hb hts t_Search_in y_Search_t t_Search_ok t_Search_nm hown hW.1 hP hD hS 0 rfl rfl 6 (by decide) (hts _ fl_Search_37) (fun _ h9 => h9) rfl (by decide +kernel) rfl rfl (Nat.le_of_ble_eq_true rfl) d_Search_init_44 (fun H locs hP hD hS => ?_)
  have hP : va_P g.1 classes [(h0, .inr (2, [.ref w1, .ref w2, .ref q1, .ref q3, .int (0), .int (0), .int (0), .int 0])), (q1, .inr (0, [.ref q2, .int (0)])), (q2, .inl (g.2.1, 5, .inl (fun _ => 0))), (q3, .inl (g.2.1, 5, .inl (fun _ => 0)))] H := hP
  have hD : va_D A [(h0, .inr (2, [.ref w1, .ref w2, .ref q1, .ref q3, .int (0), .int (0), .int (0), .int 0])), (q1, .inr (0, [.ref q2, .int (0)])), (q2, .inl (g.2.1, 5, .inl (fun _ => 0))), (q3, .inl (g.2.1, 5, .inl (fun _ => 0)))] := hD
  refine lv_aload_n hx hb d_Search_init_47 rfl (lv_at hl 0 rfl) ?_
  refine lv_iconst (v := 0) hx hb d_Search_init_48 (by decide) ?_
  refine va_put (D := g.1) (cl := classes) (ci := 2) (v := .int (0)) (ty := .int) (C := N_Search) (T := T_Search) (N := 8) (tys := tysOf g) hx hb hts t_Search_in y_Search_t t_Search_ok t_Search_nm hown hW.1 hP hD hS 0 rfl rfl 7 (by decide) (hts _ fl_Search_40) (fun _ h9 => h9) rfl (by decide +kernel) rfl rfl (Nat.le_of_ble_eq_true rfl) d_Search_init_49 (fun H locs hP hD hS => ?_)
  have hP : va_P g.1 classes [(h0, .inr (2, [.ref w1, .ref w2, .ref q1, .ref q3, .int (0), .int (0), .int (0), .int (0)])), (q1, .inr (0, [.ref q2, .int (0)])), (q2, .inl (g.2.1, 5, .inl (fun _ => 0))), (q3, .inl (g.2.1, 5, .inl (fun _ => 0)))] H := hP
  have hD : va_D A [(h0, .inr (2, [.ref w1, .ref w2, .ref q1, .ref q3, .int (0), .int (0), .int (0), .int (0)])), (q1, .inr (0, [.ref q2, .int (0)])), (q2, .inl (g.2.1, 5, .inl (fun _ => 0))), (q3, .inl (g.2.1, 5, .inl (fun _ => 0)))] := hD
  refine W.widen (k := 3) (n := 12) (Nat.le_of_ble_eq_true rfl) (Nat.le_of_ble_eq_true rfl) ?_
  exact W.vret hx hb hr (fun t ht hWm => ⟨⟨(), rfl, trivial, q1, q2, q3, by rw [ht]; exact hP, hD⟩, hS.F ht⟩) hS.2.2 d_Search_init_52
abbrev b_Trials_init : ByteArray := prog_7_method_1_code
def y_Trials_init : MethodName := ⟨N_Trials, "<init>", "(LTrickHouses$Way;LTrickHouses$Walk;)V"⟩
theorem d_Trials_init_0 : decode b_Trials_init 0 = .ok (.aload_n 0, 1) := by decide +kernel
theorem d_Trials_init_1 : decode b_Trials_init 1 = .ok (.invokespecial 3, 3) := by decide +kernel
theorem d_Trials_init_4 : decode b_Trials_init 4 = .ok (.aload_n 0, 1) := by decide +kernel
theorem d_Trials_init_5 : decode b_Trials_init 5 = .ok (.aload_n 1, 1) := by decide +kernel
theorem d_Trials_init_6 : decode b_Trials_init 6 = .ok (.putfield 9, 3) := by decide +kernel
theorem d_Trials_init_9 : decode b_Trials_init 9 = .ok (.aload_n 0, 1) := by decide +kernel
theorem d_Trials_init_10 : decode b_Trials_init 10 = .ok (.aload_n 2, 1) := by decide +kernel
theorem d_Trials_init_11 : decode b_Trials_init 11 = .ok (.putfield 15, 3) := by decide +kernel
theorem d_Trials_init_14 : decode b_Trials_init 14 = .ok (.aload_n 0, 1) := by decide +kernel
theorem d_Trials_init_15 : decode b_Trials_init 15 = .ok (.bipush (-9), 2) := by decide +kernel
theorem d_Trials_init_17 : decode b_Trials_init 17 = .ok (.putfield 19, 3) := by decide +kernel
theorem d_Trials_init_20 : decode b_Trials_init 20 = .ok (.aload_n 0, 1) := by decide +kernel
theorem d_Trials_init_21 : decode b_Trials_init 21 = .ok (.iconst 0, 1) := by decide +kernel
theorem d_Trials_init_22 : decode b_Trials_init 22 = .ok (.putfield 23, 3) := by decide +kernel
theorem d_Trials_init_25 : decode b_Trials_init 25 = .ok (.return_, 1) := by decide +kernel
theorem kc_Trials_init : Cond.code y_Trials_init b_Trials_init 3 none ∈ TG := TG_m 255 (by decide +kernel) (by decide +kernel)
theorem ki_Trials_init : Cond.instanceMethod y_Trials_init ∈ TG := TG_m 254 (by decide +kernel) (by decide +kernel)
theorem kn_Trials : Cond.initialized N_Trials ∈ TG := TG_m 61 (by decide +kernel) (by decide +kernel)
theorem mi_Trials_3 : Cond.methodLink N_Trials 3 objectInit ∈ TG := TG_m 256 (by decide +kernel) (by decide +kernel)
set_option maxHeartbeats 4000000 in
set_option maxRecDepth 100000 in
theorem c_Trials_init (l : Launch) (g : GG) (h0 sz w1 w2 : Nat) : Met l y_Trials_init (wm y_Trials_init b_Trials_init 3 none) { frames := 1, cells := 0, slots := 0, locals := 20 } (va_Pc [.ref h0, .ref w1, .ref w2] (fun U => U.heap.size = sz ∧ va_P g.1 classes [(h0, .inr (5, [.null, .null, .int 0, .int 0]))] U.heap ∧ WK g U ∧ va_D (fun _ => True) [(h0, .inr (5, [.null, .null, .int 0, .int 0]))])) (va_Qv (fun _ : Unit => True) (fun _ t => va_P g.1 classes [(h0, .inr (5, [.ref w1, .ref w2, .int (-9), .int (0)]))] t.heap ∧ va_D (va_A [(h0, .inr (5, [.null, .null, .int 0, .int 0]))] sz) [(h0, .inr (5, [.ref w1, .ref w2, .int (-9), .int (0)]))]) (va_A [(h0, .inr (5, [.null, .null, .int 0, .int 0]))] sz)) 0 0 (va_A [(h0, .inr (5, [.null, .null, .int 0, .int 0]))] sz) := by
  refine Met.ofW (cc := b_Trials_init) (maxL := 3) (ret := none) (by decide) rfl ?_
  intro p e s m args below meth c s₁ B hml hv
  obtain ⟨rfl, hsz, hP, hW, hD0⟩ := hv
  have hx := B.exec
  have hb := B.bytes
  have hr := B.returns
  have hts : ∀ w ∈ TG, w.before _ s = true := fun w hw => atoms_spec (ws := wm y_Trials_init b_Trials_init 3 none) B.pre w (List.mem_cons_of_mem _ hw)
  have hown : s.vm.findClass N_Trials = some m.cls := findClass_of_methodNamed B.named
  have hlocks := B.notSynchronized
  have hin : meth.name = "<init>" := (name_of_methodNamed B.named B.method).1
  subst hsz
  have hD := hD0.self (sz := s.heap.size)
  generalize hAe : va_A [(h0, .inr (5, [.null, .null, .int 0, .int 0]))] s.heap.size = A at hD ⊢
  have hA : ∀ q : Nat, s.heap.size ≤ q → A q := fun q h => by rw [← hAe]; exact Or.inr h
  have hS : va_S A s.heap s.heap [] := va_S.rf
  have hP : va_P g.1 classes [(h0, .inr (5, [.null, .null, .int 0, .int 0]))] s.heap := hP
  have hl := lv_entry ([.ref h0, .ref w1, .ref w2]) (n := 3) (Nat.le_of_ble_eq_true rfl)
  rw [lg_entry_eq]
  generalize (lg_sl ([.ref h0, .ref w1, .ref w2]) ++ List.replicate (3 - (lg_sl ([.ref h0, .ref w1, .ref w2])).length) Slot.unset).toArray = ls at hl ⊢
  have hl : lv_has ls 3 [(0, .ref h0), (1, .ref w1), (2, .ref w2)] := hl
  refine lv_aload_n hx hb d_Trials_init_0 rfl (lv_at hl 0 rfl) ?_
  refine W.objInit hx hb hown (hts _ mi_Trials_3) (hts _ ko_inst) (hts _ ko_code) rfl (by rw [hml]; exact hl.1) rfl d_Trials_init_1 (Nat.le_of_ble_eq_true rfl) (Nat.le_of_ble_eq_true rfl) ?_
  refine W.eq (g2 := F0 m 4 ls []) rfl ?_
  refine lv_aload_n hx hb d_Trials_init_4 rfl (lv_at hl 0 rfl) ?_
  refine lv_aload_n hx hb d_Trials_init_5 rfl (lv_at hl 1 rfl) ?_
  refine va_putF (D := g.1) (cl := classes) (ci := 5) (v := .ref w1) (ty := .object "TrickHouses$Way") (C := N_Trials) (T := T_Trials) (N := 4) (tys := tysOf g) hx hb hts t_Trials_in y_Trials_t t_Trials_ok t_Trials_nm hown hW.1 hP hD hS 0 rfl rfl 0 (by decide) (hts _ fl_Trials_9) (fun _ h9 => h9) rfl hin rfl (by decide +kernel) rfl rfl (Nat.le_of_ble_eq_true rfl) d_Trials_init_6 (fun H locs hP hD hS => ?_)
  have hP : va_P g.1 classes [(h0, .inr (5, [.ref w1, .null, .int 0, .int 0]))] H := hP
  have hD : va_D A [(h0, .inr (5, [.ref w1, .null, .int 0, .int 0]))] := hD
  refine lv_aload_n hx hb d_Trials_init_9 rfl (lv_at hl 0 rfl) ?_
  refine lv_aload_n hx hb d_Trials_init_10 rfl (lv_at hl 2 rfl) ?_
  refine va_putF (D := g.1) (cl := classes) (ci := 5) (v := .ref w2) (ty := .object "TrickHouses$Walk") (C := N_Trials) (T := T_Trials) (N := 4) (tys := tysOf g) hx hb hts t_Trials_in y_Trials_t t_Trials_ok t_Trials_nm hown hW.1 hP hD hS 0 rfl rfl 1 (by decide) (hts _ fl_Trials_15) (fun _ h9 => h9) rfl hin rfl (by decide +kernel) rfl rfl (Nat.le_of_ble_eq_true rfl) d_Trials_init_11 (fun H locs hP hD hS => ?_)
  have hP : va_P g.1 classes [(h0, .inr (5, [.ref w1, .ref w2, .int 0, .int 0]))] H := hP
  have hD : va_D A [(h0, .inr (5, [.ref w1, .ref w2, .int 0, .int 0]))] := hD
  refine lv_aload_n hx hb d_Trials_init_14 rfl (lv_at hl 0 rfl) ?_
  refine lv_bipush (v := -9) hx hb d_Trials_init_15 (by decide) ?_
  refine va_put (D := g.1) (cl := classes) (ci := 5) (v := .int (-9)) (ty := .int) (C := N_Trials) (T := T_Trials) (N := 4) (tys := tysOf g) hx hb hts t_Trials_in y_Trials_t t_Trials_ok t_Trials_nm hown hW.1 hP hD hS 0 rfl rfl 2 (by decide) (hts _ fl_Trials_19) (fun _ h9 => h9) rfl (by decide +kernel) rfl rfl (Nat.le_of_ble_eq_true rfl) d_Trials_init_17 (fun H locs hP hD hS => ?_)
  have hP : va_P g.1 classes [(h0, .inr (5, [.ref w1, .ref w2, .int (-9), .int 0]))] H := hP
  have hD : va_D A [(h0, .inr (5, [.ref w1, .ref w2, .int (-9), .int 0]))] := hD
  refine lv_aload_n hx hb d_Trials_init_20 rfl (lv_at hl 0 rfl) ?_
  refine lv_iconst (v := 0) hx hb d_Trials_init_21 (by decide) ?_
  refine va_put (D := g.1) (cl := classes) (ci := 5) (v := .int (0)) (ty := .int) (C := N_Trials) (T := T_Trials) (N := 4) (tys := tysOf g) hx hb hts t_Trials_in y_Trials_t t_Trials_ok t_Trials_nm hown hW.1 hP hD hS 0 rfl rfl 3 (by decide) (hts _ fl_Trials_23) (fun _ h9 => h9) rfl (by decide +kernel) rfl rfl (Nat.le_of_ble_eq_true rfl) d_Trials_init_22 (fun H locs hP hD hS => ?_)
  have hP : va_P g.1 classes [(h0, .inr (5, [.ref w1, .ref w2, .int (-9), .int (0)]))] H := hP
  have hD : va_D A [(h0, .inr (5, [.ref w1, .ref w2, .int (-9), .int (0)]))] := hD
  refine W.widen (k := 0) (n := 0) (Nat.le_of_ble_eq_true rfl) (Nat.le_of_ble_eq_true rfl) ?_
  exact W.vret hx hb hr (fun t ht hWm => ⟨⟨(), rfl, trivial, by rw [ht]; exact hP, hD⟩, hS.F ht⟩) hS.2.2 d_Trials_init_25
abbrev b_Readings_init : ByteArray := prog_3_method_1_code
def y_Readings_init : MethodName := ⟨N_Readings, "<init>", "(LTrickHouses$Way;LTrickHouses$Walk;)V"⟩
theorem d_Readings_init_0 : decode b_Readings_init 0 = .ok (.aload_n 0, 1) := by decide +kernel
theorem d_Readings_init_1 : decode b_Readings_init 1 = .ok (.invokespecial 3, 3) := by decide +kernel
theorem d_Readings_init_4 : decode b_Readings_init 4 = .ok (.aload_n 0, 1) := by decide +kernel
theorem d_Readings_init_5 : decode b_Readings_init 5 = .ok (.aload_n 1, 1) := by decide +kernel
theorem d_Readings_init_6 : decode b_Readings_init 6 = .ok (.putfield 9, 3) := by decide +kernel
theorem d_Readings_init_9 : decode b_Readings_init 9 = .ok (.aload_n 0, 1) := by decide +kernel
theorem d_Readings_init_10 : decode b_Readings_init 10 = .ok (.aload_n 2, 1) := by decide +kernel
theorem d_Readings_init_11 : decode b_Readings_init 11 = .ok (.putfield 15, 3) := by decide +kernel
theorem d_Readings_init_14 : decode b_Readings_init 14 = .ok (.aload_n 0, 1) := by decide +kernel
theorem d_Readings_init_15 : decode b_Readings_init 15 = .ok (.bipush 8, 2) := by decide +kernel
theorem d_Readings_init_17 : decode b_Readings_init 17 = .ok (.newarray .int, 2) := by decide +kernel
theorem d_Readings_init_19 : decode b_Readings_init 19 = .ok (.putfield 19, 3) := by decide +kernel
theorem d_Readings_init_22 : decode b_Readings_init 22 = .ok (.aload_n 0, 1) := by decide +kernel
theorem d_Readings_init_23 : decode b_Readings_init 23 = .ok (.bipush 8, 2) := by decide +kernel
theorem d_Readings_init_25 : decode b_Readings_init 25 = .ok (.newarray .int, 2) := by decide +kernel
theorem d_Readings_init_27 : decode b_Readings_init 27 = .ok (.putfield 23, 3) := by decide +kernel
theorem d_Readings_init_30 : decode b_Readings_init 30 = .ok (.aload_n 0, 1) := by decide +kernel
theorem d_Readings_init_31 : decode b_Readings_init 31 = .ok (.iconst 0, 1) := by decide +kernel
theorem d_Readings_init_32 : decode b_Readings_init 32 = .ok (.putfield 26, 3) := by decide +kernel
theorem d_Readings_init_35 : decode b_Readings_init 35 = .ok (.aload_n 0, 1) := by decide +kernel
theorem d_Readings_init_36 : decode b_Readings_init 36 = .ok (.iconst 0, 1) := by decide +kernel
theorem d_Readings_init_37 : decode b_Readings_init 37 = .ok (.putfield 30, 3) := by decide +kernel
theorem d_Readings_init_40 : decode b_Readings_init 40 = .ok (.aload_n 0, 1) := by decide +kernel
theorem d_Readings_init_41 : decode b_Readings_init 41 = .ok (.bipush (-9), 2) := by decide +kernel
theorem d_Readings_init_43 : decode b_Readings_init 43 = .ok (.putfield 33, 3) := by decide +kernel
theorem d_Readings_init_46 : decode b_Readings_init 46 = .ok (.return_, 1) := by decide +kernel
theorem kc_Readings_init : Cond.code y_Readings_init b_Readings_init 3 none ∈ TG := TG_m 276 (by decide +kernel) (by decide +kernel)
theorem ki_Readings_init : Cond.instanceMethod y_Readings_init ∈ TG := TG_m 275 (by decide +kernel) (by decide +kernel)
theorem kn_Readings : Cond.initialized N_Readings ∈ TG := TG_m 62 (by decide +kernel) (by decide +kernel)
theorem mi_Readings_3 : Cond.methodLink N_Readings 3 objectInit ∈ TG := TG_m 277 (by decide +kernel) (by decide +kernel)
set_option maxHeartbeats 4000000 in
set_option maxRecDepth 100000 in
theorem c_Readings_init (l : Launch) (g : GG) (h0 sz w1 w2 : Nat) : Met l y_Readings_init (wm y_Readings_init b_Readings_init 3 none) { frames := 1, cells := 2, slots := 16, locals := 20 } (va_Pc [.ref h0, .ref w1, .ref w2] (fun U => U.heap.size = sz ∧ va_P g.1 classes [(h0, .inr (1, [.null, .null, .null, .null, .int 0, .int 0, .int 0]))] U.heap ∧ WK g U ∧ va_D (fun _ => True) [(h0, .inr (1, [.null, .null, .null, .null, .int 0, .int 0, .int 0]))])) (va_Qv (fun _ : Unit => True) (fun _ t => ∃ q1, ∃ q2, va_P g.1 classes [(h0, .inr (1, [.ref w1, .ref w2, .ref q1, .ref q2, .int (0), .int (0), .int (-9)])), (q1, .inl (g.2.1, 8, .inl (fun _ => 0))), (q2, .inl (g.2.1, 8, .inl (fun _ => 0)))] t.heap ∧ va_D (va_A [(h0, .inr (1, [.null, .null, .null, .null, .int 0, .int 0, .int 0]))] sz) [(h0, .inr (1, [.ref w1, .ref w2, .ref q1, .ref q2, .int (0), .int (0), .int (-9)])), (q1, .inl (g.2.1, 8, .inl (fun _ => 0))), (q2, .inl (g.2.1, 8, .inl (fun _ => 0)))]) (va_A [(h0, .inr (1, [.null, .null, .null, .null, .int 0, .int 0, .int 0]))] sz)) 2 16 (va_A [(h0, .inr (1, [.null, .null, .null, .null, .int 0, .int 0, .int 0]))] sz) := by
  refine Met.ofW (cc := b_Readings_init) (maxL := 3) (ret := none) (by decide) rfl ?_
  intro p e s m args below meth c s₁ B hml hv
  obtain ⟨rfl, hsz, hP, hW, hD0⟩ := hv
  have hx := B.exec
  have hb := B.bytes
  have hr := B.returns
  have hts : ∀ w ∈ TG, w.before _ s = true := fun w hw => atoms_spec (ws := wm y_Readings_init b_Readings_init 3 none) B.pre w (List.mem_cons_of_mem _ hw)
  have hown : s.vm.findClass N_Readings = some m.cls := findClass_of_methodNamed B.named
  have hlocks := B.notSynchronized
  have hin : meth.name = "<init>" := (name_of_methodNamed B.named B.method).1
  subst hsz
  have hD := hD0.self (sz := s.heap.size)
  generalize hAe : va_A [(h0, .inr (1, [.null, .null, .null, .null, .int 0, .int 0, .int 0]))] s.heap.size = A at hD ⊢
  have hA : ∀ q : Nat, s.heap.size ≤ q → A q := fun q h => by rw [← hAe]; exact Or.inr h
  have hS : va_S A s.heap s.heap [] := va_S.rf
  have hP : va_P g.1 classes [(h0, .inr (1, [.null, .null, .null, .null, .int 0, .int 0, .int 0]))] s.heap := hP
  have hl := lv_entry ([.ref h0, .ref w1, .ref w2]) (n := 3) (Nat.le_of_ble_eq_true rfl)
  rw [lg_entry_eq]
  generalize (lg_sl ([.ref h0, .ref w1, .ref w2]) ++ List.replicate (3 - (lg_sl ([.ref h0, .ref w1, .ref w2])).length) Slot.unset).toArray = ls at hl ⊢
  have hl : lv_has ls 3 [(0, .ref h0), (1, .ref w1), (2, .ref w2)] := hl
  refine lv_aload_n hx hb d_Readings_init_0 rfl (lv_at hl 0 rfl) ?_
  refine W.objInit hx hb hown (hts _ mi_Readings_3) (hts _ ko_inst) (hts _ ko_code) rfl (by rw [hml]; exact hl.1) rfl d_Readings_init_1 (Nat.le_of_ble_eq_true rfl) (Nat.le_of_ble_eq_true rfl) ?_
  refine W.eq (g2 := F0 m 4 ls []) rfl ?_
  refine lv_aload_n hx hb d_Readings_init_4 rfl (lv_at hl 0 rfl) ?_
  refine lv_aload_n hx hb d_Readings_init_5 rfl (lv_at hl 1 rfl) ?_
  refine va_putF (D := g.1) (cl := classes) (ci := 1) (v := .ref w1) (ty := .object "TrickHouses$Way") (C := N_Readings) (T := T_Readings) (N := 7) (tys := tysOf g) hx hb hts t_Readings_in y_Readings_t t_Readings_ok t_Readings_nm hown hW.1 hP hD hS 0 rfl rfl 0 (by decide) (hts _ fl_Readings_9) (fun _ h9 => h9) rfl hin rfl (by decide +kernel) rfl rfl (Nat.le_of_ble_eq_true rfl) d_Readings_init_6 (fun H locs hP hD hS => ?_)
  have hP : va_P g.1 classes [(h0, .inr (1, [.ref w1, .null, .null, .null, .int 0, .int 0, .int 0]))] H := hP
  have hD : va_D A [(h0, .inr (1, [.ref w1, .null, .null, .null, .int 0, .int 0, .int 0]))] := hD
  refine lv_aload_n hx hb d_Readings_init_9 rfl (lv_at hl 0 rfl) ?_
  refine lv_aload_n hx hb d_Readings_init_10 rfl (lv_at hl 2 rfl) ?_
  refine va_putF (D := g.1) (cl := classes) (ci := 1) (v := .ref w2) (ty := .object "TrickHouses$Walk") (C := N_Readings) (T := T_Readings) (N := 7) (tys := tysOf g) hx hb hts t_Readings_in y_Readings_t t_Readings_ok t_Readings_nm hown hW.1 hP hD hS 0 rfl rfl 1 (by decide) (hts _ fl_Readings_15) (fun _ h9 => h9) rfl hin rfl (by decide +kernel) rfl rfl (Nat.le_of_ble_eq_true rfl) d_Readings_init_11 (fun H locs hP hD hS => ?_)
  have hP : va_P g.1 classes [(h0, .inr (1, [.ref w1, .ref w2, .null, .null, .int 0, .int 0, .int 0]))] H := hP
  have hD : va_D A [(h0, .inr (1, [.ref w1, .ref w2, .null, .null, .int 0, .int 0, .int 0]))] := hD
  refine lv_aload_n hx hb d_Readings_init_14 rfl (lv_at hl 0 rfl) ?_
  refine lv_bipush (v := 8) hx hb d_Readings_init_15 (by decide) ?_
  refine r_newa (N := 8) hx hb hts hW hP hD hS hA (by decide) (by decide) (by decide) (Nat.le_of_ble_eq_true rfl) (Nat.le_of_ble_eq_true rfl) d_Readings_init_17 (fun q1 H hP hD hS => ?_)
  have hP : va_P g.1 classes [(h0, .inr (1, [.ref w1, .ref w2, .null, .null, .int 0, .int 0, .int 0])), (q1, .inl (g.2.1, 8, .inl (fun _ => 0)))] H := hP
  have hD : va_D A [(h0, .inr (1, [.ref w1, .ref w2, .null, .null, .int 0, .int 0, .int 0])), (q1, .inl (g.2.1, 8, .inl (fun _ => 0)))] := hD
  refine W.widen (k := 1) (n := 8) (Nat.le_of_ble_eq_true rfl) (Nat.le_of_ble_eq_true rfl) ?_
  refine va_putF (D := g.1) (cl := classes) (ci := 1) (v := .ref q1) (ty := .array .int) (C := N_Readings) (T := T_Readings) (N := 7) (tys := tysOf g) hx hb hts t_Readings_in y_Readings_t t_Readings_ok t_Readings_nm hown hW.1 hP hD hS 0 rfl rfl 2 (by decide) (hts _ fl_Readings_19) (fun _ h9 => h9) rfl hin rfl (by decide +kernel) rfl rfl (Nat.le_of_ble_eq_true rfl) d_Readings_init_19 (fun H locs hP hD hS => ?_)
  have hP : va_P g.1 classes [(h0, .inr (1, [.ref w1, .ref w2, .ref q1, .null, .int 0, .int 0, .int 0])), (q1, .inl (g.2.1, 8, .inl (fun _ => 0)))] H := hP
  have hD : va_D A [(h0, .inr (1, [.ref w1, .ref w2, .ref q1, .null, .int 0, .int 0, .int 0])), (q1, .inl (g.2.1, 8, .inl (fun _ => 0)))] := hD
  refine lv_aload_n hx hb d_Readings_init_22 rfl (lv_at hl 0 rfl) ?_
  refine lv_bipush (v := 8) hx hb d_Readings_init_23 (by decide) ?_
  refine r_newa (N := 8) hx hb hts hW hP hD hS hA (by decide) (by decide) (by decide) (Nat.le_of_ble_eq_true rfl) (Nat.le_of_ble_eq_true rfl) d_Readings_init_25 (fun q2 H hP hD hS => ?_)
  have hP : va_P g.1 classes [(h0, .inr (1, [.ref w1, .ref w2, .ref q1, .null, .int 0, .int 0, .int 0])), (q1, .inl (g.2.1, 8, .inl (fun _ => 0))), (q2, .inl (g.2.1, 8, .inl (fun _ => 0)))] H := hP
  have hD : va_D A [(h0, .inr (1, [.ref w1, .ref w2, .ref q1, .null, .int 0, .int 0, .int 0])), (q1, .inl (g.2.1, 8, .inl (fun _ => 0))), (q2, .inl (g.2.1, 8, .inl (fun _ => 0)))] := hD
  refine W.widen (k := 2) (n := 16) (Nat.le_of_ble_eq_true rfl) (Nat.le_of_ble_eq_true rfl) ?_
  refine va_putF (D := g.1) (cl := classes) (ci := 1) (v := .ref q2) (ty := .array .int) (C := N_Readings) (T := T_Readings) (N := 7) (tys := tysOf g) hx hb hts t_Readings_in y_Readings_t t_Readings_ok t_Readings_nm hown hW.1 hP hD hS 0 rfl rfl 3 (by decide) (hts _ fl_Readings_23) (fun _ h9 => h9) rfl hin rfl (by decide +kernel) rfl rfl (Nat.le_of_ble_eq_true rfl) d_Readings_init_27 (fun H locs hP hD hS => ?_)
  have hP : va_P g.1 classes [(h0, .inr (1, [.ref w1, .ref w2, .ref q1, .ref q2, .int 0, .int 0, .int 0])), (q1, .inl (g.2.1, 8, .inl (fun _ => 0))), (q2, .inl (g.2.1, 8, .inl (fun _ => 0)))] H := hP
  have hD : va_D A [(h0, .inr (1, [.ref w1, .ref w2, .ref q1, .ref q2, .int 0, .int 0, .int 0])), (q1, .inl (g.2.1, 8, .inl (fun _ => 0))), (q2, .inl (g.2.1, 8, .inl (fun _ => 0)))] := hD
  refine lv_aload_n hx hb d_Readings_init_30 rfl (lv_at hl 0 rfl) ?_
  refine lv_iconst (v := 0) hx hb d_Readings_init_31 (by decide) ?_
  refine va_put (D := g.1) (cl := classes) (ci := 1) (v := .int (0)) (ty := .int) (C := N_Readings) (T := T_Readings) (N := 7) (tys := tysOf g) hx hb hts t_Readings_in y_Readings_t t_Readings_ok t_Readings_nm hown hW.1 hP hD hS 0 rfl rfl 4 (by decide) (hts _ fl_Readings_26) (fun _ h9 => h9) rfl (by decide +kernel) rfl rfl (Nat.le_of_ble_eq_true rfl) d_Readings_init_32 (fun H locs hP hD hS => ?_)
  have hP : va_P g.1 classes [(h0, .inr (1, [.ref w1, .ref w2, .ref q1, .ref q2, .int (0), .int 0, .int 0])), (q1, .inl (g.2.1, 8, .inl (fun _ => 0))), (q2, .inl (g.2.1, 8, .inl (fun _ => 0)))] H := hP
  have hD : va_D A [(h0, .inr (1, [.ref w1, .ref w2, .ref q1, .ref q2, .int (0), .int 0, .int 0])), (q1, .inl (g.2.1, 8, .inl (fun _ => 0))), (q2, .inl (g.2.1, 8, .inl (fun _ => 0)))] := hD
  refine lv_aload_n hx hb d_Readings_init_35 rfl (lv_at hl 0 rfl) ?_
  refine lv_iconst (v := 0) hx hb d_Readings_init_36 (by decide) ?_
  refine va_put (D := g.1) (cl := classes) (ci := 1) (v := .int (0)) (ty := .int) (C := N_Readings) (T := T_Readings) (N := 7) (tys := tysOf g) hx hb hts t_Readings_in y_Readings_t t_Readings_ok t_Readings_nm hown hW.1 hP hD hS 0 rfl rfl 5 (by decide) (hts _ fl_Readings_30) (fun _ h9 => h9) rfl (by decide +kernel) rfl rfl (Nat.le_of_ble_eq_true rfl) d_Readings_init_37 (fun H locs hP hD hS => ?_)
  have hP : va_P g.1 classes [(h0, .inr (1, [.ref w1, .ref w2, .ref q1, .ref q2, .int (0), .int (0), .int 0])), (q1, .inl (g.2.1, 8, .inl (fun _ => 0))), (q2, .inl (g.2.1, 8, .inl (fun _ => 0)))] H := hP
  have hD : va_D A [(h0, .inr (1, [.ref w1, .ref w2, .ref q1, .ref q2, .int (0), .int (0), .int 0])), (q1, .inl (g.2.1, 8, .inl (fun _ => 0))), (q2, .inl (g.2.1, 8, .inl (fun _ => 0)))] := hD
  refine lv_aload_n hx hb d_Readings_init_40 rfl (lv_at hl 0 rfl) ?_
  refine lv_bipush (v := -9) hx hb d_Readings_init_41 (by decide) ?_
  refine va_put (D := g.1) (cl := classes) (ci := 1) (v := .int (-9)) (ty := .int) (C := N_Readings) (T := T_Readings) (N := 7) (tys := tysOf g) hx hb hts t_Readings_in y_Readings_t t_Readings_ok t_Readings_nm hown hW.1 hP hD hS 0 rfl rfl 6 (by decide) (hts _ fl_Readings_33) (fun _ h9 => h9) rfl (by decide +kernel) rfl rfl (Nat.le_of_ble_eq_true rfl) d_Readings_init_43 (fun H locs hP hD hS => ?_)
  have hP : va_P g.1 classes [(h0, .inr (1, [.ref w1, .ref w2, .ref q1, .ref q2, .int (0), .int (0), .int (-9)])), (q1, .inl (g.2.1, 8, .inl (fun _ => 0))), (q2, .inl (g.2.1, 8, .inl (fun _ => 0)))] H := hP
  have hD : va_D A [(h0, .inr (1, [.ref w1, .ref w2, .ref q1, .ref q2, .int (0), .int (0), .int (-9)])), (q1, .inl (g.2.1, 8, .inl (fun _ => 0))), (q2, .inl (g.2.1, 8, .inl (fun _ => 0)))] := hD
  refine W.widen (k := 2) (n := 16) (Nat.le_of_ble_eq_true rfl) (Nat.le_of_ble_eq_true rfl) ?_
  exact W.vret hx hb hr (fun t ht hWm => ⟨⟨(), rfl, trivial, q1, q2, by rw [ht]; exact hP, hD⟩, hS.F ht⟩) hS.2.2 d_Readings_init_46
