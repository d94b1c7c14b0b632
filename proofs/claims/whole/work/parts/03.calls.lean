/-! contracts and calls over the one world -/
def PQ (g : GG) (R : Option Value → Mem → Prop) : Array Value → State → Outcome → State → Prop := fun _ st oc t => (∃ (v : Option Value) (M1 : Mem), oc = .returned v ∧ R v M1 ∧ WP g M1 t.heap) ∧ va_F (AW g) st t
def RI (R : Int32 → Mem → Prop) : Option Value → Mem → Prop := fun v M => ∃ r, v = some (.int r) ∧ R r M
def RZ (R : Int32 → Mem → Prop) : Option Value → Mem → Prop := fun v M => ∃ r, v = some (.int r) ∧ narrow .boolean (.int r) = .int r ∧ R r M
def RL (R : Int64 → Mem → Prop) : Option Value → Mem → Prop := fun v M => ∃ r, v = some (.long r) ∧ R r M
def RV (R : Mem → Prop) : Option Value → Mem → Prop := fun v M => v = none ∧ R M
def RO (g : GG) (R : Option Nat → Mem → Prop) : Option Value → Mem → Prop := fun v M => (v = some .null ∧ R none M) ∨ ∃ q, q < 4 ∧ v = some (.ref (g.2.2.2 (2 + q))) ∧ R (some q) M
abbrev PP (g : GG) (M : Mem) (av : List Value) : Array Value → State → Prop := va_Pc av (fun U => WP g M U.heap ∧ WK g U)
abbrev RM (f n : Nat) : Room := { frames := f, cells := 0, slots := 0, locals := n }
def CBV (y : MethodName) (b : ByteArray) (mL : Nat) (ret : Option FieldType) (Cn : String) (n : Nat) : Prop := (Cond.instanceMethod y ∈ TG ∧ Cond.selects Cn y y ∈ TG ∧ Cond.initialized Cn ∈ TG ∧ Cond.code y b mL ret ∈ TG) ∧ (y.cls = Cn ∧ y.cls ≠ "java/lang/invoke/MethodHandle" ∧ y.cls ≠ "java/lang/invoke/VarHandle" ∧ (parseMethodDescriptor y.desc).map (fun d => d.parameters.length) = some n)
def CBS (y : MethodName) (b : ByteArray) (mL : Nat) (ret : Option FieldType) (n : Nat) : Prop := (Cond.static y ∈ TG ∧ Cond.initialized y.cls ∈ TG ∧ Cond.code y b mL ret ∈ TG) ∧ (y.cls ≠ "java/lang/invoke/MethodHandle" ∧ y.cls ≠ "java/lang/invoke/VarHandle" ∧ (parseMethodDescriptor y.desc).map (fun d => d.parameters.length) = some n)
def IsOb (g : GG) (M : Mem) (k ci : Nat) (Cn : String) : Prop := k < 46 ∧ (∃ fs, ent g k (M k) = .inr (ci, fs)) ∧ ∃ q, classes[ci]? = some (Cn, q)
theorem wm_in {y : MethodName} {b : ByteArray} {n : Nat} {ret : Option FieldType} (h : Cond.code y b n ret ∈ TG) {w : Cond} (hw : w ∈ wm y b n ret) : w ∈ TG := (List.mem_cons.mp hw).elim (fun e => by rw [e]; exact h) id
theorem PP_blind {g : GG} {M : Mem} {av : List Value} : FrameBlind (PP g M av) := fun _ _ _ _ h => ⟨h.1, h.2.1, h.2.2.calling⟩
section CW
variable {p : Program} {l : Launch} {e : Env} {R : Room} {s : State} {m : MethodId} {args : Array Value} {below : List Frame} {meth : Method} {c : Code} {H H0 : Heap} {locs : List Loc} {cells slots : Nat} {Q : State → Prop}
variable {cc : ByteArray} {pc nL : Nat} {ls : Array Slot} {rest st0 : List Value} {own : String} {g : GG} {M : Mem} {a : Array Value}
theorem r_run {R1 : Option Value → Mem → Prop} (hr : va_Run p l e R s m args below meth c H locs cells slots 0 0 (F0 m pc ls st0) rest (PQ g R1 a) (AW g)) (hS : va_S (AW g) H0 H locs)
    (kk : ∀ (v : Option Value) (M1 : Mem) (H1 : Heap) (locs1 : List Loc), R1 v M1 → WP g M1 H1 → va_S (AW g) H0 H1 locs1 → W p l e R s m args below meth c H1 locs1 cells slots Q (F0 m (pc + 3) ls (v.toList ++ rest))) : W p l e R s m args below meth c H locs cells slots Q (F0 m pc ls st0) := by
  intro T hT X
  obtain ⟨v, st₀, t, T', L, h0, X', hL, e1, e2, ⟨⟨v', M1, hv, hR, hP⟩, hz, hk⟩, st⟩ := hr T hT X
  cases hv
  rw [h0] at hz hk
  obtain ⟨t2, a1, b1⟩ := kk v M1 T'.heap (locs ++ L) hR (by rw [e1]; exact hP)
    ⟨Nat.le_trans hS.1 (by rw [e1]; exact hz), fun q h1 h2 => by rw [e1, hk q (Nat.lt_of_lt_of_le h1 hS.1) h2]; exact hS.2.1 q h1 h2, fun q hq => by
      rcases List.mem_append.mp hq with h | h
      · exact hS.2.2 q h
      · exact hL q h⟩ T' rfl X'
  exact ⟨t2, st t2 a1, b1⟩
theorem r_runI {R1 : Int32 → Mem → Prop} (hr : va_Run p l e R s m args below meth c H locs cells slots 0 0 (F0 m pc ls st0) rest (PQ g (RI R1) a) (AW g)) (hS : va_S (AW g) H0 H locs)
    (kk : ∀ (r : Int32) (M1 : Mem) (H1 : Heap) (locs1 : List Loc), R1 r M1 → WP g M1 H1 → va_S (AW g) H0 H1 locs1 → W p l e R s m args below meth c H1 locs1 cells slots Q (F0 m (pc + 3) ls (.int r :: rest))) : W p l e R s m args below meth c H locs cells slots Q (F0 m pc ls st0) :=
  r_run hr hS (fun v M1 H1 locs1 hR hP hS1 => by obtain ⟨r, rfl, h⟩ := hR; exact kk r M1 H1 locs1 h hP hS1)
theorem r_runZ {R1 : Int32 → Mem → Prop} (hr : va_Run p l e R s m args below meth c H locs cells slots 0 0 (F0 m pc ls st0) rest (PQ g (RZ R1) a) (AW g)) (hS : va_S (AW g) H0 H locs)
    (kk : ∀ (r : Int32) (M1 : Mem) (H1 : Heap) (locs1 : List Loc), narrow .boolean (.int r) = .int r → R1 r M1 → WP g M1 H1 → va_S (AW g) H0 H1 locs1 → W p l e R s m args below meth c H1 locs1 cells slots Q (F0 m (pc + 3) ls (.int r :: rest))) : W p l e R s m args below meth c H locs cells slots Q (F0 m pc ls st0) :=
  r_run hr hS (fun v M1 H1 locs1 hR hP hS1 => by obtain ⟨r, rfl, h0, h⟩ := hR; exact kk r M1 H1 locs1 h0 h hP hS1)
theorem r_runL {R1 : Int64 → Mem → Prop} (hr : va_Run p l e R s m args below meth c H locs cells slots 0 0 (F0 m pc ls st0) rest (PQ g (RL R1) a) (AW g)) (hS : va_S (AW g) H0 H locs)
    (kk : ∀ (r : Int64) (M1 : Mem) (H1 : Heap) (locs1 : List Loc), R1 r M1 → WP g M1 H1 → va_S (AW g) H0 H1 locs1 → W p l e R s m args below meth c H1 locs1 cells slots Q (F0 m (pc + 3) ls (.long r :: rest))) : W p l e R s m args below meth c H locs cells slots Q (F0 m pc ls st0) :=
  r_run hr hS (fun v M1 H1 locs1 hR hP hS1 => by obtain ⟨r, rfl, h⟩ := hR; exact kk r M1 H1 locs1 h hP hS1)
theorem r_runV {R1 : Mem → Prop} (hr : va_Run p l e R s m args below meth c H locs cells slots 0 0 (F0 m pc ls st0) rest (PQ g (RV R1) a) (AW g)) (hS : va_S (AW g) H0 H locs)
    (kk : ∀ (M1 : Mem) (H1 : Heap) (locs1 : List Loc), R1 M1 → WP g M1 H1 → va_S (AW g) H0 H1 locs1 → W p l e R s m args below meth c H1 locs1 cells slots Q (F0 m (pc + 3) ls rest)) : W p l e R s m args below meth c H locs cells slots Q (F0 m pc ls st0) :=
  r_run hr hS (fun v M1 H1 locs1 hR hP hS1 => by obtain ⟨rfl, h⟩ := hR; exact kk M1 H1 locs1 h hP hS1)
theorem r_runO {R1 : Option Nat → Mem → Prop} (hr : va_Run p l e R s m args below meth c H locs cells slots 0 0 (F0 m pc ls st0) rest (PQ g (RO g R1) a) (AW g)) (hS : va_S (AW g) H0 H locs)
    (k0 : ∀ (M1 : Mem) (H1 : Heap) (locs1 : List Loc), R1 none M1 → WP g M1 H1 → va_S (AW g) H0 H1 locs1 → W p l e R s m args below meth c H1 locs1 cells slots Q (F0 m (pc + 3) ls (.null :: rest)))
    (k1 : ∀ (q : Nat) (M1 : Mem) (H1 : Heap) (locs1 : List Loc), q < 4 → R1 (some q) M1 → WP g M1 H1 → va_S (AW g) H0 H1 locs1 → W p l e R s m args below meth c H1 locs1 cells slots Q (F0 m (pc + 3) ls (.ref (g.2.2.2 (2 + q)) :: rest))) : W p l e R s m args below meth c H locs cells slots Q (F0 m pc ls st0) :=
  r_run hr hS (fun v M1 H1 locs1 hR hP hS1 => by
    rcases hR with ⟨rfl, h⟩ | ⟨q, hq, rfl, h⟩
    · exact k0 M1 H1 locs1 h hP hS1
    · exact k1 q M1 H1 locs1 hq h hP hS1)
theorem k_V {R1 : Option Value → Mem → Prop} {y : MethodName} {b : ByteArray} {mL n ci k index f1 n1 : Nat} {ret : Option FieldType} {Cn : String} {As : List Value}
    (C : CallFix p m c cc nL s args TG own) (hW : WK g s) (hP : WP g M H) (hM : Met l y (wm y b mL ret) (RM f1 n1) (PP g M (.ref (g.2.2.2 k) :: As)) (PQ g R1) 0 0 (AW g)) (hcb : CBV y b mL ret Cn n) (hml : Cond.methodLink own index y ∈ TG) (ho : IsOb g M k ci Cn)
    (hroom : f1 + 1 ≤ R.frames ∧ 8 + (mL + 11) + n1 ≤ R.locals) (hn : As.length = n) (hl : ls.size = nL) (hst : st0 = As.reverse ++ .ref (g.2.2.2 k) :: rest) (hrest : (rest.map fun v => v.category).sum ≤ 8) (hdg : decode cc pc = .ok (.invokevirtual index, 3)) (hf : cells ≤ R.cells ∧ slots ≤ R.slots) :
    va_Run p l e R s m args below meth c H locs cells slots 0 0 (F0 m pc ls st0) rest (PQ g R1 (Value.ref (g.2.2.2 k) :: As).toArray) (AW g) := by
  obtain ⟨hk, ⟨fs, he⟩, q, hc⟩ := ho
  obtain ⟨⟨h1, h2, h3, h4⟩, hd⟩ := hcb
  have hG : GoodIn TG (wsV own index Cn y (wm y b mL ret)) := TG_in (fun w hw => by
    rcases List.mem_append.mp hw with h | h
    · simp only [List.mem_cons, List.not_mem_nil, or_false] at h
      rcases h with rfl | rfl | rfl | rfl
      · exact hml
      · exact h1
      · exact h2
      · exact h3
    · exact wm_in h4 h)
  exact va_runV C hM (cwV n C.2.2.2.2 hG rfl rfl rfl hd hroom) ⟨PP_blind, va_recv hW.1 hP hc (by rw [ws_at g M hk, he]), fun U hU hWm => ⟨rfl, by rw [hU]; exact hP, hW.warm hWm⟩⟩ rfl hn hl hst (lv_room hrest) hdg hf
theorem k_S {R1 : Option Value → Mem → Prop} {y : MethodName} {b : ByteArray} {mL n index f1 n1 : Nat} {ret : Option FieldType} {As : List Value}
    (C : CallFix p m c cc nL s args TG own) (hW : WK g s) (hP : WP g M H) (hM : Met l y (wm y b mL ret) (RM f1 n1) (PP g M As) (PQ g R1) 0 0 (AW g)) (hcb : CBS y b mL ret n) (hml : Cond.methodLink own index y ∈ TG)
    (hroom : f1 + 1 ≤ R.frames ∧ 8 + (mL + 11) + n1 ≤ R.locals) (hn : As.length = n) (hl : ls.size = nL) (hst : st0 = As.reverse ++ rest) (hrest : (rest.map fun v => v.category).sum ≤ 8) (hdg : decode cc pc = .ok (.invokestatic index, 3)) (hf : cells ≤ R.cells ∧ slots ≤ R.slots) :
    va_Run p l e R s m args below meth c H locs cells slots 0 0 (F0 m pc ls st0) rest (PQ g R1 As.toArray) (AW g) := by
  obtain ⟨⟨h1, h3, h4⟩, hd⟩ := hcb
  have hG : GoodIn TG (va_wsS own index y (wm y b mL ret)) := TG_in (fun w hw => by
    rcases List.mem_append.mp hw with h | h
    · simp only [List.mem_cons, List.not_mem_nil, or_false] at h
      rcases h with rfl | rfl | rfl
      · exact hml
      · exact h1
      · exact h3
    · exact wm_in h4 h)
  exact va_runS C hM (va_cwS n C.2.2.2.2 hG rfl rfl rfl hd hroom) ⟨PP_blind, fun U hU hWm => ⟨rfl, by rw [hU]; exact hP, hW.warm hWm⟩⟩ rfl hn hl hst (lv_room hrest) hdg hf
theorem k_N {R1 : Option Value → Mem → Prop} {y : MethodName} {b : ByteArray} {mL n index f1 n1 : Nat} {ret : Option FieldType} {host : String} {As : List Value}
    (C : CallFix p m c cc nL s args TG own) (hW : WK g s) (hP : WP g M H) (hM : Met l y (wm y b mL ret) (RM f1 n1) (PP g M As) (PQ g R1) 0 0 (AW g)) (hcb : CBS y b mL ret n) (hml : va_Nw (.methodLinkNest own index y host) s)
    (hroom : f1 + 1 ≤ R.frames ∧ 8 + (mL + 11) + n1 ≤ R.locals) (hn : As.length = n) (hl : ls.size = nL) (hst : st0 = As.reverse ++ rest) (hrest : (rest.map fun v => v.category).sum ≤ 8) (hdg : decode cc pc = .ok (.invokestatic index, 3)) (hf : cells ≤ R.cells ∧ slots ≤ R.slots) :
    va_Run p l e R s m args below meth c H locs cells slots 0 0 (F0 m pc ls st0) rest (PQ g R1 As.toArray) (AW g) := by
  obtain ⟨⟨h1, h3, h4⟩, hd⟩ := hcb
  exact va_runSN C hM ⟨va_cnB n C.2.2.2.2 (TG_in (fun w hw => wm_in h4 hw)) rfl rfl rfl hml (C.2.2.2.2 _ h3) hd hroom, C.2.2.2.2 _ h1, trivial⟩ ⟨PP_blind, fun U hU hWm => ⟨rfl, by rw [hU]; exact hP, hW.warm hWm⟩⟩ rfl hn hl hst (lv_room hrest) hdg hf
/-! answers -/
theorem r_iret {R1 : Int32 → Mem → Prop} {v : Int32} (C : CallFix p m c cc nL s args TG own) (hr : meth.sig.returnType = some .int) (hlocks : meth.locks = false) (hP : WP g M H) (hS : va_S (AW g) s.heap H locs) (hk : R1 v M) (hdg : decode cc pc = .ok (.ireturn, 1)) :
    W p l e R s m args below meth c H locs cells slots (MQ below (PQ g (RI R1)) args s cells slots (AW g)) (F0 m pc ls [.int v]) :=
  W.iret (hlocks := hlocks) C.1 C.2.1 hr (fun t ht _ => ⟨⟨_, M, rfl, ⟨v, rfl, hk⟩, by rw [ht]; exact hP⟩, hS.F ht⟩) hS.2.2 hdg
theorem r_zret {R1 : Int32 → Mem → Prop} {v : Int32} (hz : narrow .boolean (.int v) = .int v) (C : CallFix p m c cc nL s args TG own) (hr : meth.sig.returnType = some .boolean) (hlocks : meth.locks = false) (hP : WP g M H) (hS : va_S (AW g) s.heap H locs) (hk : R1 v M) (hdg : decode cc pc = .ok (.ireturn, 1)) :
    W p l e R s m args below meth c H locs cells slots (MQ below (PQ g (RZ R1)) args s cells slots (AW g)) (F0 m pc ls [.int v]) :=
  W.zret (hlocks := hlocks) C.1 C.2.1 hr hz (fun t ht _ => ⟨⟨_, M, rfl, ⟨v, rfl, hz, hk⟩, by rw [ht]; exact hP⟩, hS.F ht⟩) hS.2.2 hdg
theorem r_lret {R1 : Int64 → Mem → Prop} {v : Int64} (C : CallFix p m c cc nL s args TG own) (hr : meth.sig.returnType = some .long) (hlocks : meth.locks = false) (hP : WP g M H) (hS : va_S (AW g) s.heap H locs) (hk : R1 v M) (hdg : decode cc pc = .ok (.lreturn, 1)) :
    W p l e R s m args below meth c H locs cells slots (MQ below (PQ g (RL R1)) args s cells slots (AW g)) (F0 m pc ls [.long v]) :=
  W.lret (hlocks := hlocks) C.1 C.2.1 hr (fun t ht _ => ⟨⟨_, M, rfl, ⟨v, rfl, hk⟩, by rw [ht]; exact hP⟩, hS.F ht⟩) hS.2.2 hdg
theorem r_vret {R1 : Mem → Prop} (C : CallFix p m c cc nL s args TG own) (hr : meth.sig.returnType = none) (hlocks : meth.locks = false) (hP : WP g M H) (hS : va_S (AW g) s.heap H locs) (hk : R1 M) (hdg : decode cc pc = .ok (.return_, 1)) :
    W p l e R s m args below meth c H locs cells slots (MQ below (PQ g (RV R1)) args s cells slots (AW g)) (F0 m pc ls []) :=
  W.vret (hlocks := hlocks) C.1 C.2.1 hr (fun t ht _ => ⟨⟨_, M, rfl, ⟨rfl, hk⟩, by rw [ht]; exact hP⟩, hS.F ht⟩) hS.2.2 hdg
end CW
/-- the start of every contract: the machine's facts, the world, the words -/
theorem m_of {l : Launch} {y : MethodName} {b : ByteArray} {mL f1 n1 : Nat} {ret : Option FieldType} {own : String} {g : GG} {M : Mem} {av : List Value} {R1 : Option Value → Mem → Prop} (hy : plainName y.cls = true) (hown : y.cls = own)
    (hlen : (lg_sl av).length ≤ mL)
    (body : ∀ (p : Program) (e : Env) (s : State) (m : MethodId) (below : List Frame) (meth : Method) (c : Code) (ls : Array Slot), CallFix p m c b mL s av.toArray TG own → meth.sig.returnType = ret → meth.locks = false → WK g s → WP g M s.heap → va_S (AW g) s.heap s.heap [] → lv_has ls mL (lv_args 0 av) →
      W p l e (RM f1 n1) s m av.toArray below meth c s.heap [] 0 0 (MQ below (PQ g R1) av.toArray s 0 0 (AW g)) (F0 m 0 ls [])) : Met l y (wm y b mL ret) (RM f1 n1) (PP g M av) (PQ g R1) 0 0 (AW g) := by
  refine Met.ofW (cc := b) (maxL := mL) (ret := ret) hy rfl ?_
  intro p e s m args below meth c s₁ B hml hv
  obtain ⟨rfl, hP, hK⟩ := hv
  have hts := atoms_spec (ws := wm y b mL ret) B.pre
  have ho : s.vm.findClass own = some m.cls := by rw [← hown]; exact findClass_of_methodNamed B.named
  have hl := lv_entry av (n := mL) hlen
  rw [lg_entry_eq]
  generalize (lg_sl av ++ List.replicate (mL - (lg_sl av).length) Slot.unset).toArray = ls at hl ⊢
  exact body p e s m below meth c ls ⟨B.exec, B.bytes, hml, ho, fun w hw => hts w (List.mem_cons_of_mem _ hw)⟩ B.returns B.notSynchronized hK hP va_S.rf hl
