def fo (D : Mem) (n m : Nat) (rows : List (List Nat)) (s : Nat × Nat × List Nat) : Nat × Nat × List Nat := (rows.filter (fun l => isMt l m 0)).foldl (tst D n m) s
theorem fo_y {D : Mem} {n m : Nat} {l : List Nat} {rows : List (List Nat)} {s : Nat × Nat × List Nat} (h : isMt l m 0 = true) : fo D n m (l :: rows) s = fo D n m rows (tst D n m s l) := by
  unfold fo
  rw [List.filter_cons_of_pos (by exact h)]
  rfl
theorem fo_n {D : Mem} {n m : Nat} {l : List Nat} {rows : List (List Nat)} {s : Nat × Nat × List Nat} (h : ¬ isMt l m 0 = true) : fo D n m (l :: rows) s = fo D n m rows s := by
  unfold fo
  rw [List.filter_cons_of_neg (by exact h)]
theorem good_hd {m : Nat} {l : List Nat} {rows : List (List Nat)} (h : (l :: rows).all (goodR m) = true) : okV2 m l = true ∧ (isMt l m 0 = true → okM m l = true) ∧ rows.all (goodR m) = true := by
  rw [List.all_cons, Bool.and_eq_true] at h
  obtain ⟨h1, h2⟩ := h
  unfold goodR at h1
  rw [Bool.and_eq_true, Bool.or_eq_true, Bool.not_eq_true'] at h1
  exact ⟨h1.1, fun q => h1.2.resolve_left (by rw [q]; decide), h2⟩
theorem C_twos {n m : Nat} (hn : n ≤ 6) (hm : m ≤ 5) {M : Mem} {R : Mem → Prop} (e5 : M 12 5 = nI n) (e6 : M 12 6 = nI m) (k : ∀ M', SE M M' → M' 21 4 = bI (-1) (fo (dC M) n m (itR m (fc m) (List.range m)) (0, 0, [])).1 → (0 < (fo (dC M) n m (itR m (fc m) (List.range m)) (0, 0, [])).1 → RW 24 m (fo (dC M) n m (itR m (fc m) (List.range m)) (0, 0, [])).2.2 M') → R M') : wp_Search_findTwos M R := by
  intro X hX M8 e8 M9 e9
  have hfc := fc_le m (by omega)
  generalize hB : fo (dC M) n m (itR m (fc m) (List.range m)) (0, 0, []) = B at k
  have key : ∀ (d i : Nat) (l : List Nat) (s : Nat × Nat × List Nat), i + d = fc m → (∀ d', d = d' + 1 → chain m d' l = true) → (itR m d l).all (goodR m) = true → s.1 ≤ 6 → s.2.1 ≤ 5 → fo (dC M) n m (itR m d l) s = B → ∀ M1 : Mem, SE M M1 → M1 22 1 = nI m → RW 23 m l M1 → M1 21 4 = bI (-1) s.1 → M1 21 5 = nI s.2.1 → (0 < s.1 → RW 24 m s.2.2 M1) → X (nI (fc m)) (nI i) M1 := by
    intro d
    induction d with
    | zero =>
      intro i l s hi _ _ _ _ hb M1 fr e22 hr e4 e15 h24
      have hi' : i = fc m := by omega
      have hs : s = B := hb
      subst hs
      exact hX _ _ _ ⟨fun _ => k M1 fr e4 h24, fun z => absurd (by rw [hi']; exact Int32.le_refl _) z⟩
    | succ d ih =>
      intro i l s hi hc hall hs6 hs5 hb M1 fr e22 hr e4 e15 h24
      have hch := hc d rfl
      have okl := chain_ok hch
      obtain ⟨gv, gm, gr⟩ := good_hd (l := l) (rows := itR m d (nx m l)) hall
      have eD := fr.dC
      refine hX _ _ _ ⟨fun z => absurd z (nI_ge (by omega) (by omega)), fun _ => ?_⟩
      have nxt : ∀ (s' : Nat × Nat × List Nat) (M3 : Mem), fo (dC M) n m (itR m d (nx m l)) s' = B → s'.1 ≤ 6 → s'.2.1 ≤ 5 → SE M M3 → M3 22 1 = nI m → RW 23 m l M3 → M3 21 4 = bI (-1) s'.1 → M3 21 5 = nI s'.2.1 → (0 < s'.1 → RW 24 m s'.2.2 M3) → wp_Search_findTwos_46 X R (nI (fc m)) (nI i) M3 := by
        intro s' M3 hb3 l6 l5 fr3 e3 r3 e34 e35 r24
        refine C_next hm (ok_len okl) (ok_lv hm okl) e3 r3 (fun M4 fr4 r4 => ?_)
        intro y ey
        rw [ey, nI_1]
        refine ih (i + 1) (nx m l) s' (by omega) (fun d' ed => ?_) gr l6 l5 hb3 M4 (fr3.tr (fr4.se (fun _ => rfl))) (by rw [fr4 22 (by decide)]; exact e3) r4 (by rw [fr4 21 (by decide)]; exact e34) (by rw [fr4 21 (by decide)]; exact e35) (fun h0 j hj => by rw [fr4 24 (by decide)]; exact r24 h0 j hj)
        subst ed
        exact (chain_lr1 hch).2
      refine C_isMates hm gv e22 hr ?_
      have hb' : fo (dC M) n m (l :: itR m d (nx m l)) s = B := hb
      by_cases c : isMt l m 0 = true
      · rw [if_pos c]
        rw [fo_y c] at hb'
        refine ⟨fun z => absurd z (by decide), fun _ => ?_⟩
        obtain ⟨t1, t2⟩ := tst_le (D := dC M) (n := n) hm gv (gm c) hs6 hs5
        refine C_judge (s := s) hn hm gv (gm c) hs6 hs5 (by rw [fr 12 5 rfl]; exact e5) (by rw [fr 12 6 rfl]; exact e6) e22 hr e4 e15 h24 (fun M2 fr2 j1 j2 j3 j4 j5 => ?_)
        rw [eD] at j3 j4 j5
        exact nxt _ M2 hb' t1 t2 (fr.tr fr2) j1 j2 j3 j4 (fun _ => j5)
      · rw [if_neg c]
        rw [fo_n c] at hb'
        exact ⟨fun _ => nxt s M1 hb' hs6 hs5 fr e22 hr e4 e15 h24, fun z => absurd rfl z⟩
  have f9 : ∀ q, q ≠ 21 → M9 q = M q := fun q hq => by rw [e9, ms_n hq, e8, ms_n hq]
  have se9 : SE M M9 := by rw [e9, e8]; exact (SE.rf.set rfl _).set rfl _
  rw [f9 12 (by decide), e6]
  refine C_rows hm (fun M11 fr11 e22 hr => ?_)
  refine key (fc m) 0 (List.range m) (0, 0, []) (by omega) (fun d' ed => ?_) (good_C m (by omega)) (by decide) (by decide) hB M11 ?_ e22 hr ?_ ?_ (fun z => absurd z (by decide))
  · have := chain_all m (by omega)
    rw [ed] at this
    exact this
  · intro q j e
    rw [fr11 q ?_ ?_]
    · exact se9 q j e
    all_goals
      intro z
      subst z
      cases e
  · rw [fr11 21 (by decide) (by decide), e9, ms_s, up_n (by decide), e8, ms_s, up_s]
    rfl
  · rw [fr11 21 (by decide) (by decide), e9, ms_s, up_s]
    rfl
theorem D_copyRow2 {m : Nat} {l : List Nat} (hm : m ≤ 5) {X : Int32 → Mem → Prop} {P : Mem → Prop} {M : Mem} (e6 : M 29 6 = nI m) (hl : RW 42 m l M) (hX : ∀ (x4 : Int32) (M : Mem), (((M 29 6) ≤ x4 → P M) ∧ (¬ ((M 29 6) ≤ x4) → (vp_in x4 5 ∧ vp_in x4 5 ∧ ∀ M14 : Mem, M14 = mset M 43 x4.toNatClampNeg (M 42 x4.toNatClampNeg) → ∀ x4_15 : Int32, x4_15 = x4 + (1 : Int32) → X x4_15 M14))) → X x4 M) (k : ∀ M', XF 43 M M' → RW 43 m l M' → P M') : X 0 M :=
  D_copyRow (X := fun _ _ => X) (a := 0) (x := 0) hm e6 hl hX k
theorem pw_lt : ∀ m, m < 6 → m ^ m < 4000 := by decide
theorem D_twos15 {n m : Nat} (hn : n ≤ 6) (hm : m ≤ 5) {a : Int32} {M : Mem} {R : Int32 → Mem → Prop} {X29 : Int32 → Int32 → Int32 → Mem → Prop} {X59 : Int32 → Int32 → Int32 → Int32 → Int32 → Mem → Prop} {X115 : Int32 → Int32 → Int32 → Int32 → Int32 → Int32 → Mem → Prop} (h29 : ∀ (x1 : Int32) (x2 : Int32) (x3 : Int32) (M : Mem), wp_Model_twos_29 X29 X59 X115 R x1 x2 x3 M → X29 x1 x2 x3 M) (h59 : ∀ (x1 : Int32) (x2 : Int32) (x3 : Int32) (x4 : Int32) (x5 : Int32) (M : Mem), wp_Model_twos_59 X29 X59 X115 R x1 x2 x3 x4 x5 M → X59 x1 x2 x3 x4 x5 M) (h115 : ∀ (x1 : Int32) (x2 : Int32) (x3 : Int32) (x4 : Int32) (x5 : Int32) (x8 : Int32) (M : Mem), wp_Model_twos_115 X29 X59 X115 R x1 x2 x3 x4 x5 x8 M → X115 x1 x2 x3 x4 x5 x8 M)
    (h0 : ¬ M 29 5 = 0) (e5 : M 29 5 = nI n) (e6 : M 29 6 = nI m) (ok : okD (dM M) n m)
    (k : ∀ M', SE M M' → (0 < (fo (dM M) n m (rowsM m (m ^ m) 0) (0, 0, [])).1 → RW 43 m (fo (dM M) n m (rowsM m (m ^ m) 0) (0, 0, [])).2.2 M') → (((¬ a = (-1 : Int32) → (vp_in a 5 ∧ R (M' 43 a.toNatClampNeg) M')) ∧ (a = (-1 : Int32) → R (bI (-9) (fo (dM M) n m (rowsM m (m ^ m) 0) (0, 0, [])).1) M')))) : wp_Model_twos_15 X29 X59 X115 R a M := by
  refine ⟨fun _ => ?_, fun z => absurd z h0⟩
  have hpw := pw_lt m (by omega)
  have key1 : X59 a (nI (m ^ m)) (-9) 0 0 M → X29 a 1 0 M := by
    intro kk
    have go : ∀ (d i : Nat), i + d = m → X29 a (nI (m ^ i)) (nI i) M := by
      intro d
      induction d with
      | zero =>
        intro i hi
        have : i = m := by omega
        subst this
        exact h29 _ _ _ _ ⟨fun _ => kk, fun z => absurd (by rw [e6]; exact Int32.le_refl _) z⟩
      | succ d ih =>
        intro i hi
        refine h29 _ _ _ _ ⟨fun z => absurd z (by rw [e6]; exact nI_ge (by omega) (by omega)), fun _ => ?_⟩
        intro y ey w ew
        rw [ey, ew, e6, pk_mul, nI_1, ← Nat.pow_succ]
        exact ih (i + 1) (by omega)
    exact go m 0 (by omega)
  apply key1
  generalize hB : fo (dM M) n m (rowsM m (m ^ m) 0) (0, 0, []) = B at k
  have key : ∀ (d i : Nat) (s : Nat × Nat × List Nat), i + d = m ^ m → (rowsM m d i).all (goodR m) = true → s.1 ≤ 6 → s.2.1 ≤ 5 → fo (dM M) n m (rowsM m d i) s = B → ∀ M1 : Mem, SE M M1 → (0 < s.1 → RW 43 m s.2.2 M1) → X59 a (nI (m ^ m)) (bI (-9) s.1) (nI s.2.1) (nI i) M1 := by
    intro d
    induction d with
    | zero =>
      intro i s hi _ _ _ hb M1 fr h43
      have hs : s = B := hb
      subst hs
      exact h59 _ _ _ _ _ _ ⟨fun _ => k M1 fr h43, fun z => absurd (by rw [show i = m ^ m by omega]; exact Int32.le_refl _) z⟩
    | succ d ih =>
      intro i s hi hall hs6 hs5 hb M1 fr h43
      obtain ⟨gv, gm, gr⟩ := good_hd (l := dg m i) (rows := rowsM m d (i + 1)) hall
      have eD := fr.dM
      have g6 : M1 29 6 = nI m := by rw [fr 29 6 rfl]; exact e6
      refine h59 _ _ _ _ _ _ ⟨fun z => absurd z (nI_ge (by omega) (by omega)), fun _ => ?_⟩
      have hb' : fo (dM M) n m (dg m i :: rowsM m d (i + 1)) s = B := hb
      have nxt : ∀ (s' : Nat × Nat × List Nat) (M3 : Mem), fo (dM M) n m (rowsM m d (i + 1)) s' = B → s'.1 ≤ 6 → s'.2.1 ≤ 5 → SE M M3 → (0 < s'.1 → RW 43 m s'.2.2 M3) → wp_Model_twos_144 X29 X59 X115 R a (nI (m ^ m)) (bI (-9) s'.1) (nI s'.2.1) (nI i) M3 := by
        intro s' M3 hb3 l6 l5 fr3 r43
        intro y ey
        rw [ey, nI_1]
        exact ih (i + 1) s' (by omega) gr l6 l5 hb3 M3 fr3 r43
      refine D_lay hm (by omega) gv g6 (fun M2 fr2 r42 => ?_)
      have se2 := fr.tr (fr2.se (fun _ => rfl))
      have g62 : M2 29 6 = nI m := by rw [fr2 29 (by decide)]; exact g6
      have r43 : 0 < s.1 → RW 43 m s.2.2 M2 := fun h0 j hj => by rw [fr2 43 (by decide)]; exact h43 h0 j hj
      by_cases c : isMt (dg m i) m 0 = true
      rotate_left
      · rw [if_neg c]
        rw [fo_n c] at hb'
        exact ⟨fun _ => nxt s M2 hb' hs6 hs5 se2 r43, fun z => absurd rfl z⟩
      rw [if_pos c]
      rw [fo_y c] at hb'
      have gm' := gm c
      obtain ⟨q1, q2, q3⟩ := jg_c (D := dM M) (n := n) hm gv gm'
      obtain ⟨t1, t2⟩ := tst_le (D := dM M) (n := n) hm gv gm' hs6 hs5
      have eD2 : dM M2 = dM M := se2.dM
      generalize dg m i = l at *
      refine ⟨fun z => absurd z (by decide), fun _ => ?_⟩
      refine D_judge hn hm gv gm' (by rw [se2 29 5 rfl]; exact e5) g62 (by rw [eD2]; exact ok) r42 (fun M3 fr3 h18 => ?_)
      rw [eD2] at h18 ⊢
      have g63 : M3 29 6 = nI m := by rw [fr3.2 6 (by decide)]; exact g62
      have r423 : RW 42 m l M3 := fun j hj => by rw [fr3.1 42 (by decide) (by decide) (by decide)]; exact r42 j hj
      have r433 : 0 < s.1 → RW 43 m s.2.2 M3 := fun h0 j hj => by rw [fr3.1 43 (by decide) (by decide) (by decide)]; exact r43 h0 j hj
      have se3 := se2.tr fr3.se
      refine D_throughJ hm gv gm' g63 h18 ?_
      have hkeep : s.1 < (jg (dM M) n m l m).2.1 + 1 ∨ ((jg (dM M) n m l m).2.1 + 1 = s.1 ∧ (jg (dM M) n m l m).2.2.1 < s.2.1) → wp_Model_twos_105 X29 X59 X115 R a (nI (m ^ m)) (nI i) (nI (jg (dM M) n m l m).2.2.1) (nI (jg (dM M) n m l m).2.1) M3 := by
        intro hk
        have es : tst (dM M) n m s l = ((jg (dM M) n m l m).2.1 + 1, (jg (dM M) n m l m).2.2.1, l) := by unfold tst; rw [if_pos hk]
        rw [es] at hb' t1 t2
        refine D_copyRow2 hm (X := fun x8 M => X115 a (nI (m ^ m)) (nI (jg (dM M3) n m l m).2.1) (nI (jg (dM M3) n m l m).2.2.1) (nI i) x8 M) (P := fun M => wp_Model_twos_144 X29 X59 X115 R a (nI (m ^ m)) (nI (jg (dM M3) n m l m).2.1) (nI (jg (dM M3) n m l m).2.2.1) (nI i) M) g63 r423 (fun x4 M hh => h115 _ _ _ _ _ _ _ hh) (fun M4 fr4 r4 => ?_) |> fun w => by rw [show dM M3 = dM M from se3.dM] at w; exact w
        rw [show dM M3 = dM M from se3.dM]
        exact nxt _ M4 hb' t1 t2 (se3.tr (fr4.se (fun _ => rfl))) (fun _ => r4)
      have hskip : ¬ (s.1 < (jg (dM M) n m l m).2.1 + 1 ∨ ((jg (dM M) n m l m).2.1 + 1 = s.1 ∧ (jg (dM M) n m l m).2.2.1 < s.2.1)) → wp_Model_twos_144 X29 X59 X115 R a (nI (m ^ m)) (bI (-9) s.1) (nI s.2.1) (nI i) M3 := by
        intro hk
        have es : tst (dM M) n m s l = s := by unfold tst; rw [if_neg hk]
        rw [es] at hb'
        exact nxt s M3 hb' hs6 hs5 se3 r433
      have i1 := bI_lt (x := -9) (Or.inr rfl) hs6 (show (jg (dM M) n m l m).2.1 ≤ 5 by omega)
      refine ⟨fun z => hkeep (Or.inl (i1.mp z)), fun z => ?_⟩
      have z' : ¬ s.1 < (jg (dM M) n m l m).2.1 + 1 := fun t => z (i1.mpr t)
      have i2 := bI_eq (x := -9) (b := s.1) (by omega) hs6 (show (jg (dM M) n m l m).2.1 ≤ 5 by omega)
      have i3 := le_nI (a := s.2.1) (b := (jg (dM M) n m l m).2.2.1) (by omega) (by omega)
      refine ⟨fun t => hskip (fun u => ?_), fun t => ⟨fun u => hskip (fun v => ?_), fun u => hkeep (Or.inr ⟨i2.mp t, ?_⟩)⟩⟩
      · rcases u with u | u
        · exact z' u
        · exact t (i2.mpr u.1)
      · have := i3.mp u
        omega
      · have : ¬ s.2.1 ≤ (jg (dM M) n m l m).2.2.1 := fun v => u (i3.mpr v)
        omega
  exact key (m ^ m) 0 (0, 0, []) (by omega) (good_M m (by omega)) (by decide) (by decide) hB M SE.rf (fun z => absurd z (by decide))
