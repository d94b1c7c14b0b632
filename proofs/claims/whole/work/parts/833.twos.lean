theorem D_judge {n m : Nat} {l : List Nat} (hn : n ≤ 6) (hm : m ≤ 5) (hv : okV2 m l = true) (hok : okM m l = true) {M : Mem} {R : Int32 → Mem → Prop} (e5 : M 29 5 = nI n) (e6 : M 29 6 = nI m) (ok : okD (dM M) n m) (hl : RW 42 m l M)
    (k : ∀ M', MF M M' → M' 29 18 = nI (jg (dM M) n m l m).2.2.2 → R (nI (jg (dM M) n m l m).2.2.1) M') : wp_Model_goMates M R := by
  intro X hX
  refine D_begin hn hm e5 e6 (fun M1 f1 f2 f3 f4 => ?_)
  have key : ∀ (d i : Nat), i + d = m → ∀ M2 : Mem, MF M M2 → (∀ h, h < n → M2 41 h = (jg (dM M) n m l i).1 h) → M2 29 18 = nI (jg (dM M) n m l i).2.2.2 → X (nI (jg (dM M) n m l i).2.2.1) (nI i) M2 := by
    intro d
    induction d with
    | zero =>
      intro i hi M2 fr hr h18
      have : i = m := by omega
      subst this
      exact hX _ _ _ ⟨fun _ => k M2 fr h18, fun z => absurd (by rw [fr.2 6 (by decide), e6]; exact Int32.le_refl _) z⟩
    | succ d ih =>
      intro i hi M2 fr hr h18
      have hg := okV2_at hv (i := i) (by omega)
      obtain ⟨a1, a2, a3, a4, a5⟩ := jg_inv (D := dM M) (n := n) hm hv hok i (by omega)
      have eD := fr.dM
      have ih' := ih (i + 1) (by omega)
      rw [show jg (dM M) n m l (i + 1) = jgS (dM M) n m l (jg (dM M) n m l i) i from rfl] at ih'
      generalize jg (dM M) n m l i = t at *
      unfold jgS at ih'
      refine hX _ _ _ ⟨fun z => absurd z (by rw [fr.2 6 (by decide), e6]; exact nI_ge (by omega) (by omega)), fun _ => ⟨vp_in_nI (by omega) (by omega), ?_⟩⟩
      rw [nI_clamp (by omega), fr.1 42 (by decide) (by decide) (by decide), hl i (by omega)]
      refine ⟨fun z => ?_, fun z => ⟨vp_in_nI (by omega) (by omega), ?_⟩⟩
      · have z' : gt l i < i := by
          rcases Nat.lt_or_ge (gt l i) i with c | c
          · exact c
          · exact absurd z (nI_nlt c (by omega))
        rw [if_pos z'] at ih'
        intro y ey
        rw [ey, nI_1]
        exact ih' M2 fr hr h18
      · have z' : ¬ gt l i < i := fun c => z (nI_lt c (by omega))
        rw [if_neg z'] at ih'
        dsimp only at ih'
        have al := aM_lt (l := l) (g := i) (by omega) (by omega)
        have dis := okM_at hok (i := i) (by omega) z'
        have dL := pcF2 _ a2 _ a1 _ al a3 dis
        have ey' : (1 : Int32) <<< (nI i &&& (31 : Int32)) ||| (1 : Int32) <<< (nI (gt l i) &&& (31 : Int32)) = nI (aM l i) := by
          unfold aM
          rw [← fa_or, ← bit_pow i (by omega), ← bit_pow (gt l i) (by omega)]
          rfl
        rw [ey']
        obtain ⟨w1, w2⟩ := wk_cong (D := dM M) (n := n) (set := grD (dM M) (aM l i) m) n 0 (M2 41) t.1 (by omega) hr
        refine D_goThrough al a2 (by rw [Nat.and_comm]; exact dL) (aM_ne i (by omega) (gt l i) (by omega)) hn hm (by rw [fr.2 5 (by decide)]; exact e5) (by rw [fr.2 6 (by decide)]; exact e6) h18 (by rw [eD]; exact ok) (fun M3 fr3 g41 g18 _ => ?_)
        rw [eD, w1] at g18
        rw [eD] at g41
        intro y ey y2 ey2
        rw [ey, ey2, nI_1, nI_1]
        refine ih' M3 (fr.tr fr3) (fun h hh => by rw [g41]; exact w2 h hh) ?_
        rw [g18]
        by_cases v : (wk (dM M) (grD (dM M) (aM l i) m) n 0 t.1).1 = -9
        · rw [if_pos v, if_pos v]
        · rw [if_neg v, if_neg v]
  exact key m 0 (by omega) M1 f1 f2 f4
theorem D_throughJ {n m : Nat} {D : Mem} {l : List Nat} (hm : m ≤ 5) (hv : okV2 m l = true) (hok : okM m l = true) {M : Mem} {R : Int32 → Mem → Prop} (e6 : M 29 6 = nI m) (e18 : M 29 18 = nI (jg D n m l m).2.2.2) (k : R (nI (jg D n m l m).2.1) M) : wp_Model_throughNow M R := by
  obtain ⟨q1, q2, q3⟩ := jg_c (D := D) (n := n) hm hv hok
  unfold wp_Model_throughNow
  rw [e18]
  refine D_size (Nat.lt_trans q3 (by decide)) ?_
  rw [e6, pk_sub (by omega), show m - pc (jg D n m l m).2.2.2 = (jg D n m l m).2.1 by omega]
  exact k
def isM (m : Nat) (l : List Nat) : Bool := (List.range m).all (fun i => decide (gt l (gt l i) = i))
def isMt (l : List Nat) : Nat → Nat → Bool
  | 0, _ => true
  | d + 1, i => decide (gt l (gt l i) = i) && isMt l d (i + 1)
def itR (m : Nat) : Nat → List Nat → List (List Nat)
  | 0, _ => []
  | d + 1, l => l :: itR m d (nx m l)
def dg (m i : Nat) : List Nat := (List.range m).map (fun p => i / m ^ (m - 1 - p) % m)
def rowsM (m : Nat) : Nat → Nat → List (List Nat)
  | 0, _ => []
  | d + 1, i => dg m i :: rowsM m d (i + 1)
def goodR (m : Nat) (l : List Nat) : Bool := okV2 m l && (!(isMt l m 0) || okM m l)
theorem good_C : ∀ m, m < 6 → (itR m (fc m) (List.range m)).all (goodR m) = true := by decide +kernel
theorem good_M : ∀ m, m < 6 → (rowsM m (m ^ m) 0).all (goodR m) = true := by decide +kernel
theorem same_R : ∀ m, m < 6 → (itR m (fc m) (List.range m)).filter (fun l => isMt l m 0) = (rowsM m (m ^ m) 0).filter (fun l => isMt l m 0) := by decide +kernel
theorem C_isMates {m : Nat} {l : List Nat} (hm : m ≤ 5) (hv : okV2 m l = true) {M : Mem} {R : Int32 → Mem → Prop} (e : M 22 1 = nI m) (hl : RW 23 m l M) (k : R (if isMt l m 0 = true then 1 else 0) M) : wp_Orders_isOfMates M R := by
  intro X hX
  have key : ∀ (d i : Nat), i + d = m → R (if isMt l d i = true then 1 else 0) M → X (nI i) M := by
    intro d
    induction d with
    | zero =>
      intro i hi kk
      have : i = m := by omega
      subst this
      exact hX _ _ ⟨fun _ => kk, fun z => absurd (by rw [e]; exact Int32.le_refl _) z⟩
    | succ d ih =>
      intro i hi kk
      have hg := okV2_at hv (i := i) (by omega)
      have hg2 := okV2_at hv (i := gt l i) hg
      rw [show isMt l (d + 1) i = (decide (gt l (gt l i) = i) && isMt l d (i + 1)) from rfl] at kk
      refine hX _ _ ⟨fun z => absurd z (by rw [e]; exact nI_ge (by omega) (by omega)), fun _ => ⟨vp_in_nI (by omega) (by omega), ?_⟩⟩
      rw [nI_clamp (by omega), hl i (by omega)]
      refine ⟨vp_in_nI (by omega) (by omega), ?_⟩
      rw [nI_clamp (by omega), hl _ hg]
      have iq := nI_eq (a := gt l (gt l i)) (b := i) (by omega) (by omega)
      refine ⟨fun z => ?_, fun z => ?_⟩
      · have z' := iq.mp z
        intro y ey
        rw [ey, nI_1]
        refine ih (i + 1) (by omega) ?_
        rw [decide_eq_true z', Bool.true_and] at kk
        exact kk
      · have z' : ¬ gt l (gt l i) = i := fun t => z (iq.mpr t)
        rw [decide_eq_false z', Bool.false_and] at kk
        exact kk
  exact key m 0 (by omega) k
theorem dg_gt {m i p : Nat} (hp : p < m) : gt (dg m i) p = i / m ^ (m - 1 - p) % m := by
  show (dg m i).getD p 0 = _
  rw [List.getD_eq_getElem?_getD]
  unfold dg
  rw [List.getElem?_map, List.getElem?_range hp]
  rfl
theorem D_lay {m v : Nat} (hm : m ≤ 5) (hv : v < 2 ^ 20) (hd : okV2 m (dg m v) = true) {M : Mem} {R : Int32 → Mem → Prop} (e : M 29 6 = nI m) (k : ∀ M', XF 42 M M' → RW 42 m (dg m v) M' → R (if isMt (dg m v) m 0 = true then 1 else 0) M') : wp_Model_layMates (nI v) M R := by
  intro X Y hX hY x ex
  have key2 : ∀ M1 : Mem, XF 42 M M1 → RW 42 m (dg m v) M1 → ∀ (d i : Nat), i + d = m → isMt (dg m v) d i = isMt (dg m v) m 0 → Y (nI i) M1 := by
    intro M1 fr hl d
    have g6 : M1 29 6 = nI m := by rw [fr 29 (by decide)]; exact e
    have k1 := k M1 fr hl
    generalize dg m v = l at *
    induction d with
    | zero =>
      intro i hi kk
      have : i = m := by omega
      subst this
      rw [← kk] at k1
      exact hY _ _ ⟨fun _ => k1, fun z => absurd (by rw [g6]; exact Int32.le_refl _) z⟩
    | succ d ih =>
      intro i hi kk
      have hg := okV2_at hd (i := i) (by omega)
      have hg2 := okV2_at hd (i := gt l i) hg
      rw [show isMt l (d + 1) i = (decide (gt l (gt l i) = i) && isMt l d (i + 1)) from rfl] at kk
      refine hY _ _ ⟨fun z => absurd z (by rw [g6]; exact nI_ge (by omega) (by omega)), fun _ => ⟨vp_in_nI (by omega) (by omega), ?_⟩⟩
      rw [nI_clamp (by omega), hl i (by omega)]
      refine ⟨vp_in_nI (by omega) (by omega), ?_⟩
      rw [nI_clamp (by omega), hl _ hg]
      have iq := nI_eq (a := gt l (gt l i)) (b := i) (by omega) (by omega)
      refine ⟨fun z => ?_, fun z => ?_⟩
      · have z' := iq.mp z
        intro y ey
        rw [ey, nI_1]
        refine ih (i + 1) (by omega) ?_
        rw [decide_eq_true z', Bool.true_and] at kk
        exact kk
      · have z' : ¬ gt l (gt l i) = i := fun t => z (iq.mpr t)
        rw [decide_eq_false z', Bool.false_and] at kk
        rw [← kk] at k1
        exact k1
  have key : ∀ j, j ≤ m → ∀ M1 : Mem, XF 42 M M1 → (∀ p, j ≤ p → p < m → M1 42 p = nI (gt (dg m v) p)) → X (nI (v / m ^ (m - j))) (rI j) M1 := by
    intro j
    induction j with
    | zero =>
      intro _ M1 fr hr
      refine hX _ _ _ ⟨fun _ => key2 M1 fr (fun p hp => hr p (by omega) hp) m 0 (by omega) rfl, fun z => absurd (by decide) z⟩
    | succ j ih =>
      intro hj M1 fr hr
      have g6 : M1 29 6 = nI m := by rw [fr 29 (by decide)]; exact e
      have vl : v / m ^ (m - (j + 1)) ≤ v := Nat.div_le_self _ _
      refine hX _ _ _ ⟨fun z => absurd z (nI_pos (n := j) (by omega)), fun _ => ⟨by rw [g6]; exact nI_ne0 (by omega) (by omega), vp_in_nI (by omega) (by omega), ?_⟩⟩
      intro M4 e4
      have e4' : M4 = mset M1 42 j (nI (gt (dg m v) j)) := by
        rw [e4, g6, nI_rem (by omega) (by omega) (by omega), dg_gt (by omega)]
        show mset M1 42 (nI j).toNatClampNeg _ = _
        rw [nI_clamp (by omega), show m - (j + 1) = m - 1 - j by omega]
      have g64 : M4 29 6 = nI m := by rw [e4', ms_n (by decide)]; exact g6
      refine ⟨by rw [g64]; exact nI_ne0 (by omega) (by omega), ?_⟩
      intro y ey w ew
      have ew' : w = rI j := by
        rw [ew]
        cases j with
        | zero => decide
        | succ j => exact pk_m1 j
      rw [g64, pk_div (by omega) (by omega) (by omega), Nat.div_div_eq_div_mul, ← Nat.pow_succ, show (m - (j + 1)).succ = m - j by omega] at ey
      rw [ey, ew']
      refine ih (by omega) M4 (fun q hq => by rw [e4', ms_n hq]; exact fr q hq) ?_
      intro p h1 h2
      rw [e4', ms_s]
      by_cases c : p = j
      · rw [c, up_s]
      · rw [up_n c]
        exact hr p (by omega) h2
  have : x = rI m := by
    rw [ex, e]
    rcases (show m = 0 ∨ m = 1 ∨ m = 2 ∨ m = 3 ∨ m = 4 ∨ m = 5 by omega) with rfl | rfl | rfl | rfl | rfl | rfl <;> decide
  have go := key m (Nat.le_refl _) M XF.rf (fun p h1 h2 => by omega)
  rw [Nat.sub_self, Nat.pow_zero, Nat.div_one] at go
  rw [this]
  exact go
