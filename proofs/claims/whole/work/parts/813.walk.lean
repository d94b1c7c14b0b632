/-! the reference's walk -/
def MF (M M' : Mem) : Prop := (∀ q, q ≠ 29 → q ≠ 40 → q ≠ 41 → M' q = M q) ∧ ∀ j, j ≠ 18 → M' 29 j = M 29 j
theorem MF.rf {M : Mem} : MF M M := ⟨fun _ _ _ _ => rfl, fun _ _ => rfl⟩
theorem MF.tr {M M1 M2 : Mem} (h : MF M M1) (h2 : MF M1 M2) : MF M M2 := ⟨fun q a b c => (h2.1 q a b c).trans (h.1 q a b c), fun j a => (h2.2 j a).trans (h.2 j a)⟩
theorem MF.se {M M' : Mem} (h : MF M M') : SE M M' := by
  intro k j e
  by_cases c29 : k = 29
  · subst c29
    refine h.2 j ?_
    intro z
    subst z
    cases e
  · rw [h.1 k c29]
    all_goals
      intro z
      subst z
      cases e
theorem MF.dM {M M' : Mem} (h : MF M M') : dM M' = dM M := by
  funext i
  match i with
  | 0 => exact h.1 33 (by decide) (by decide) (by decide)
  | 1 => exact h.1 34 (by decide) (by decide) (by decide)
  | 2 => exact h.1 35 (by decide) (by decide) (by decide)
  | 3 => exact h.1 36 (by decide) (by decide) (by decide)
  | 4 => exact h.1 37 (by decide) (by decide) (by decide)
  | _ + 5 => show (fun _ => M' 29 12) = fun _ => M 29 12; rw [h.2 12 (by decide)]
theorem P3 : ∀ a, a < 32 → ∀ b, b < 32 → nI a &&& (nI b ^^^ (-1 : Int32)) = nI (a &&& (31 ^^^ b)) := by decide +kernel
theorem P4 : ∀ a, a < 32 → ∀ b, b < 32 → a &&& (31 ^^^ (b ||| a)) = 0 := by decide +kernel
theorem P5 : ∀ a, a < 32 → ∀ b, b < 32 → a &&& b = 0 → a &&& (31 ^^^ b) = a := by decide +kernel
/-- a party that is lost in house h -/
def lsR (a m : Nat) (h : Int32) (f : Nat → Int32) : Nat → Int32 := fun g => if g < m ∧ inP a g = true then h else f g
theorem D_visit {a b n m h : Nat} (ha : a < 32) (hb : b < 32) (h0 : a &&& (31 ^^^ b) ≠ 0) (hn : n ≤ 6) (hh : h < n) (hm : m ≤ 5) {M : Mem} {R : Int32 → Mem → Prop} (e6 : M 29 6 = nI m) (e18 : M 29 18 = nI b) (ok : okD (dM M) n m)
    (ky : ¬ usD (dM M) h (grD (dM M) (a &&& (31 ^^^ b)) m) (M 41 h) = -9 → R 0 (mrow M 41 (lrn (dM M) h (usD (dM M) h (grD (dM M) (a &&& (31 ^^^ b)) m) (M 41 h)) (M 41))))
    (kn : usD (dM M) h (grD (dM M) (a &&& (31 ^^^ b)) m) (M 41 h) = -9 → ∀ M', (∀ q, q ≠ 29 → q ≠ 40 → M' q = M q) → (∀ j, j ≠ 18 → M' 29 j = M 29 j) → M' 29 18 = nI (b ||| (a &&& (31 ^^^ b))) → M' 40 = lsR (a &&& (31 ^^^ b)) m (nI h) (M 40) → R 1 M') : wp_Model_visit (nI a) (nI h) M R := by
  intro X hX y ey
  rw [e18, P3 a ha b hb] at ey
  subst ey
  have hc32 : a &&& (31 ^^^ b) < 32 := Nat.lt_of_le_of_lt Nat.and_le_left ha
  generalize a &&& (31 ^^^ b) = c at *
  have hin : vp_in (nI h) 6 := vp_in_nI (by omega) (by omega)
  have hcl : (nI h).toNatClampNeg = h := nI_clamp (by omega)
  rw [hcl]
  refine ⟨fun _ => D_gear hc32 hm e6 ⟨hin, ?_⟩, fun z => absurd z (nI_ne0 (by omega) (by omega))⟩
  obtain ⟨z, hz, ez⟩ := grD_lt ok c m (Nat.le_refl m)
  rw [ez] at ky kn ⊢
  refine D_used (n := n) (m := m) hn hh hz ok ⟨fun c1 => ?_, fun c1 => ?_⟩
  · intro M15 e15
    have hloop : ∀ (d g : Nat), g + d = m → ∀ M1 : Mem, (∀ q, q ≠ 40 → M1 q = M15 q) → (∀ i, M1 40 i = if i < g ∧ inP c i = true then nI h else M 40 i) → X (nI h) (nI c) (nI g) M1 := by
      intro d
      induction d with
      | zero =>
        intro g hg M1 f1 f2
        have : g = m := by omega
        subst this
        refine hX _ _ _ _ ⟨fun _ => kn c1 M1 ?_ ?_ ?_ ?_, fun z => absurd (by rw [f1 29 (by decide), e15, ms_s, up_n (by decide), e6]; exact Int32.le_refl _) z⟩
        · intro q q1 q2
          rw [f1 q q2, e15, ms_n q1]
        · intro j hj
          rw [f1 29 (by decide), e15, ms_s, up_n hj]
        · rw [f1 29 (by decide), e15, ms_s, up_s, e18, fa_or]
        · funext i
          exact f2 i
      | succ d ih =>
        intro g hg M1 f1 f2
        have g5 : vp_in (nI g) 5 := vp_in_nI (by omega) (by omega)
        have gc : (nI g).toNatClampNeg = g := nI_clamp (by omega)
        refine hX _ _ _ _ ⟨fun z => absurd z (by rw [f1 29 (by decide), e15, ms_s, up_n (by decide), e6]; exact nI_ge (by omega) (by omega)), fun _ => ⟨fun cc => ?_, fun cc => ?_⟩⟩
        · refine ⟨g5, ?_⟩
          unfold wp_Model_visit_116
          rw [gc]
          refine ⟨g5, ?_⟩
          intro M5 e5 x ex
          rw [ex, nI_1]
          refine ih (g + 1) (by omega) M5 (fun q hq => by rw [e5, ms_n hq]; exact f1 q hq) (fun i => ?_)
          rw [e5, ms_s]
          have cc' : ¬ inP c g = true := fun z => cc ((P2 c hc32 g (by omega)).mpr z)
          by_cases hi : i = g
          · subst hi
            rw [up_s, f2, if_neg (by omega), if_neg (fun z => cc' z.2)]
          · rw [up_n hi, f2]
            by_cases hz : i < g ∧ inP c i = true
            · rw [if_pos hz, if_pos ⟨by omega, hz.2⟩]
            · rw [if_neg hz, if_neg (fun w => hz ⟨by omega, w.2⟩)]
        · unfold wp_Model_visit_116
          rw [gc]
          refine ⟨g5, ?_⟩
          intro M5 e5 x ex
          rw [ex, nI_1]
          refine ih (g + 1) (by omega) M5 (fun q hq => by rw [e5, ms_n hq]; exact f1 q hq) (fun i => ?_)
          rw [e5, ms_s]
          have cc' := (P2 c hc32 g (by omega)).mp cc
          by_cases hi : i = g
          · subst hi
            rw [up_s, if_pos ⟨by omega, cc'⟩]
          · rw [up_n hi, f2]
            by_cases hz : i < g ∧ inP c i = true
            · rw [if_pos hz, if_pos ⟨by omega, hz.2⟩]
            · rw [if_neg hz, if_neg (fun w => hz ⟨by omega, w.2⟩)]
    refine hloop m 0 (by omega) M15 (fun _ _ => rfl) (fun i => ?_)
    rw [if_neg (by omega), e15, ms_n (by decide)]
  · have k := ky c1
    unfold lrn at k
    refine ⟨hin, hin, fun c2 => ⟨hin, ?_⟩, fun c2 => ⟨hin, ?_⟩⟩
    · have c2' : ¬ dM M 0 h = 2 := c2
      rw [if_neg c2', mr_self rfl] at k
      intro M20 e20
      rw [or0] at e20
      have : M20 = M := by
        rw [e20]
        funext q
        by_cases hq : q = 41
        · subst hq
          rw [ms_s]
          funext i
          unfold upd
          by_cases hi : i = h
          · rw [if_pos hi, hi]
          · rw [if_neg hi]
        · rw [ms_n hq]
      rw [this]
      exact k
    · have c2' : dM M 0 h = 2 := c2
      rw [if_pos c2'] at k
      intro M22 e22
      rw [e22]
      exact k
theorem D_visit0 {a b : Nat} (ha : a < 32) (hb : b < 32) (h0 : a &&& (31 ^^^ b) = 0) {h : Int32} {M : Mem} {R : Int32 → Mem → Prop} (e18 : M 29 18 = nI b) (k : R 0 M) : wp_Model_visit (nI a) h M R := by
  intro X hX y ey
  rw [e18, P3 a ha b hb, h0] at ey
  subst ey
  exact ⟨fun z => absurd rfl z, fun _ => k⟩
theorem D_goThrough {a b n m : Nat} (ha : a < 32) (hb : b < 32) (hab : a &&& b = 0) (h0 : a ≠ 0) (hn : n ≤ 6) (hm : m ≤ 5) {M : Mem} {R : Mem → Prop} (e5 : M 29 5 = nI n) (e6 : M 29 6 = nI m) (e18 : M 29 18 = nI b) (ok : okD (dM M) n m)
    (k : ∀ M', MF M M' → M' 41 = (wk (dM M) (grD (dM M) a m) n 0 (M 41)).2 → M' 29 18 = (if (wk (dM M) (grD (dM M) a m) n 0 (M 41)).1 = -9 then nI b else nI (b ||| a)) → M' 40 = (if (wk (dM M) (grD (dM M) a m) n 0 (M 41)).1 = -9 then M 40 else lsR a m (wk (dM M) (grD (dM M) a m) n 0 (M 41)).1 (M 40)) → R M') : wp_Model_goThrough (nI a) M R := by
  intro X hX
  have hl := P5 a ha b hb hab
  -- behind the loss nothing comes
  have post : ∀ (M' : Mem), M' 29 5 = nI n → M' 29 18 = nI (b ||| a) → R M' → ∀ (d h : Nat), h + d = n → X (nI a) (nI h) M' := by
    intro M' f5 f18 kk d
    induction d with
    | zero =>
      intro h hh
      have : h = n := by omega
      subst this
      exact hX _ _ _ ⟨fun _ => kk, fun z => absurd (by rw [f5]; exact Int32.le_refl _) z⟩
    | succ d ih =>
      intro h hh
      refine hX _ _ _ ⟨fun z => absurd z (by rw [f5]; exact nI_ge (by omega) (by omega)), fun _ => D_visit0 ha (Nat.or_lt_two_pow (n := 5) hb ha) (P4 a ha b hb) f18 ?_⟩
      intro y ey
      rw [ey, nI_1]
      exact ih (h + 1) (by omega)
  have key : ∀ (d h : Nat) (K : Nat → Int32), h + d = n → wk (dM M) (grD (dM M) a m) n 0 (M 41) = wk (dM M) (grD (dM M) a m) d h K → X (nI a) (nI h) (mrow M 41 K) := by
    intro d
    induction d with
    | zero =>
      intro h K hh ew
      have : h = n := by omega
      subst this
      refine hX _ _ _ ⟨fun _ => ?_, fun z => absurd (by rw [mr_n (by decide), e5]; exact Int32.le_refl _) z⟩
      have ew1 : (wk (dM M) (grD (dM M) a m) h 0 (M 41)).1 = -9 := by rw [ew]; rfl
      have ew2 : (wk (dM M) (grD (dM M) a m) h 0 (M 41)).2 = K := by rw [ew]; rfl
      refine k _ ⟨fun q q1 q2 q3 => mr_n q3, fun j _ => by rw [mr_n (by decide)]⟩ ?_ ?_ ?_
      · rw [mr_s, ew2]
      · rw [if_pos ew1, mr_n (by decide), e18]
      · rw [if_pos ew1, mr_n (by decide)]
    | succ d ih =>
      intro h K hh ew
      have fr : MF M (mrow M 41 K) := ⟨fun q q1 q2 q3 => mr_n q3, fun j _ => by rw [mr_n (by decide)]⟩
      have eD := fr.dM
      have e41 : mrow M 41 K 41 = K := mr_s
      rw [wk_succ] at ew
      refine hX _ _ _ ⟨fun z => absurd z (by rw [mr_n (by decide), e5]; exact nI_ge (by omega) (by omega)), fun _ => D_visit (b := b) (n := n) (m := m) ha hb (by rw [hl]; exact h0) hn (by omega) hm (by rw [mr_n (by decide)]; exact e6) (by rw [mr_n (by decide)]; exact e18) (by rw [eD]; exact ok) ?_ ?_⟩
      · rw [eD, e41, hl, mr_mr]
        intro c
        rw [if_neg c] at ew
        intro y ey
        rw [ey, nI_1]
        exact ih (h + 1) _ (by omega) ew
      · rw [eD, e41, hl]
        intro c M' g1 g2 g3 g4
        rw [if_pos c] at ew
        have w1 : (wk (dM M) (grD (dM M) a m) n 0 (M 41)).1 = nI h := by rw [ew]
        have w2 : (wk (dM M) (grD (dM M) a m) n 0 (M 41)).2 = K := by rw [ew]
        have w9 : ¬ nI h = -9 := by
          have : ∀ z, z < 6 → ¬ nI z = -9 := by decide
          exact this h (by omega)
        intro y ey
        rw [ey, nI_1]
        refine post M' ?_ g3 (k M' ⟨fun q q1 q2 q3 => by rw [g1 q q1 q2, mr_n q3], fun j hj => by rw [g2 j hj, mr_n (by decide)]⟩ ?_ ?_ ?_) d (h + 1) (by omega)
        · rw [g2 5 (by decide), mr_n (by decide), e5]
        · rw [g1 41 (by decide) (by decide), mr_s, w2]
        · rw [w1, if_neg w9, g3]
        · rw [w1, if_neg w9, g4, mr_n (by decide)]
  have := key n 0 (M 41) (by omega) rfl
  rw [mr_self rfl] at this
  exact this
theorem D_begin {n m : Nat} (hn : n ≤ 6) (hm : m ≤ 5) {M : Mem} {R : Mem → Prop} (e5 : M 29 5 = nI n) (e6 : M 29 6 = nI m) (k : ∀ M', MF M M' → (∀ h, h < n → M' 41 h = 0) → (∀ g, g < m → M' 40 g = -9) → M' 29 18 = 0 → R M') : wp_Model_begin M R := by
  intro X7 X31 hX7 hX31 M9 e9
  have fr9 : MF M M9 := ⟨fun q q1 _ _ => by rw [e9, ms_n q1], fun j hj => by rw [e9, ms_s, up_n hj]⟩
  have f18 : M9 29 18 = 0 := by rw [e9, ms_s, up_s]
  have l31 : ∀ (d h : Nat), h + d = n → ∀ M1 : Mem, MF M M1 → M1 29 18 = 0 → (∀ g, g < m → M1 40 g = -9) → (∀ i, i < h → M1 41 i = 0) → X31 (nI h) M1 := by
    intro d
    induction d with
    | zero =>
      intro h hh M1 fr g18 g40 g41
      have : h = n := by omega
      subst this
      exact hX31 _ _ ⟨fun _ => k M1 fr g41 g40 g18, fun z => absurd (by rw [fr.2 5 (by decide), e5]; exact Int32.le_refl _) z⟩
    | succ d ih =>
      intro h hh M1 fr g18 g40 g41
      refine hX31 _ _ ⟨fun z => absurd z (by rw [fr.2 5 (by decide), e5]; exact nI_ge (by omega) (by omega)), fun _ => ⟨vp_in_nI (by omega) (by omega), ?_⟩⟩
      intro M7 e7 x ex
      rw [nI_clamp (by omega)] at e7
      rw [ex, nI_1]
      refine ih (h + 1) (by omega) M7 (fr.tr ⟨fun q _ _ q3 => by rw [e7, ms_n q3], fun j _ => by rw [e7, ms_n (by decide)]⟩) (by rw [e7, ms_n (by decide)]; exact g18) (fun g hg => by rw [e7, ms_n (by decide)]; exact g40 g hg) (fun i hi => ?_)
      rw [e7, ms_s]
      by_cases c : i = h
      · rw [c, up_s]
      · rw [up_n c]
        exact g41 i (by omega)
  have l7 : ∀ (d g : Nat), g + d = m → ∀ M1 : Mem, MF M M1 → M1 29 18 = 0 → (∀ i, i < g → M1 40 i = -9) → X7 (nI g) M1 := by
    intro d
    induction d with
    | zero =>
      intro g hg M1 fr g18 g40
      have : g = m := by omega
      subst this
      refine hX7 _ _ ⟨fun _ => l31 n 0 (by omega) M1 fr g18 g40 (fun i hi => by omega), fun z => absurd (by rw [fr.2 6 (by decide), e6]; exact Int32.le_refl _) z⟩
    | succ d ih =>
      intro g hg M1 fr g18 g40
      refine hX7 _ _ ⟨fun z => absurd z (by rw [fr.2 6 (by decide), e6]; exact nI_ge (by omega) (by omega)), fun _ => ⟨vp_in_nI (by omega) (by omega), ?_⟩⟩
      intro M3 e3 x ex
      rw [nI_clamp (by omega)] at e3
      rw [ex, nI_1]
      refine ih (g + 1) (by omega) M3 (fr.tr ⟨fun q _ q2 _ => by rw [e3, ms_n q2], fun j _ => by rw [e3, ms_n (by decide)]⟩) (by rw [e3, ms_n (by decide)]; exact g18) (fun i hi => ?_)
      rw [e3, ms_s]
      by_cases c : i = g
      · rw [c, up_s]
      · rw [up_n c]
        exact g40 i (by omega)
  exact l7 m 0 (by omega) M9 fr9 f18 (fun i hi => by omega)
