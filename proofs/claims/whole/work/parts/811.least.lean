def pc (s : Nat) : Nat := s % 2 + s / 2 % 2 + s / 4 % 2 + s / 8 % 2 + s / 16 % 2 + s / 32 % 2
def bcF (a0 : Int32) : Int32 :=
  let x1 := a0 - (((a0.toUInt32 >>> ((1 : Int32).toUInt32 &&& Int32.toUInt32 (31 : Int32))).toInt32) &&& (1431655765 : Int32))
  let x2 := (x1 &&& (858993459 : Int32)) + (((x1.toUInt32 >>> ((2 : Int32).toUInt32 &&& Int32.toUInt32 (31 : Int32))).toInt32) &&& (858993459 : Int32))
  let x3 := (x2 + ((x2.toUInt32 >>> ((4 : Int32).toUInt32 &&& Int32.toUInt32 (31 : Int32))).toInt32)) &&& (252645135 : Int32)
  let x4 := x3 + ((x3.toUInt32 >>> ((8 : Int32).toUInt32 &&& Int32.toUInt32 (31 : Int32))).toInt32)
  let x5 := x4 + ((x4.toUInt32 >>> ((16 : Int32).toUInt32 &&& Int32.toUInt32 (31 : Int32))).toInt32)
  x5 &&& (63 : Int32)
theorem bc_pc : ∀ s, s < 64 → bcF (nI s) = nI (pc s) := by decide +kernel
theorem C_bitCount {s : Nat} (hs : s < 64) {M : Mem} {R : Int32 → Mem → Prop} (k : R (nI (pc s)) M) : wp_Int_bitCount (nI s) M R := by
  rw [← bc_pc s hs] at k
  intro x1 e1 x2 e2 x3 e3 x4 e4 x5 e5
  subst e1; subst e2; subst e3; subst e4; subst e5
  exact k
theorem and1 : ∀ s, s < 64 → nI s &&& (1 : Int32) = nI (s % 2) := by decide +kernel
theorem shr1 : ∀ s, s < 64 → nI s >>> ((1 : Int32) &&& (31 : Int32)) = nI (s / 2) := by decide +kernel
theorem pc_half {s : Nat} (hs : s < 64) : pc s = s % 2 + pc (s / 2) := by
  unfold pc
  omega
theorem D_size {s : Nat} (hs : s < 64) {M : Mem} {R : Int32 → Mem → Prop} (k : R (nI (pc s)) M) : wp_Model_size (nI s) M R := by
  intro X hX
  have key : ∀ (f b acc : Nat), b < 64 → b ≤ f → R (nI (acc + pc b)) M → X (nI acc) (nI b) M := by
    intro f
    induction f with
    | zero =>
      intro b acc hb hf kk
      have : b = 0 := by omega
      subst this
      refine hX _ _ _ ⟨fun _ => kk, fun z => absurd (by decide) z⟩
    | succ f ih =>
      intro b acc hb hf kk
      rcases Nat.eq_zero_or_pos b with h0 | h0
      · subst h0
        exact hX _ _ _ ⟨fun _ => kk, fun z => absurd (by decide) z⟩
      · refine hX _ _ _ ⟨fun z => absurd z (nI_nle h0 (by omega)), fun _ => ?_⟩
        intro y1 e1 y2 e2
        rw [e1, e2, and1 b hb, shr1 b hb, nI_add]
        refine ih (b / 2) (acc + b % 2) (by omega) (by omega) ?_
        rw [Nat.add_assoc, ← pc_half hb]
        exact kk
  have k0 : R (nI (0 + pc s)) M := by rw [Nat.zero_add]; exact k
  exact key s s 0 hs (Nat.le_refl s) k0
def fnp (D : Mem) (set : Int32) : Nat → Nat → Int32
  | 0, _ => -9
  | d + 1, h => if usD D h set 0 = -9 then nI h else fnp D set d (h + 1)
theorem fnp_succ (D : Mem) (set : Int32) (d h : Nat) : fnp D set (d + 1) h = if usD D h set 0 = -9 then nI h else fnp D set d (h + 1) := rfl
theorem C_fnp {n : Nat} (hn : n ≤ 6) {set : Int32} {M : Mem} {R : Int32 → Mem → Prop} (e : M 12 5 = nI n) (k : R (fnp (dC M) set n 0) M) : wp_Way_firstNotPassedBy set M R := by
  intro X hX
  have key : ∀ (d h : Nat), h + d = n → R (fnp (dC M) set d h) M → X set (nI h) M := by
    intro d
    induction d with
    | zero =>
      intro h hh kk
      have : h = n := by omega
      subst this
      refine hX _ _ _ ⟨fun _ => kk, fun z => absurd (by rw [e]; exact Int32.le_refl _) z⟩
    | succ d ih =>
      intro h hh kk
      refine hX _ _ _ ⟨fun z => absurd z (by rw [e]; exact nI_ge (by omega) (by omega)), fun _ => C_used (by omega) ?_⟩
      unfold fnp at kk
      refine ⟨fun c => ?_, fun c => ?_⟩
      · rw [if_neg c] at kk
        intro y ey
        rw [ey, nI_1]
        exact ih (h + 1) (by omega) kk
      · rw [if_pos c] at kk
        exact kk
  exact key n 0 (by omega) k
theorem D_pe {n m a : Nat} (hn : n ≤ 6) (ha : a < 64) {M : Mem} {R : Int32 → Mem → Prop} (e : M 29 5 = nI n) (ok : okD (dM M) n m) (k : R (if fnp (dM M) (nI a) n 0 = -9 then 1 else 0) M) : wp_Model_passesEach (nI a) M R := by
  intro X hX
  have key : ∀ (d h : Nat), h + d = n → R (if fnp (dM M) (nI a) d h = -9 then 1 else 0) M → X (nI a) (nI h) M := by
    intro d
    induction d with
    | zero =>
      intro h hh kk
      have : h = n := by omega
      subst this
      refine hX _ _ _ ⟨fun _ => kk, fun z => absurd (by rw [e]; exact Int32.le_refl _) z⟩
    | succ d ih =>
      intro h hh kk
      refine hX _ _ _ ⟨fun z => absurd z (by rw [e]; exact nI_ge (by omega) (by omega)), fun _ => D_used (n := n) (m := m) hn (by omega) ha ok ?_⟩
      unfold fnp at kk
      refine ⟨fun c => ?_, fun c => ?_⟩
      · rw [if_neg c] at kk
        intro y ey
        rw [ey, nI_1]
        exact ih (h + 1) (by omega) kk
      · rw [if_pos c] at kk
        have h9 : ¬ nI h = -9 := by
          have : ∀ z, z < 6 → ¬ nI z = -9 := by decide
          exact this h (by omega)
        rw [if_neg h9] at kk
        exact kk
  exact key n 0 (by omega) k
theorem C_told0 {M : Mem} {R : Int32 → Mem → Prop} (e : M 12 5 = nI 0) (k : R 0 M) : wp_Way_isTold M R := by
  unfold wp_Way_isTold
  rw [e]
  exact ⟨fun _ => k, fun z => absurd (by decide) z⟩
theorem C_told1 {n : Nat} (hn : n ≤ 6) (h0 : 0 < n) {M : Mem} {R : Int32 → Mem → Prop} (e : M 12 5 = nI n) (k : R 1 M) : wp_Way_isTold M R := by
  unfold wp_Way_isTold
  rw [e]
  exact ⟨fun z => absurd z (nI_nle h0 (by omega)), fun _ => k⟩
theorem st_hard : St_hard Inv := by
  intro M h
  obtain ⟨⟨n, m, cc, hw, hr⟩, hf, hs⟩ := id h
  obtain ⟨h1, h2, h3, h4, h5, h6, h7, h8, h9, h10, h11, h12, h13, h14, h15, h16⟩ := id hw
  rcases Nat.eq_zero_or_pos n with h0 | h0
  · subst h0
    refine C_told0 h4 ⟨fun _ => ?_, fun z => absurd rfl z⟩
    intro X hX
    exact ⟨fun z => absurd h5 z, fun _ => ⟨rfl, h⟩⟩
  · refine C_told1 h1 h0 h4 ⟨fun z => absurd z (by decide), fun _ => C_fnp h1 h4 ?_⟩
    intro X hX
    refine ⟨fun _ => ?_, fun z => absurd (by rw [h5] at z; exact z) (nI_ne0 h0 (by omega))⟩
    have key : ∀ (d z : Nat), z + d = n → fnp (dC M) 63 n 0 = fnp (dC M) 63 d z → X (nI z) M := by
      intro d
      induction d with
      | zero =>
        intro z hz e
        have : z = n := by omega
        subst this
        refine hX _ _ ⟨fun _ => ⟨e, h⟩, fun q => absurd (by rw [h5]; exact Int32.le_refl _) q⟩
      | succ d ih =>
        intro z hz e
        refine hX _ _ ⟨fun q => absurd q (by rw [h5]; exact nI_ge (by omega) (by omega)), fun _ => D_used (n := n) (m := m) (a := 63) h1 (by omega) (by omega) (by rw [dM_eq hw]; exact okD_of hw) ?_⟩
        rw [dM_eq hw]
        rw [fnp_succ] at e
        refine ⟨fun c => ?_, fun c => ?_⟩
        · intro y ey
          rw [ey, nI_1]
          have c' : ¬ usD (dC M) z 63 0 = -9 := c
          rw [if_neg c'] at e
          exact ih (z + 1) (by omega) e
        · have c' : usD (dC M) z 63 0 = -9 := c
          rw [if_pos c'] at e
          exact ⟨e, h⟩
    exact key n 0 (by omega) rfl
def lsF (D : Mem) (n : Nat) : Nat → Option Nat
  | 0 => none
  | s + 1 => match lsF D n s with
    | none => if fnp D (nI s) n 0 = -9 then some s else none
    | some b => if pc s < pc b then (if fnp D (nI s) n 0 = -9 then some s else some b) else some b
def opF (o : Option Nat) : Int32 := match o with
  | none => -9
  | some b => nI b
theorem lsF_lt (D : Mem) (n : Nat) : ∀ (s b : Nat), lsF D n s = some b → b < s := by
  intro s
  induction s with
  | zero => intro b h; cases h
  | succ s ih =>
    intro b h
    unfold lsF at h
    cases e : lsF D n s with
    | none =>
      rw [e] at h
      dsimp only at h
      by_cases c : fnp D (nI s) n 0 = -9
      · rw [if_pos c] at h; cases h; omega
      · rw [if_neg c] at h; cases h
    | some z =>
      rw [e] at h
      dsimp only at h
      have := ih z e
      by_cases c : pc s < pc z
      · rw [if_pos c] at h
        by_cases c2 : fnp D (nI s) n 0 = -9
        · rw [if_pos c2] at h; cases h; omega
        · rw [if_neg c2] at h; cases h; omega
      · rw [if_neg c] at h; cases h; omega
theorem pc_le : ∀ s, s < 64 → pc s ≤ 6 := by decide
theorem op9 {b : Nat} (hb : b < 64) : ¬ nI b = -9 := by
  have : ∀ z, z < 64 → ¬ nI z = -9 := by decide
  exact this b hb
theorem C_least {n : Nat} (hn : n ≤ 6) {M : Mem} {R : Int32 → Mem → Prop} (e : M 12 5 = nI n) (k : R (opF (lsF (dC M) n 64)) M) : wp_Way_leastGear M R := by
  intro X hX
  have key : ∀ (d s : Nat), s + d = 64 → X (opF (lsF (dC M) n s)) (match lsF (dC M) n s with | none => 7 | some b => nI (pc b)) (nI s) M := by
    intro d
    induction d with
    | zero =>
      intro s hs
      have : s = 64 := by omega
      subst this
      exact hX _ _ _ _ ⟨fun _ => k, fun z => absurd (by decide) z⟩
    | succ d ih =>
      intro s hs
      have ih' := ih (s + 1) (by omega)
      refine hX _ _ _ _ ⟨fun z => absurd z (nI_ge (b := 64) (by omega) (by omega)), fun _ => C_bitCount (by omega) ?_⟩
      have hp := pc_le s (by omega)
      rw [lsF] at ih'
      cases eo : lsF (dC M) n s with
      | none =>
        rw [eo] at ih'
        dsimp only at ih' ⊢
        refine ⟨fun z => absurd z (nI_ge (b := 7) (by omega) (by omega)), fun _ => C_fnp hn e ⟨fun c => ?_, fun c => ?_⟩⟩
        · rw [if_neg c] at ih'
          intro y ey
          rw [ey, nI_1]
          exact ih'
        · rw [if_pos c] at ih'
          intro y ey
          rw [ey, nI_1]
          exact ih'
      | some b =>
        rw [eo] at ih'
        dsimp only at ih' ⊢
        have hb := lsF_lt _ _ _ _ eo
        have hpb := pc_le b (by omega)
        rcases Nat.lt_or_ge (pc s) (pc b) with c1 | c1
        · rw [if_pos c1] at ih'
          refine ⟨fun z => absurd z (nI_ge c1 (by omega)), fun _ => C_fnp hn e ⟨fun c => ?_, fun c => ?_⟩⟩
          · rw [if_neg c] at ih'
            intro y ey
            rw [ey, nI_1]
            exact ih'
          · rw [if_pos c] at ih'
            intro y ey
            rw [ey, nI_1]
            exact ih'
        · rw [if_neg (by omega)] at ih'
          refine ⟨fun _ => ?_, fun z => absurd (nI_le c1 (by omega)) z⟩
          intro y ey
          rw [ey, nI_1]
          exact ih'
  exact key 64 0 (by omega)
theorem D_least {n m : Nat} (hn : n ≤ 6) (h0 : 0 < n) {M : Mem} {R : Int32 → Mem → Prop} (e : M 29 5 = nI n) (ok : okD (dM M) n m) (k : R (opF (lsF (dM M) n 64)) M) : wp_Model_least M R := by
  intro X hX
  have key : ∀ (d s : Nat), s + d = 64 → X (opF (lsF (dM M) n s)) (nI s) M := by
    intro d
    induction d with
    | zero =>
      intro s hs
      have : s = 64 := by omega
      subst this
      exact hX _ _ _ ⟨fun _ => k, fun z => absurd (by decide) z⟩
    | succ d ih =>
      intro s hs
      have ih' := ih (s + 1) (by omega)
      refine hX _ _ _ ⟨fun z => absurd z (nI_nlt (a := 63) (b := s) (by omega) (by omega)), fun _ => ?_⟩
      rw [lsF] at ih'
      cases eo : lsF (dM M) n s with
      | none =>
        rw [eo] at ih'
        dsimp only at ih'
        refine ⟨fun _ => D_pe (m := m) hn (by omega) e ok ?_, fun z => absurd rfl z⟩
        by_cases c : fnp (dM M) (nI s) n 0 = -9
        · rw [if_pos c] at ih' ⊢
          refine ⟨fun z => absurd z (by decide), fun _ => ?_⟩
          intro y ey
          rw [ey, nI_1]
          exact ih'
        · rw [if_neg c] at ih' ⊢
          refine ⟨fun _ => ?_, fun z => absurd rfl z⟩
          intro y ey
          rw [ey, nI_1]
          exact ih'
      | some b =>
        rw [eo] at ih'
        dsimp only at ih'
        have hb := lsF_lt _ _ _ _ eo
        have hps := pc_le s (by omega)
        have hpb := pc_le b (by omega)
        refine ⟨fun z => absurd z (op9 (by omega)), fun _ => D_size (by omega) (D_size (s := b) (by omega) ?_)⟩
        rcases Nat.lt_or_ge (pc s) (pc b) with c1 | c1
        · rw [if_pos c1] at ih'
          refine ⟨fun z => absurd z (nI_ge c1 (by omega)), fun _ => D_pe (m := m) hn (by omega) e ok ?_⟩
          by_cases c : fnp (dM M) (nI s) n 0 = -9
          · rw [if_pos c] at ih' ⊢
            refine ⟨fun z => absurd z (by decide), fun _ => ?_⟩
            intro y ey
            rw [ey, nI_1]
            exact ih'
          · rw [if_neg c] at ih' ⊢
            refine ⟨fun _ => ?_, fun z => absurd rfl z⟩
            intro y ey
            rw [ey, nI_1]
            exact ih'
        · rw [if_neg (by omega)] at ih'
          refine ⟨fun _ => ?_, fun z => absurd (nI_le c1 (by omega)) z⟩
          intro y ey
          rw [ey, nI_1]
          exact ih'
  exact ⟨fun _ => key 64 0 (by omega), fun z => absurd (by rw [e] at z; exact z) (nI_ne0 h0 (by omega))⟩
theorem st_least : St_least Inv := by
  intro M h
  obtain ⟨⟨n, m, cc, hw, hr⟩, hf, hs⟩ := id h
  obtain ⟨h1, h2, h3, h4, h5, h6, h7, h8, h9, h10, h11, h12, h13, h14, h15, h16⟩ := id hw
  rcases Nat.eq_zero_or_pos n with h0 | h0
  · subst h0
    refine C_told0 h4 ⟨fun _ => ?_, fun z => absurd rfl z⟩
    intro X hX
    exact ⟨fun z => absurd h5 z, fun _ => ⟨rfl, h⟩⟩
  · refine C_told1 h1 h0 h4 ⟨fun z => absurd z (by decide), fun _ => C_least h1 h4 (D_least (m := m) h1 h0 h5 ?_ ⟨?_, h⟩)⟩
    · rw [dM_eq hw]; exact okD_of hw
    · rw [dM_eq hw]
