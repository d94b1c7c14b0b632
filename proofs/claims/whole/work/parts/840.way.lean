def lay (i : Nat) (v f : Nat → Int32) : Nat → Int32 := fun h => if h < i then v h else f h
theorem lay_succ {i : Nat} {v f : Nat → Int32} : upd (lay i v f) i (v i) = lay (i + 1) v f := by
  funext h
  unfold lay
  by_cases c : h = i
  · rw [c, up_s, if_pos (by omega)]
  · rw [up_n c]
    by_cases c2 : h < i
    · rw [if_pos c2, if_pos (by omega)]
    · rw [if_neg c2, if_neg (by omega)]
theorem lay_0 {v f : Nat → Int32} : lay 0 v f = f := by
  funext h
  unfold lay
  rw [if_neg (by omega)]
def vK (T : Nat → Int32) (L h : Nat) : Int32 := kyF (tcv T L (1 + 5 * h + 1))
def vD (T : Nat → Int32) (L c h : Nat) : Int32 := tcv T L (1 + 5 * h + c) - 48
def vG (T : Nat → Int32) (L n g : Nat) : Int32 := (10 : Int32) * (tcv T L (1 + 5 * n + 3 * g + 1) - 48) + (tcv T L (1 + 5 * n + 3 * g + 2) - 48)
theorem place {h : Nat} : (1 : Int32) + (5 : Int32) * nI h = nI (1 + 5 * h) := by
  rw [show (5 : Int32) * nI h = nI (5 * h) from pk_mul 5 h]
  exact nI_add 1 (5 * h)
theorem C_become {T : Nat → Int32} {L n m : Nat} (hn : n ≤ 6) (hm : m ≤ 5) {M : Mem} {R : Mem → Prop} (t : TX T L M) (e2 : M 10 2 = nI n) (e3 : M 10 3 = nI m)
    (k : ∀ M', (∀ q, ¬ (12 ≤ q ∧ q ≤ 17) → M' q = M q) → M' 12 5 = nI n → M' 12 6 = nI m → M' 12 7 = M 12 7 → M' 13 = lay n (vK T L) (M 13) → M' 14 = lay n (vD T L 2) (M 14) → M' 15 = lay n (vD T L 3) (M 15) → M' 16 = lay n (vD T L 4) (M 16) → M' 17 = lay m (vG T L n) (M 17) → R M') : wp_Way_become M R := by
  intro X18 X81 h18 h81 M25 e25 M26 e26
  have TXof : ∀ M1 : Mem, (∀ q, ¬ (12 ≤ q ∧ q ≤ 17) → M1 q = M q) → TX T L M1 := fun M1 fr => ⟨t.1, by rw [fr 10 (by omega)]; exact t.2.1, fun j hj => by rw [fr 11 (by omega)]; exact t.2.2 j hj⟩
  have keyG : ∀ (d i : Nat), i + d = m → ∀ M1 : Mem, (∀ q, ¬ (12 ≤ q ∧ q ≤ 17) → M1 q = M q) → M1 12 5 = nI n → M1 12 6 = nI m → M1 12 7 = M 12 7 → M1 13 = lay n (vK T L) (M 13) → M1 14 = lay n (vD T L 2) (M 14) → M1 15 = lay n (vD T L 3) (M 15) → M1 16 = lay n (vD T L 4) (M 16) → M1 17 = lay i (vG T L n) (M 17) → X81 (nI i) M1 := by
    intro d
    induction d with
    | zero =>
      intro i hi M1 fr g5 g6 g7 g13 g14 g15 g16 g17
      have : i = m := by omega
      subst this
      exact h81 _ _ ⟨fun _ => k M1 fr g5 g6 g7 g13 g14 g15 g16 g17, fun z => absurd (by rw [g6]; exact Int32.le_refl _) z⟩
    | succ d ih =>
      intro i hi M1 fr g5 g6 g7 g13 g14 g15 g16 g17
      have tx := TXof M1 fr
      refine h81 _ _ ⟨fun z => absurd z (by rw [g6]; exact nI_ge (by omega) (by omega)), fun _ => ?_⟩
      unfold wp_Text_gearOfGuest wp_Text_placeOfHouse
      rw [fr 10 (by omega), e2, place]
      intro x ex
      have ex' : x = nI (1 + 5 * n + 3 * i) := by
        rw [ex, show (3 : Int32) * nI i = nI (3 * i) from pk_mul 3 i]
        exact nI_add _ _
      rw [ex', show nI (1 + 5 * n + 3 * i) + (1 : Int32) = nI (1 + 5 * n + 3 * i + 1) from nI_add _ 1, show nI (1 + 5 * n + 3 * i) + (2 : Int32) = nI (1 + 5 * n + 3 * i + 2) from nI_add _ 2]
      refine C_digit (by omega) tx (C_digit (by omega) tx ⟨vp_in_nI (by omega) (by omega), ?_⟩)
      intro M3 e3' y ey
      rw [nI_clamp (by omega)] at e3'
      rw [ey, nI_1]
      refine ih (i + 1) (by omega) M3 (fun q hq => by rw [e3', ms_n (by omega)]; exact fr q hq) ?_ ?_ ?_ ?_ ?_ ?_ ?_ ?_
      · rw [e3', ms_n (by decide)]; exact g5
      · rw [e3', ms_n (by decide)]; exact g6
      · rw [e3', ms_n (by decide)]; exact g7
      · rw [e3', ms_n (by decide)]; exact g13
      · rw [e3', ms_n (by decide)]; exact g14
      · rw [e3', ms_n (by decide)]; exact g15
      · rw [e3', ms_n (by decide)]; exact g16
      · rw [e3', ms_s, g17]
        exact lay_succ
  have keyH : ∀ (d i : Nat), i + d = n → ∀ M1 : Mem, (∀ q, ¬ (12 ≤ q ∧ q ≤ 17) → M1 q = M q) → M1 12 5 = nI n → M1 12 6 = nI m → M1 12 7 = M 12 7 → M1 13 = lay i (vK T L) (M 13) → M1 14 = lay i (vD T L 2) (M 14) → M1 15 = lay i (vD T L 3) (M 15) → M1 16 = lay i (vD T L 4) (M 16) → M1 17 = M 17 → X18 (nI i) M1 := by
    intro d
    induction d with
    | zero =>
      intro i hi M1 fr g5 g6 g7 g13 g14 g15 g16 g17
      have : i = n := by omega
      subst this
      exact h18 _ _ ⟨fun _ => keyG m 0 (by omega) M1 fr g5 g6 g7 g13 g14 g15 g16 (by rw [g17, lay_0]), fun z => absurd (by rw [g5]; exact Int32.le_refl _) z⟩
    | succ d ih =>
      intro i hi M1 fr g5 g6 g7 g13 g14 g15 g16 g17
      have v : vp_in (nI i) 6 := vp_in_nI (by omega) (by omega)
      refine h18 _ _ ⟨fun z => absurd z (by rw [g5]; exact nI_ge (by omega) (by omega)), fun _ => ?_⟩
      unfold wp_Text_kindOfHouse wp_Text_digitOfHouse wp_Text_placeOfHouse
      rw [place]
      dsimp only
      rw [show nI (1 + 5 * i) + (1 : Int32) = nI (1 + 5 * i + 1) from nI_add _ 1, show nI (1 + 5 * i) + (2 : Int32) + (0 : Int32) = nI (1 + 5 * i + 2) from (congrArg (· + (0 : Int32)) (nI_add (1 + 5 * i) 2)).trans (nI_add (1 + 5 * i + 2) 0), show nI (1 + 5 * i) + (2 : Int32) + (1 : Int32) = nI (1 + 5 * i + 3) from (congrArg (· + (1 : Int32)) (nI_add (1 + 5 * i) 2)).trans (nI_add (1 + 5 * i + 2) 1), show nI (1 + 5 * i) + (2 : Int32) + (2 : Int32) = nI (1 + 5 * i + 4) from (congrArg (· + (2 : Int32)) (nI_add (1 + 5 * i) 2)).trans (nI_add (1 + 5 * i + 2) 2)]
      rw [nI_clamp (by omega)]
      refine C_kind (by omega) (TXof M1 fr) ⟨v, ?_⟩
      intro M5 e5
      have f5 : ∀ q, ¬ (12 ≤ q ∧ q ≤ 17) → M5 q = M q := fun q hq => by rw [e5, ms_n (by omega)]; exact fr q hq
      refine C_digit (by omega) (TXof M5 f5) ⟨v, ?_⟩
      intro M9 e9
      have f9 : ∀ q, ¬ (12 ≤ q ∧ q ≤ 17) → M9 q = M q := fun q hq => by rw [e9, ms_n (by omega)]; exact f5 q hq
      refine C_digit (by omega) (TXof M9 f9) ⟨v, ?_⟩
      intro M13 e13
      have f13 : ∀ q, ¬ (12 ≤ q ∧ q ≤ 17) → M13 q = M q := fun q hq => by rw [e13, ms_n (by omega)]; exact f9 q hq
      refine C_digit (by omega) (TXof M13 f13) ⟨v, ?_⟩
      intro M17 e17 y ey
      have f17 : ∀ q, ¬ (12 ≤ q ∧ q ≤ 17) → M17 q = M q := fun q hq => by rw [e17, ms_n (by omega)]; exact f13 q hq
      have r12 : M17 12 = M1 12 := by rw [e17, ms_n (by decide), e13, ms_n (by decide), e9, ms_n (by decide), e5, ms_n (by decide)]
      rw [ey, nI_1]
      refine ih (i + 1) (by omega) M17 f17 (by rw [r12]; exact g5) (by rw [r12]; exact g6) (by rw [r12]; exact g7) ?_ ?_ ?_ ?_ ?_
      · rw [e17, ms_n (by decide), e13, ms_n (by decide), e9, ms_n (by decide), e5, ms_s, g13]
        exact lay_succ
      · rw [e17, ms_n (by decide), e13, ms_n (by decide), e9, ms_s, e5, ms_n (by decide), g14]
        exact lay_succ
      · rw [e17, ms_n (by decide), e13, ms_s, e9, ms_n (by decide), e5, ms_n (by decide), g15]
        exact lay_succ
      · rw [e17, ms_s, e13, ms_n (by decide), e9, ms_n (by decide), e5, ms_n (by decide), g16]
        exact lay_succ
      · rw [e17, ms_n (by decide), e13, ms_n (by decide), e9, ms_n (by decide), e5, ms_n (by decide)]
        exact g17
  have fq : ∀ q, q ≠ 12 → M26 q = M q := fun q hq => by rw [e26, ms_n hq, e25, ms_n hq]
  refine keyH n 0 (by omega) M26 (fun q hq => fq q (by omega)) ?_ ?_ ?_ ?_ ?_ ?_ ?_ (fq 17 (by decide))
  · rw [e26, ms_s, up_n (by decide), e25, ms_s, up_s]; exact e2
  · rw [e26, ms_s, up_s, e25, ms_n (by decide)]; exact e3
  · rw [e26, ms_s, up_n (by decide), e25, ms_s, up_n (by decide)]
  · rw [fq 13 (by decide), lay_0]
  · rw [fq 14 (by decide), lay_0]
  · rw [fq 15 (by decide), lay_0]
  · rw [fq 16 (by decide), lay_0]
theorem D_become {T : Nat → Int32} {L n m : Nat} (hn : n ≤ 6) (hm : m ≤ 5) {M : Mem} {R : Int32 → Mem → Prop} {X103 : Int32 → Mem → Prop} {X191 : Int32 → Mem → Prop} (h103 : ∀ (x7 : Int32) (M : Mem), wp_Model_way_103 X103 X191 R x7 M → X103 x7 M) (h191 : ∀ (x7 : Int32) (M : Mem), wp_Model_way_191 X103 X191 R x7 M → X191 x7 M) (e5 : M 29 5 = nI n) (e6 : M 29 6 = nI m) (hs : HS T L n M) (gs : GS T L n m M)
    (k : ∀ M', (∀ q, q ≠ 29 → ¬ (33 ≤ q ∧ q ≤ 37) → M' q = M q) → (∀ j, j ≠ 23 → M' 29 j = M 29 j) → M' 29 23 = 0 → M' 33 = lay n (vK T L) (M 33) → M' 34 = lay n (vD T L 2) (M 34) → M' 35 = lay n (vD T L 3) (M 35) → M' 36 = lay n (vD T L 4) (M 36) → M' 37 = lay m (vG T L n) (M 37) → R (nI n) M') : X103 0 M := by
  have keyG : ∀ (d i : Nat), i + d = m → ∀ M1 : Mem, (∀ q, ¬ (33 ≤ q ∧ q ≤ 37) → M1 q = M q) → M1 33 = lay n (vK T L) (M 33) → M1 34 = lay n (vD T L 2) (M 34) → M1 35 = lay n (vD T L 3) (M 35) → M1 36 = lay n (vD T L 4) (M 36) → M1 37 = lay i (vG T L n) (M 37) → X191 (nI i) M1 := by
    intro d
    induction d with
    | zero =>
      intro i hi M1 fr g13 g14 g15 g16 g17
      have : i = m := by omega
      subst this
      refine h191 _ _ ⟨fun _ => ?_, fun z => absurd (by rw [fr 29 (by omega), e6]; exact Int32.le_refl _) z⟩
      intro M16 e16
      have r5 : M16 29 5 = nI n := by rw [e16, ms_s, up_n (by decide), fr 29 (by omega)]; exact e5
      rw [r5]
      refine k M16 (fun q h1 h2 => by rw [e16, ms_n h1]; exact fr q h2) (fun j hj => by rw [e16, ms_s, up_n hj, fr 29 (by omega)]) (by rw [e16, ms_s, up_s]) ?_ ?_ ?_ ?_ ?_
      · rw [e16, ms_n (by decide)]; exact g13
      · rw [e16, ms_n (by decide)]; exact g14
      · rw [e16, ms_n (by decide)]; exact g15
      · rw [e16, ms_n (by decide)]; exact g16
      · rw [e16, ms_n (by decide)]; exact g17
    | succ d ih =>
      intro i hi M1 fr g13 g14 g15 g16 g17
      have v : vp_in (nI i) 5 := vp_in_nI (by omega) (by omega)
      refine h191 _ _ ⟨fun z => absurd z (by rw [fr 29 (by omega), e6]; exact nI_ge (by omega) (by omega)), fun _ => ⟨v, v, ?_⟩⟩
      intro M19 e19 y ey
      rw [nI_clamp (by omega), fr 39 (by omega), gs i (by omega)] at e19
      rw [ey, nI_1]
      refine ih (i + 1) (by omega) M19 (fun q hq => by rw [e19, ms_n (by omega)]; exact fr q hq) ?_ ?_ ?_ ?_ ?_
      · rw [e19, ms_n (by decide)]; exact g13
      · rw [e19, ms_n (by decide)]; exact g14
      · rw [e19, ms_n (by decide)]; exact g15
      · rw [e19, ms_n (by decide)]; exact g16
      · rw [e19, ms_s, g17]
        exact lay_succ
  have keyH : ∀ (d i : Nat), i + d = n → ∀ M1 : Mem, (∀ q, ¬ (33 ≤ q ∧ q ≤ 37) → M1 q = M q) → M1 33 = lay i (vK T L) (M 33) → M1 34 = lay i (vD T L 2) (M 34) → M1 35 = lay i (vD T L 3) (M 35) → M1 36 = lay i (vD T L 4) (M 36) → M1 37 = M 37 → X103 (nI i) M1 := by
    intro d
    induction d with
    | zero =>
      intro i hi M1 fr g13 g14 g15 g16 g17
      have : i = n := by omega
      subst this
      exact h103 _ _ ⟨fun _ => keyG m 0 (by omega) M1 fr g13 g14 g15 g16 (by rw [g17, lay_0]), fun z => absurd (by rw [fr 29 (by omega), e5]; exact Int32.le_refl _) z⟩
    | succ d ih =>
      intro i hi M1 fr g13 g14 g15 g16 g17
      obtain ⟨s0, s1, s2, s3⟩ := hs i (by omega)
      have v : vp_in (nI i) 6 := vp_in_nI (by omega) (by omega)
      have a0 : (4 : Int32) * nI i = nI (4 * i) := pk_mul 4 i
      have a1 : nI (4 * i) + (1 : Int32) = nI (4 * i + 1) := nI_add _ 1
      have a2 : nI (4 * i) + (2 : Int32) = nI (4 * i + 2) := nI_add _ 2
      have a3 : nI (4 * i) + (3 : Int32) = nI (4 * i + 3) := nI_add _ 3
      refine h103 _ _ ⟨fun z => absurd z (by rw [fr 29 (by omega), e5]; exact nI_ge (by omega) (by omega)), fun _ => ?_⟩
      rw [a0, a1, a2, a3, nI_clamp (n := i) (by omega), nI_clamp (n := 4 * i) (by omega), nI_clamp (n := 4 * i + 1) (by omega), nI_clamp (n := 4 * i + 2) (by omega), nI_clamp (n := 4 * i + 3) (by omega)]
      refine ⟨vp_in_nI (by omega) (by omega), v, ?_⟩
      intro M4 e4
      rw [fr 38 (by omega), s0] at e4
      refine ⟨vp_in_nI (by omega) (by omega), v, ?_⟩
      intro M7 e7
      rw [show M4 38 = M 38 by rw [e4, ms_n (by decide), fr 38 (by omega)], s1] at e7
      refine ⟨vp_in_nI (by omega) (by omega), v, ?_⟩
      intro M10 e10
      rw [show M7 38 = M 38 by rw [e7, ms_n (by decide), e4, ms_n (by decide), fr 38 (by omega)], s2] at e10
      refine ⟨vp_in_nI (by omega) (by omega), v, ?_⟩
      intro M13 e13 y ey
      rw [show M10 38 = M 38 by rw [e10, ms_n (by decide), e7, ms_n (by decide), e4, ms_n (by decide), fr 38 (by omega)], s3] at e13
      rw [ey, nI_1]
      refine ih (i + 1) (by omega) M13 (fun q hq => by rw [e13, ms_n (by omega), e10, ms_n (by omega), e7, ms_n (by omega), e4, ms_n (by omega)]; exact fr q hq) ?_ ?_ ?_ ?_ ?_
      · rw [e13, ms_n (by decide), e10, ms_n (by decide), e7, ms_n (by decide), e4, ms_s, g13]
        exact lay_succ
      · rw [e13, ms_n (by decide), e10, ms_n (by decide), e7, ms_s, e4, ms_n (by decide), g14]
        exact lay_succ
      · rw [e13, ms_n (by decide), e10, ms_s, e7, ms_n (by decide), e4, ms_n (by decide), g15]
        exact lay_succ
      · rw [e13, ms_s, e10, ms_n (by decide), e7, ms_n (by decide), e4, ms_n (by decide), g16]
        exact lay_succ
      · rw [e13, ms_n (by decide), e10, ms_n (by decide), e7, ms_n (by decide), e4, ms_n (by decide)]
        exact g17
  refine keyH n 0 (by omega) M (fun q _ => rfl) ?_ ?_ ?_ ?_ rfl
  · rw [lay_0]
  · rw [lay_0]
  · rw [lay_0]
  · rw [lay_0]
