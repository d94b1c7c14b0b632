def TM (T : Nat → Int32) (L B : Nat) (M : Mem) : Prop := L ≤ 60 ∧ B + L ≤ 240 ∧ ∀ j, j < L → M 32 (B + j) = T j
def HF (M M' : Mem) : Prop := (∀ q, q ≠ 29 → q ≠ 38 → q ≠ 39 → M' q = M q) ∧ ∀ j, j ≠ 13 → j ≠ 14 → j ≠ 15 → M' 29 j = M 29 j
theorem HF.rf {M : Mem} : HF M M := ⟨fun _ _ _ _ => rfl, fun _ _ _ _ => rfl⟩
theorem HF.tr {M M1 M2 : Mem} (h : HF M M1) (h2 : HF M1 M2) : HF M M2 := ⟨fun q a b c => (h2.1 q a b c).trans (h.1 q a b c), fun j a b c => (h2.2 j a b c).trans (h.2 j a b c)⟩
theorem HF.s29 {M : Mem} {j : Nat} {v : Int32} (hj : j = 13 ∨ j = 14 ∨ j = 15) : HF M (mset M 29 j v) := ⟨fun q a _ _ => ms_n a, fun i a b c => by rw [ms_s, up_n (by omega)]⟩
theorem HF.s38 {M : Mem} {j : Nat} {v : Int32} : HF M (mset M 38 j v) := ⟨fun q _ b _ => ms_n b, fun i _ _ _ => by rw [ms_n (by decide)]⟩
theorem HF.s39 {M : Mem} {j : Nat} {v : Int32} : HF M (mset M 39 j v) := ⟨fun q _ _ c => ms_n c, fun i _ _ _ => by rw [ms_n (by decide)]⟩
theorem TM.of {T : Nat → Int32} {L B : Nat} {M M' : Mem} (t : TM T L B M) (h : HF M M') : TM T L B M' := ⟨t.1, t.2.1, fun j hj => by rw [h.1 32 (by decide) (by decide) (by decide)]; exact t.2.2 j hj⟩
theorem HF.se {M M' : Mem} (h : HF M M') : SE M M' := by
  intro q j e
  by_cases c : q = 29
  · subst c
    refine h.2 j ?_ ?_ ?_
    all_goals
      intro z
      subst z
      cases e
  · rw [h.1 q c]
    all_goals
      intro z
      subst z
      cases e
theorem D_sign {T : Nat → Int32} {L B x : Nat} {c : Int32} (hc : ¬ c = -1) (hx : x < 200) {M : Mem} {R : Int32 → Mem → Prop} (t : TM T L B M) (e : M 29 13 = nI (B + x)) (ky : tcv T L x = c → R 1 (mset M 29 13 (nI (B + x + 1)))) (kn : ¬ tcv T L x = c → R 0 M) : wp_Model_isSign (nI (B + L)) c M R := by
  obtain ⟨t1, t2, t3⟩ := t
  unfold wp_Model_isSign
  rw [e]
  unfold tcv at ky kn
  by_cases hL : x < L
  · rw [if_pos hL] at ky kn
    refine ⟨fun z => absurd z (nI_ge (by omega) (by omega)), fun _ => ⟨vp_in_nI (by omega) (by omega), ?_⟩⟩
    rw [nI_clamp (by omega), t3 x hL]
    refine ⟨fun z => ?_, kn⟩
    intro M4 e4
    rw [e4, nI_1]
    exact ky z
  · rw [if_neg hL] at kn
    exact ⟨fun _ => kn (fun z => hc z.symm), fun z => absurd (nI_le (by omega) (by omega)) z⟩
theorem dg_m1 : ∀ N, N < 11 → dgB N (-1) = false := by decide +kernel
theorem D_digit {T : Nat → Int32} {L B x N : Nat} {z6 : Int32} (hN : N ≤ 10) (h0 : 0 < N) (hz : (48 : Int32) + z6 = nI (47 + N)) (hx : x < 200) {M : Mem} {R : Int32 → Mem → Prop} (t : TM T L B M) (e : M 29 13 = nI (B + x)) (ky : dgB N (tcv T L x) = true → R (tcv T L x - 48) (mset M 29 13 (nI (B + x + 1)))) (kn : dgB N (tcv T L x) = false → R (-9) M) : wp_Model_digit (nI (B + L)) 0 z6 M R := by
  obtain ⟨t1, t2, t3⟩ := t
  unfold wp_Model_digit
  rw [e, hz]
  unfold tcv at ky kn
  by_cases hL : x < L
  · rw [if_pos hL] at ky kn
    refine ⟨fun z => absurd z (nI_ge (by omega) (by omega)), fun _ => ⟨vp_in_nI (by omega) (by omega), ?_⟩⟩
    rw [nI_clamp (by omega), t3 x hL]
    cases h : dgB N (T x) with
    | false =>
      rw [show (48 : Int32) + 0 = 48 from rfl, e_within_n2 (dg_nw hN h0 h)]
      exact ⟨fun z => absurd rfl z, fun _ => kn h⟩
    | true =>
      have ky' := ky h
      obtain ⟨a, ha, ea⟩ := dg_y h
      rw [show (48 : Int32) + 0 = 48 from rfl, e_within_y (b := (48 : Int32)) (by rw [ea]; exact nI_nlt (a := 48 + a) (b := 48) (by omega) (by omega)) (by rw [ea]; exact nI_nlt (by omega) (by omega))]
      refine ⟨fun _ => ?_, fun z => absurd z (by decide)⟩
      intro M6 e6
      rw [e, nI_1] at e6
      have g : M6 29 13 - (1 : Int32) = nI (B + x) := by
        rw [e6, ms_s, up_s]
        exact nI_pred (B + x)
      rw [g, nI_clamp (by omega)]
      refine ⟨vp_in_nI (by omega) (by omega), ?_⟩
      rw [show M6 32 (B + x) = T x by rw [e6, ms_n (by decide)]; exact t3 x hL, e6]
      exact ky'
  · rw [if_neg hL] at kn
    exact ⟨fun _ => kn (dg_m1 N (by omega)), fun z => absurd (nI_le (by omega) (by omega)) z⟩
theorem dig_ne {N : Nat} (hN : N ≤ 10) {c : Int32} (h : dgB N c = true) : ¬ c - 48 = -9 := by
  obtain ⟨a, ha, e⟩ := dg_y h
  rw [e, m48]
  intro z
  have := nI_pos (n := a) (by omega)
  rw [z] at this
  exact this (by decide)
theorem D_house {T : Nat → Int32} {L B x h : Nat} (hx : x < 100) (hh : h < 6) {M : Mem} {R : Int32 → Mem → Prop} (t : TM T L B M) (e : M 29 13 = nI (B + (x + 1))) (e14 : M 29 14 = nI h)
    (ky : hK T L x = 5 → ∀ M', HF M M' → M' 29 13 = nI (B + (x + 5)) → M' 29 14 = nI (h + 1) → M' 29 15 = M 29 15 → (∀ i, i < 4 * h → M' 38 i = M 38 i) → M' 38 (4 * h) = kyF (tcv T L (x + 1)) → M' 38 (4 * h + 1) = tcv T L (x + 2) - 48 → M' 38 (4 * h + 2) = tcv T L (x + 3) - 48 → M' 38 (4 * h + 3) = tcv T L (x + 4) - 48 → R 1 M')
    (kn : ¬ hK T L x = 5 → ∀ M', HF M M' → M' 29 13 = nI (B + (x + hK T L x)) → R 0 M') : wp_Model_readOneHouse (nI (B + L)) M R := by
  intro X hX x2 ex2
  have ex : x2 = nI (4 * h) := by rw [ex2, e14]; exact pk_mul 4 h
  subst ex
  clear ex2
  -- one digit
  have dig : ∀ (i N : Nat) (z6 : Int32), i = 1 ∨ i = 2 ∨ i = 3 → N ≤ 10 → 0 < N → (48 : Int32) + z6 = nI (47 + N) → ∀ M1 : Mem, HF M M1 → M1 29 13 = nI (B + (x + 1 + i)) → (dgB N (tcv T L (x + 1 + i)) = true → X (nI (B + L)) (nI (4 * h)) (nI (i + 1)) (mset (mset M1 29 13 (nI (B + (x + 1 + i) + 1))) 38 (4 * h + i) (tcv T L (x + 1 + i) - 48))) → (dgB N (tcv T L (x + 1 + i)) = false → R 0 (mset M1 38 (4 * h + i) (-9))) → wp_Model_readOneHouse_122 X R (nI (B + L)) (nI (4 * h)) (nI i) (nI (4 * h) + nI i) (nI (B + L)) 0 z6 M1 := by
    intro i N z6 hi hN h0 hz M1 fr e1 k1 k2
    unfold wp_Model_readOneHouse_122
    rw [nI_add]
    have v : vp_in (nI (4 * h + i)) 24 := vp_in_nI (by omega) (by omega)
    refine D_digit hN h0 hz (by omega) (t.of fr) e1 (fun hd => ⟨v, ?_⟩) (fun hd => ⟨v, ?_⟩)
    · intro M15 e15
      rw [nI_clamp (by omega)] at e15 ⊢
      refine ⟨v, fun z => ?_, fun z => absurd z ?_⟩
      · intro y ey
        rw [ey, nI_1, e15]
        exact k1 hd
      · rw [e15, ms_s, up_s]
        exact dig_ne hN hd
    · intro M15 e15
      rw [nI_clamp (by omega)] at e15 ⊢
      refine ⟨v, fun z => absurd ?_ z, fun z => ?_⟩
      · rw [e15, ms_s, up_s]
      · rw [e15]
        exact k2 hd
  -- the four signs
  have kind : ∀ s0 : Int32, kyF s0 = kyF (tcv T L (x + 1)) → wp_Model_readOneHouse_28 X R (nI (B + L)) (nI (4 * h)) s0 M := by
    intro s0 es
    have put : wp_Model_readOneHouse_66 X R (nI (B + L)) (nI (4 * h)) (nI (4 * h)) (kyF (tcv T L (x + 1))) M := by
      have v : vp_in (nI (4 * h)) 24 := vp_in_nI (by omega) (by omega)
      refine ⟨v, ?_⟩
      intro M5 e5
      rw [nI_clamp (by omega)] at e5 ⊢
      have f5 : HF M M5 := by rw [e5]; exact HF.s38
      have g5 : M5 29 13 = nI (B + (x + 1)) := by rw [e5, ms_n (by decide)]; exact e
      unfold hK at ky kn
      refine ⟨v, fun z => ?_, fun z => ?_⟩
      rotate_left
      · have z' : kyF (tcv T L (x + 1)) = -9 := by rw [e5, ms_s, up_s] at z; exact z
        rw [if_pos z'] at kn
        exact kn (by omega) M5 f5 g5
      have z' : ¬ kyF (tcv T L (x + 1)) = -9 := by rw [e5, ms_s, up_s] at z; exact z
      rw [if_neg z'] at ky kn
      intro M8 e8
      rw [g5, nI_1] at e8
      have f8 : HF M M8 := f5.tr (by rw [e8]; exact HF.s29 (Or.inl rfl))
      have g8 : M8 29 13 = nI (B + (x + 1 + 1)) := by rw [e8, ms_s, up_s]; rfl
      refine hX _ _ _ _ ⟨fun q => absurd q (by decide), fun _ => ⟨fun _ => ?_, fun q => absurd q (by decide)⟩⟩
      refine dig 1 6 5 (by omega) (by omega) (by omega) (by decide) M8 f8 g8 (fun d1 => ?_) (fun d1 => ?_)
      rotate_left
      · rw [if_pos d1] at kn
        refine kn (by omega) _ (f8.tr HF.s38) ?_
        rw [ms_n (by decide)]
        exact g8
      rw [if_neg (by rw [d1]; decide)] at ky kn
      generalize e9 : mset (mset M8 29 13 (nI (B + (x + 1 + 1) + 1))) 38 (4 * h + 1) (tcv T L (x + 1 + 1) - 48) = M9
      have f9 : HF M M9 := f8.tr (by rw [← e9]; exact (HF.s29 (Or.inl rfl)).tr HF.s38)
      have g9 : M9 29 13 = nI (B + (x + 1 + 2)) := by rw [← e9, ms_n (by decide), ms_s, up_s]; rfl
      refine hX _ _ _ _ ⟨fun q => absurd q (by decide), fun _ => ⟨fun _ => ?_, fun q => absurd q (by decide)⟩⟩
      refine dig 2 6 5 (by omega) (by omega) (by omega) (by decide) M9 f9 g9 (fun d2 => ?_) (fun d2 => ?_)
      rotate_left
      · rw [if_pos d2] at kn
        refine kn (by omega) _ (f9.tr HF.s38) ?_
        rw [ms_n (by decide)]
        exact g9
      rw [if_neg (by rw [d2]; decide)] at ky kn
      generalize e10 : mset (mset M9 29 13 (nI (B + (x + 1 + 2) + 1))) 38 (4 * h + 2) (tcv T L (x + 1 + 2) - 48) = M10
      have f10 : HF M M10 := f9.tr (by rw [← e10]; exact (HF.s29 (Or.inl rfl)).tr HF.s38)
      have g10 : M10 29 13 = nI (B + (x + 1 + 3)) := by rw [← e10, ms_n (by decide), ms_s, up_s]; rfl
      refine hX _ _ _ _ ⟨fun q => absurd q (by decide), fun _ => ⟨fun q => absurd rfl q, fun _ => ?_⟩⟩
      refine dig 3 7 6 (by omega) (by omega) (by omega) (by decide) M10 f10 g10 (fun d3 => ?_) (fun d3 => ?_)
      rotate_left
      · rw [if_pos d3] at kn
        refine kn (by omega) _ (f10.tr HF.s38) ?_
        rw [ms_n (by decide)]
        exact g10
      rw [if_neg (by rw [d3]; decide)] at ky kn
      generalize e11 : mset (mset M10 29 13 (nI (B + (x + 1 + 3) + 1))) 38 (4 * h + 3) (tcv T L (x + 1 + 3) - 48) = M11
      have f11 : HF M M11 := f10.tr (by rw [← e11]; exact (HF.s29 (Or.inl rfl)).tr HF.s38)
      refine hX _ _ _ _ ⟨fun _ => ?_, fun q => absurd (by decide) q⟩
      intro M12 e12
      have h38 : M12 38 = upd (upd (upd (upd (M 38) (4 * h) (kyF (tcv T L (x + 1)))) (4 * h + 1) (tcv T L (x + 1 + 1) - 48)) (4 * h + 2) (tcv T L (x + 1 + 2) - 48)) (4 * h + 3) (tcv T L (x + 1 + 3) - 48) := by
        rw [e12, ms_n (by decide), ← e11, ms_s, ms_n (by decide), ← e10, ms_s, ms_n (by decide), ← e9, ms_s, ms_n (by decide), e8, ms_n (by decide), e5, ms_s]
      refine ky rfl M12 (f11.tr (by rw [e12]; exact HF.s29 (Or.inr (Or.inl rfl)))) ?_ ?_ ?_ ?_ ?_ ?_ ?_ ?_
      · rw [e12, ms_s, up_n (by decide), ← e11, ms_n (by decide), ms_s, up_s]
        rfl
      · rw [e12, ms_s, up_s, ← e11, ms_n (by decide), ms_s, up_n (by decide), ← e10, ms_n (by decide), ms_s, up_n (by decide), ← e9, ms_n (by decide), ms_s, up_n (by decide), e8, ms_s, up_n (by decide), e5, ms_n (by decide), e14, nI_1]
      · rw [e12, ms_s, up_n (by decide), ← e11, ms_n (by decide), ms_s, up_n (by decide), ← e10, ms_n (by decide), ms_s, up_n (by decide), ← e9, ms_n (by decide), ms_s, up_n (by decide), e8, ms_s, up_n (by decide), e5, ms_n (by decide)]
      · intro i hi
        rw [h38, up_n (by omega), up_n (by omega), up_n (by omega), up_n (by omega)]
      · rw [h38, up_n (by omega), up_n (by omega), up_n (by omega), up_s]
      · rw [h38, up_n (by omega), up_n (by omega), up_s]
      · rw [h38, up_n (by omega), up_s]
      · rw [h38, up_s]
    unfold wp_Model_readOneHouse_28
    rw [← es] at put
    unfold kyF at put
    refine ⟨fun q1 => ⟨fun q2 => ⟨fun q3 => ?_, fun q3 => ?_⟩, fun q2 => ?_⟩, fun q1 => ?_⟩
    · rw [if_neg q2, if_neg q1, if_neg q3] at put; exact put
    · rw [if_neg q2, if_neg q1, if_pos q3] at put; exact put
    · rw [if_pos q2] at put; exact put
    · rw [if_neg (by rw [q1]; decide), if_pos q1] at put; exact put
  obtain ⟨t1, t2, t3⟩ := t
  rw [e]
  by_cases hL : x + 1 < L
  · refine ⟨fun z => absurd z (nI_ge (by omega) (by omega)), fun _ => ⟨vp_in_nI (by omega) (by omega), ?_⟩⟩
    rw [nI_clamp (by omega), t3 (x + 1) hL]
    refine kind _ ?_
    unfold tcv
    rw [if_pos hL]
  · refine ⟨fun _ => kind _ ?_, fun z => absurd (nI_le (by omega) (by omega)) z⟩
    unfold tcv
    rw [if_neg hL]
    decide
