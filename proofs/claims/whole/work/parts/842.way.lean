theorem nm9 {f : Nat} (h : f < 1000) : ¬ nI f = -9 := fun z => by
  have := nI_pos (n := f) (by omega)
  rw [z] at this
  exact this (by decide)
theorem C_way0 {k ii nn : Nat} (hk : k < 4) (hb : ii + nn ≤ 60) {T : Nat → Int32} {M : Mem} {R : Int32 → Mem → Prop} (hT : ∀ j, j < nn → M (6 + k) (ii + j) = T j)
    (kb : ¬ (pA T nn).1 = true → ∀ M', SE M M' → R ((-100 : Int32) - nI (pA T nn).2.1) M')
    (kg : (pA T nn).1 = true → ∀ M', (∀ q, ¬ (10 ≤ q ∧ q ≤ 17) → q ≠ 26 → M' q = M q) → M' 12 5 = nI (pA T nn).2.2.1 → M' 12 6 = nI (pA T nn).2.2.2 → M' 12 7 = M 12 7 → M' 26 4 = 0 → M' 13 = lay (pA T nn).2.2.1 (vK T nn) (M 13) → M' 14 = lay (pA T nn).2.2.1 (vD T nn 2) (M 14) → M' 15 = lay (pA T nn).2.2.1 (vD T nn 3) (M 15) → M' 16 = lay (pA T nn).2.2.1 (vD T nn 4) (M 16) → M' 17 = lay (pA T nn).2.2.2 (vG T nn (pA T nn).2.2.1) (M 17) → R (nI (pA T nn).2.2.1) M') : wp_Text_read k (nI ii) (nI nn) M (fun M11 => wp_Text_firstFault M11 (fun r13 M12 => ((r13 = (-9 : Int32) → (wp_Way_become M12 (fun M15 => ∀ M16 : Mem, M16 = mset M15 26 4 (0 : Int32) → R (M16 12 5) M16))) ∧ (¬ (r13 = (-9 : Int32)) → (R ((-100 : Int32) - r13) M12))))) := by
  unfold wp_Text_read
  rw [nI_clamp (by omega), nI_clamp (by omega)]
  refine ⟨nI_pos (by omega), by decide, nI_pos (by omega), hb, by show 0 + nn ≤ 60; omega, ?_⟩
  intro M6 e6 M7 e7
  have tx : TX T nn M7 := by
    refine ⟨by omega, by rw [e7, ms_s, up_s], fun j hj => ?_⟩
    rw [e7, ms_n (by decide), e6, mr_s]
    show va_cpy (M (6 + k)) (M 11) ii 0 nn j = T j
    rw [pk_cpy_in (by omega) (by omega), show ii + (j - 0) = ii + j by omega]
    exact hT j hj
  have f7 : ∀ q, q ≠ 10 → q ≠ 11 → M7 q = M q := fun q h1 h2 => by rw [e7, ms_n h1, e6, mr_n h2]
  obtain ⟨a1, a2⟩ := pA_ok T nn
  refine C_ff tx (fun M12 f12 g1 g2 => ?_)
  have f12' : ∀ q, q ≠ 10 → q ≠ 11 → M12 q = M q := fun q h1 h2 => (f12 q h1).trans (f7 q h1 h2)
  by_cases ok : (pA T nn).1 = true
  · rw [if_pos ok]
    refine ⟨fun _ => ?_, fun z => absurd rfl z⟩
    obtain ⟨⟨b1, b2, b3, b4⟩, -, -⟩ := a2 ok
    obtain ⟨g3, g4⟩ := g2 ok
    refine C_become b2 b4 (T := T) (L := nn) ⟨by omega, g1, fun j hj => by rw [f12 11 (by decide)]; exact tx.2.2 j hj⟩ g3 g4 (fun M15 f15 c5 c6 c7 c13 c14 c15 c16 c17 => ?_)
    intro M16 e16
    have r12 : M16 12 = M15 12 := by rw [e16, ms_n (by decide)]
    rw [r12, c5]
    refine kg ok M16 (fun q h1 h2 => by rw [e16, ms_n h2, f15 q (by omega)]; exact f12' q (by omega) (by omega)) (by rw [r12]; exact c5) (by rw [r12]; exact c6) (by rw [r12, c7, f12' 12 (by decide) (by decide)]) (by rw [e16, ms_s, up_s]) ?_ ?_ ?_ ?_ ?_
    · rw [e16, ms_n (by decide), c13, f12' 13 (by decide) (by decide)]
    · rw [e16, ms_n (by decide), c14, f12' 14 (by decide) (by decide)]
    · rw [e16, ms_n (by decide), c15, f12' 15 (by decide) (by decide)]
    · rw [e16, ms_n (by decide), c16, f12' 16 (by decide) (by decide)]
    · rw [e16, ms_n (by decide), c17, f12' 17 (by decide) (by decide)]
  · rw [if_neg ok]
    refine ⟨fun z => absurd z (nm9 (by omega)), fun _ => kb ok M12 ?_⟩
    intro q j e
    rw [f12' q]
    all_goals
      intro z
      subst z
      cases e
theorem D_way {k c ii nn : Nat} (hk : k < 4) (hc : c < 3) (hb : ii + nn ≤ 60) {T : Nat → Int32} {M : Mem} {R : Int32 → Mem → Prop} (hag : agF (M 30 k) (M 31 k) (nI c) (nI ii) (nI nn) = 0) (hT : ∀ j, j < nn → M 32 (60 * k + ii + j) = T j)
    (kb : ¬ (pA T nn).1 = true → ∀ M', SE (mset M 29 0 0) M' → R ((-100 : Int32) - nI (pA T nn).2.1) M')
    (kg : (pA T nn).1 = true → ∀ M', (∀ q, q ≠ 29 → ¬ (33 ≤ q ∧ q ≤ 39) → M' q = M q) → M' 29 0 = 0 → M' 29 1 = M 29 1 → M' 29 12 = M 29 12 → M' 29 5 = nI (pA T nn).2.2.1 → M' 29 6 = nI (pA T nn).2.2.2 → M' 29 23 = 0 → M' 33 = lay (pA T nn).2.2.1 (vK T nn) (M 33) → M' 34 = lay (pA T nn).2.2.1 (vD T nn 2) (M 34) → M' 35 = lay (pA T nn).2.2.1 (vD T nn 3) (M 35) → M' 36 = lay (pA T nn).2.2.1 (vD T nn 4) (M 36) → M' 37 = lay (pA T nn).2.2.2 (vG T nn (pA T nn).2.2.1) (M 37) → R (nI (pA T nn).2.2.1) M') : wp_Model_way (nI k) (nI c) (nI ii) (nI nn) M R := by
  intro X103 X191 h103 h191 M21 e21
  have f21 : ∀ q, q ≠ 29 → M21 q = M q := fun q hq => by rw [e21, ms_n hq]
  rw [e_isSheet_y hk]
  refine ⟨fun _ => ?_, fun z => absurd z (by decide)⟩
  rw [e_isSort_y hc]
  refine ⟨fun _ => ?_, fun z => absurd z (by decide)⟩
  refine D_ag hk ?_
  rw [f21 30 (by decide), f21 31 (by decide), hag]
  refine ⟨fun _ => ?_, fun z => absurd rfl z⟩
  intro x6 e6 M32 e32
  rw [ix60] at e6
  subst e6
  rw [nI_add]
  have f32 : ∀ q, q ≠ 29 → M32 q = M q := fun q hq => by rw [e32, ms_n hq]; exact f21 q hq
  have tm : TM T nn (60 * k + ii) M32 := ⟨by omega, by omega, fun j hj => by rw [f32 32 (by decide)]; exact hT j hj⟩
  refine D_rw tm (by rw [e32, ms_s, up_s]) (fun M33 f33 g13 gg => ?_)
  have se33 : SE M21 M33 := (by rw [e32]; exact SE.rf.set rfl _ : SE M21 M32).tr f33.se
  obtain ⟨a1, a2⟩ := pA_ok T nn
  by_cases ok : (pA T nn).1 = true
  · rw [if_pos ok]
    refine ⟨fun _ => ?_, fun z => absurd z (by decide)⟩
    obtain ⟨⟨b1, b2, b3, b4⟩, -, -⟩ := a2 ok
    obtain ⟨g14, g15, hs, gs⟩ := gg ok
    intro M36 e36 M37 e37
    have f37 : ∀ q, q ≠ 29 → M37 q = M33 q := fun q hq => by rw [e37, ms_n hq, e36, ms_n hq]
    have g5 : M37 29 5 = nI (pA T nn).2.2.1 := by rw [e37, ms_s, up_n (by decide), e36, ms_s, up_s]; exact g14
    have g6 : M37 29 6 = nI (pA T nn).2.2.2 := by rw [e37, ms_s, up_s, e36, ms_s, up_n (by decide)]; exact g15
    have old : ∀ q, q ≠ 29 → q ≠ 38 → q ≠ 39 → M37 q = M q := fun q h1 h2 h3 => by rw [f37 q h1, f33.1 q h1 h2 h3]; exact f32 q h1
    have o29 : ∀ j, j ≠ 5 → j ≠ 6 → j ≠ 13 → j ≠ 14 → j ≠ 15 → M37 29 j = M21 29 j := fun j h5 h6 h13 h14 h15 => by
      rw [e37, ms_s, up_n h6, e36, ms_s, up_n h5, f33.2 j h13 h14 h15, e32, ms_s, up_n h13]
    refine D_become b2 b4 (T := T) (L := nn) h103 h191 g5 g6 (fun h hh => by rw [f37 38 (by decide)]; exact hs h hh) (fun g hg => by rw [f37 39 (by decide)]; exact gs g hg) (fun M' f' o' z23 c13 c14 c15 c16 c17 => ?_)
    refine kg ok M' (fun q h1 h2 => by rw [f' q h1 (by omega)]; exact old q h1 (by omega) (by omega)) ?_ ?_ ?_ ?_ ?_ z23 ?_ ?_ ?_ ?_ ?_
    · rw [o' 0 (by decide), o29 0 (by decide) (by decide) (by decide) (by decide) (by decide), e21, ms_s, up_s]
    · rw [o' 1 (by decide), o29 1 (by decide) (by decide) (by decide) (by decide) (by decide), e21, ms_s, up_n (by decide)]
    · rw [o' 12 (by decide), o29 12 (by decide) (by decide) (by decide) (by decide) (by decide), e21, ms_s, up_n (by decide)]
    · rw [o' 5 (by decide)]; exact g5
    · rw [o' 6 (by decide)]; exact g6
    · rw [c13, old 33 (by decide) (by decide) (by decide)]
    · rw [c14, old 34 (by decide) (by decide) (by decide)]
    · rw [c15, old 35 (by decide) (by decide) (by decide)]
    · rw [c16, old 36 (by decide) (by decide) (by decide)]
    · rw [c17, old 37 (by decide) (by decide) (by decide)]
  · rw [if_neg ok]
    refine ⟨fun z => absurd rfl z, fun _ => ?_⟩
    rw [g13, pk_sub (by omega), show 60 * k + ii + (pA T nn).2.1 - (60 * k + ii) = (pA T nn).2.1 by omega]
    refine kb ok M33 ?_
    rw [← e21]
    exact se33
