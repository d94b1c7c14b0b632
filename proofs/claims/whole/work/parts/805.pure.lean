theorem fa3 (a b : Int32) : a < b ∨ a = b ∨ b < a := by
  rcases Int.lt_trichotomy a.toInt b.toInt with h | h | h
  · exact Or.inl (Int32.lt_iff_toInt_lt.mpr h)
  · exact Or.inr (Or.inl (Int32.toInt_inj.mp h))
  · exact Or.inr (Or.inr (Int32.lt_iff_toInt_lt.mpr h))
def ftF (hr ln le a i n : Int32) : Int32 := if hr = 0 then 1 else if ln = a then (if 0 ≤ n then (if i < 0 then 3 else if le < i then 3 else if le - i < n then 3 else 0) else 4) else 2
def agF (so le a i n : Int32) : Int32 := if so = -9 then 1 else if so = a then (if 0 ≤ n then (if i < 0 then 3 else if le < i then 3 else if n ≤ le - i then 0 else 3) else 4) else 2
theorem C_ft {q : Nat} {a i n : Int32} {M : Mem} {R : Int32 → Mem → Prop} (h : R (ftF (M (2 + q) 1) (M (2 + q) 2) (M (2 + q) 3) a i n) M) : wp_Sheet_faultOfTaking q a i n M R := by
  unfold ftF at h
  simp only [wp_Sheet_faultOfTaking, wp_Sheet_holds]
  refine ⟨fun c1 => ?_, fun c1 => ?_⟩
  · rw [if_neg c1] at h
    refine ⟨fun c2 => ?_, fun c2 => ?_⟩
    · rw [if_pos c2] at h
      refine ⟨fun c3 => ?_, fun c3 => ?_⟩
      · rw [if_pos c3] at h
        refine ⟨fun c4 => ?_, fun c4 => ?_⟩
        · rw [if_pos c4] at h
          simp [h]
        · rw [if_neg c4] at h
          refine ⟨fun c5 => ?_, fun c5 => ?_⟩
          · rw [if_pos c5] at h
            simp [h]
          · rw [if_neg c5] at h
            refine ⟨fun c6 => absurd c3 (Int32.not_le.mpr c6), fun _ => ⟨fun c7 => ?_, fun c7 => ?_⟩⟩
            · rw [if_pos c7] at h
              simp [h]
            · rw [if_neg c7] at h
              simp [h]
      · rw [if_neg c3] at h
        exact h
    · rw [if_neg c2] at h
      exact h
  · rw [if_pos c1] at h
    exact h
theorem D_ag {k : Nat} (hk : k < 4) {a i n : Int32} {M : Mem} {R : Int32 → Mem → Prop} (h : R (agF (M 30 k) (M 31 k) a i n) M) : wp_Model_against (nI k) a i n M R := by
  have hin : vp_in (nI k) 4 := vp_in_nI hk (by omega)
  have hc : (nI k).toNatClampNeg = k := nI_clamp (by omega)
  unfold agF at h
  simp only [wp_Model_against, wp_Model_against_23, hc, hin, true_and]
  by_cases c1 : M 30 k = -9
  · rw [if_pos c1] at h
    simp [c1, h]
  · rw [if_neg c1] at h
    by_cases c2 : M 30 k = a
    · rw [if_pos c2] at h
      refine ⟨fun z => absurd z c1, fun _ => ⟨fun _ => ⟨fun _ => ?_, fun z => absurd z c1⟩, fun z => absurd c2 z⟩⟩
      by_cases c3 : 0 ≤ n
      · rw [if_pos c3] at h
        refine ⟨fun _ => ⟨fun c4 => ?_, fun c4 => ⟨fun c5 => ?_, fun c5 => ⟨fun c6 => ?_, fun c6 => ?_⟩⟩⟩, fun z => absurd c3 z⟩
        · rw [if_pos c4] at h; exact h
        · rw [if_neg c4, if_pos c5] at h; exact h
        · rw [if_neg c4, if_neg c5, if_pos c6] at h; exact h
        · rw [if_neg c4, if_neg c5, if_neg c6] at h; exact h
      · rw [if_neg c3] at h
        exact ⟨fun z => absurd z c3, fun _ => h⟩
    · rw [if_neg c2] at h
      exact ⟨fun z => absurd z c1, fun _ => ⟨fun z => absurd z c2, fun _ => h⟩⟩
theorem ft_ag {q : Nat} {M : Mem} (h : ShS q M) (a i n : Int32) : agF (M 30 q) (M 31 q) a i n = ftF (M (2 + q) 1) (M (2 + q) 2) (M (2 + q) 3) a i n := by
  unfold ftF agF
  have hr := h.row
  obtain ⟨-, ⟨le, hle, e1, e2⟩, h3⟩ := h
  rw [e1, e2]
  rcases h3 with ⟨h1, h2, -⟩ | ⟨h1, h2⟩
  · have n1 : ¬ M (2 + q) 1 = 0 := by rw [h1]; decide
    have n2 : ¬ M 30 q = -9 := fun z => n1 (hr.mpr z)
    rw [if_neg n1, if_neg n2, h2]
    by_cases c : nI le - i < n
    · rw [if_pos c, if_neg (Int32.not_le.mpr c)]
    · rw [if_neg c, if_pos (Int32.not_lt.mp c)]
  · rw [if_pos h2, if_pos h1]
theorem ft_zero {le : Nat} {hr ln a i n : Int32} (hle : le ≤ 60) (h : ftF hr ln (nI le) a i n = 0) : ∃ ii nn : Nat, i = nI ii ∧ n = nI nn ∧ ii + nn ≤ le ∧ ln = a ∧ ¬ hr = 0 := by
  unfold ftF at h
  by_cases c1 : hr = 0
  · rw [if_pos c1] at h; exact absurd h (by decide)
  rw [if_neg c1] at h
  by_cases c2 : ln = a
  · rw [if_pos c2] at h
    by_cases c3 : 0 ≤ n
    · rw [if_pos c3] at h
      by_cases c4 : i < 0
      · rw [if_pos c4] at h; exact absurd h (by decide)
      rw [if_neg c4] at h
      by_cases c5 : nI le < i
      · rw [if_pos c5] at h; exact absurd h (by decide)
      rw [if_neg c5] at h
      by_cases c6 : nI le - i < n
      · rw [if_pos c6] at h; exact absurd h (by decide)
      obtain ⟨ii, hi, rfl⟩ := nI_of2 (M := nI le) (n := le) (nI_toInt (by omega)) c4 (Int32.not_lt.mp c5)
      rw [pk_sub hi] at c6
      obtain ⟨nn, hn, rfl⟩ := nI_of2 (M := nI (le - ii)) (n := le - ii) (nI_toInt (by omega)) (Int32.not_lt.mpr c3) (Int32.not_lt.mp c6)
      exact ⟨ii, nn, rfl, rfl, by omega, c2, c1⟩
    · rw [if_neg c3] at h; exact absurd h (by decide)
  · rw [if_neg c2] at h; exact absurd h (by decide)
theorem ft_nz {hr ln le a i n : Int32} (h : ¬ ftF hr ln le a i n = 0) : ftF hr ln le a i n = 1 ∨ ftF hr ln le a i n = 2 ∨ ftF hr ln le a i n = 3 ∨ ftF hr ln le a i n = 4 := by
  unfold ftF at h ⊢
  repeat' split
  all_goals first | (simp; done) | skip
  all_goals simp_all
theorem C_cell_n1 {M : Mem} {R : Int64 → Mem → Prop} {a b c : Int32} (ha : a < 0 ∨ (¬ a < 0 ∧ 4 ≤ a)) (h : R (-9223372036854775808) (mset M 0 8 0)) : wp_Main_cell a b c M R := by
  simp only [wp_Main_cell, forall_eq, e_sheetOf_n ha]
  simp [h]
theorem C_cell_n2 {M : Mem} {R : Int64 → Mem → Prop} {k : Nat} {b c : Int32} (hk : k < 4) (hb : c < 0 ∨ (¬ c < 0 ∧ 3 ≤ c)) (h : R (-9223372036854775808) (mset M 0 8 0)) : wp_Main_cell (nI k) b c M R := by
  simp only [wp_Main_cell, forall_eq, e_sheetOf_y hk, e_isBelow_n hb]
  simp [h]
theorem C_cell_y {M : Mem} {R : Int64 → Mem → Prop} {k z : Nat} {b : Int32} (hk : k < 4) (hz : z < 3) (hf : ftF (M (2 + k) 1) (M (2 + k) 2) (M (2 + k) 3) (nI z) b 1 = 0 → vp_in b 60) (h : R (if ftF (M (2 + k) 1) (M (2 + k) 2) (M (2 + k) 3) (nI z) b 1 = 0 then (M (6 + k) b.toNatClampNeg).toInt64 else (-9223372036854775808)) (mset M 0 8 (ftF (M (2 + k) 1) (M (2 + k) 2) (M (2 + k) 3) (nI z) b 1))) : wp_Main_cell (nI k) b (nI z) M R := by
  simp only [wp_Main_cell, forall_eq, e_sheetOf_y hk, e_isBelow_y (N := 3) (n := 3) rfl hz (by omega)]
  refine ⟨fun z => (by cases z), ?_⟩
  intro q eq hq
  obtain rfl := Option.some.inj eq
  refine ⟨fun _ => C_ft ?_, fun z => absurd z (by decide)⟩
  rw [ms_n (show 2 + k ≠ 0 by omega), mm, ms_s, up_s, ms_n (show 6 + k ≠ 0 by omega)]
  refine ⟨fun c => ?_, fun c => ?_⟩
  · rw [if_neg c] at h; exact h
  · rw [if_pos c] at h; exact ⟨hf c, h⟩
theorem D_cell_n1 {M : Mem} {R : Int64 → Mem → Prop} {a b c : Int32} (ha : a < 0 ∨ (¬ a < 0 ∧ 3 < a)) (h : R (-9223372036854775808) (mset M 29 0 0)) : wp_Model_cell a b c M R := by
  simp only [wp_Model_cell, forall_eq, e_isSheet_n ha]
  simp [h]
theorem D_cell_n2 {M : Mem} {R : Int64 → Mem → Prop} {k : Nat} {b c : Int32} (hk : k < 4) (hb : c < 0 ∨ (¬ c < 0 ∧ 2 < c)) (h : R (-9223372036854775808) (mset M 29 0 0)) : wp_Model_cell (nI k) b c M R := by
  simp only [wp_Model_cell, forall_eq, e_isSheet_y hk, e_isSort_n hb]
  simp [h]
theorem D_cell_y {M : Mem} {R : Int64 → Mem → Prop} {k z le : Nat} {b : Int32} (hk : k < 4) (hz : z < 3) (hle : le ≤ 60) (e31 : M 31 k = nI le) (h : R (if agF (M 30 k) (nI le) (nI z) b 1 = 0 then (M 32 (60 * k + b.toNatClampNeg)).toInt64 else (-9223372036854775808)) (mset M 29 0 (agF (M 30 k) (nI le) (nI z) b 1))) : wp_Model_cell (nI k) b (nI z) M R := by
  have hin : vp_in (nI k) 4 := vp_in_nI hk (by omega)
  have hc : (nI k).toNatClampNeg = k := nI_clamp (by omega)
  have el : ∀ (c : Int32) (R' : Int64 → Mem → Prop), wp_Model_lost c (mset M 29 0 0) R' = R' (-9223372036854775808) (mset M 29 0 c) := by
    intro c R'
    simp only [wp_Model_lost, forall_eq, mm]
  simp only [wp_Model_cell, wp_Model_cell_50, forall_eq, e_isSheet_y hk, e_isSort_y hz, hc, hin, true_and, el]
  rw [ms_n (show 30 ≠ 29 by omega), ms_n (show 31 ≠ 29 by omega)]
  refine ⟨fun z => absurd z (by decide), fun _ => ⟨fun _ => ?_, fun z => absurd z (by decide)⟩⟩
  by_cases c1 : M 30 k = -9
  · have ea : agF (M 30 k) (nI le) (nI z) b 1 = 1 := by unfold agF; rw [if_pos c1]
    rw [ea] at h
    exact ⟨fun _ => ⟨fun z => absurd c1 z, fun _ => h⟩, fun z => absurd c1 z⟩
  refine ⟨fun z => absurd z c1, fun _ => ?_⟩
  by_cases c2 : M 30 k = nI z
  · refine ⟨fun _ => ⟨fun _ => ?_, fun z => absurd z c1⟩, fun z => absurd c2 z⟩
    rw [e31]
    have ea : agF (M 30 k) (nI le) (nI z) b 1 = if b < 0 then 3 else if nI le < b then 3 else if 1 ≤ nI le - b then 0 else 3 := by
      unfold agF
      rw [if_neg c1, if_pos c2, if_pos (by decide)]
    rcases cl1 (n := le) (N := nI le) (N1 := nI le - 1) rfl rfl (by omega) b with q | ⟨q, q2, q3⟩ | ⟨j, hj, rfl, q1, q2, q3, q4⟩
    · rw [e_within_n (Or.inl q)]
      rw [if_pos q] at ea
      rw [ea] at h
      exact ⟨fun z => absurd rfl z, fun _ => by rw [el]; exact h⟩
    · rw [e_within_n (Or.inr ⟨q, q3⟩)]
      have ea2 : agF (M 30 k) (nI le) (nI z) b 1 = 3 := by
        rw [ea, if_neg q]
        by_cases c4 : nI le < b
        · rw [if_pos c4]
        · have : b = nI le := by
            rcases fa3 b (nI le) with w | w | w
            · exact absurd q2 (Int32.not_le.mpr w)
            · exact w
            · exact absurd w c4
          rw [if_neg c4, this, pk_sub (Nat.le_refl le), Nat.sub_self]
          rfl
      rw [ea2] at h
      exact ⟨fun z => absurd rfl z, fun _ => by rw [el]; exact h⟩
    · rw [e_within_y q1 q3]
      have ea2 : agF (M 30 k) (nI le) (nI z) (nI j) 1 = 0 := by
        rw [ea, if_neg q1, if_neg (nI_nlt (by omega) (by omega)), pk_sub (by omega), if_pos (show (1 : Int32) ≤ nI (le - j) from nI_le (a := 1) (b := le - j) (by omega) (by omega))]
      rw [ea2, q4] at h
      refine ⟨fun _ => ?_, fun z => absurd z (by decide)⟩
      rw [ix60, nI_clamp (by omega), ms_n (show 32 ≠ 29 by omega)]
      exact ⟨vp_in_nI (by omega) (by omega), h⟩
  · have ea : agF (M 30 k) (nI le) (nI z) b 1 = 2 := by unfold agF; rw [if_neg c1, if_neg c2]
    rw [ea] at h
    exact ⟨fun z => absurd z c2, fun _ => h⟩
theorem st_cell : St_cell Inv := by
  intro a b c M h
  obtain ⟨hwr, hf, hs⟩ := id h
  rcases sh_cl a with ⟨g1, g2⟩ | ⟨k, hk, rfl⟩
  · exact C_cell_n1 g1 (D_cell_n1 g2 ⟨rfl, h.flt 0⟩)
  rcases lane_cl c with ⟨g1, g2⟩ | ⟨z, hz, rfl⟩
  · exact C_cell_n2 hk g1 (D_cell_n2 hk g2 ⟨rfl, h.flt 0⟩)
  obtain ⟨s1, ⟨le, hle, e1, e2⟩, s3⟩ := id (hs k hk)
  have hag := ft_ag (hs k hk) (nI z) b 1
  have hz0 : ftF (M (2 + k) 1) (M (2 + k) 2) (M (2 + k) 3) (nI z) b 1 = 0 → ∃ j, j < 60 ∧ b = nI j := by
    intro q
    rw [e1] at q
    obtain ⟨ii, nn, r1, r2, r3, -, -⟩ := ft_zero hle q
    have : nn = 1 := ((nI_eq (a := 1) (b := nn) (by omega) (by omega)).mp r2).symm
    exact ⟨ii, by omega, r1⟩
  refine C_cell_y hk hz (fun q => ?_) (D_cell_y hk hz hle (by exact e2) ⟨?_, ?_⟩)
  · obtain ⟨j, hj, rfl⟩ := hz0 q
    exact vp_in_nI hj (by omega)
  · rw [ms_n (show 30 ≠ 0 by omega), ms_n (show 32 ≠ 0 by omega)]
    rw [e2] at hag
    rw [hag]
    by_cases q : ftF (M (2 + k) 1) (M (2 + k) 2) (M (2 + k) 3) (nI z) b 1 = 0
    · rw [if_pos q, if_pos q]
      obtain ⟨j, hj, rfl⟩ := hz0 q
      rw [nI_clamp (by omega), s1 j hj]
    · rw [if_neg q, if_neg q]
  · rw [ms_n (show 30 ≠ 0 by omega)]
    rw [e2] at hag
    rw [hag]
    exact h.flt _
