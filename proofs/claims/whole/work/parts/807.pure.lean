def hoP (le i n : Int32) : Prop := ¬ i < 0 ∧ ¬ le < i ∧ ¬ n < 0 ∧ ¬ le - i < n
theorem hoP_nat {le : Nat} {i n : Int32} (hle : le ≤ 60) (h : hoP (nI le) i n) : ∃ ii nn : Nat, i = nI ii ∧ n = nI nn ∧ ii + nn ≤ le := by
  obtain ⟨c4, c5, c3, c6⟩ := h
  obtain ⟨ii, hi, rfl⟩ := nI_of2 (M := nI le) (n := le) (nI_toInt (by omega)) c4 (Int32.not_lt.mp c5)
  rw [pk_sub hi] at c6
  obtain ⟨nn, hn, rfl⟩ := nI_of2 (M := nI (le - ii)) (n := le - ii) (nI_toInt (by omega)) c3 (Int32.not_lt.mp c6)
  exact ⟨ii, nn, rfl, rfl, by omega⟩
theorem C_ho_y {q : Nat} {i n : Int32} {M : Mem} {R : Int32 → Mem → Prop} (h0 : hoP (M (2 + q) 3) i n) (h : R 1 M) : wp_Sheet_holds q i n M R := by
  obtain ⟨c1, c2, c3, c4⟩ := h0
  exact ⟨fun z => absurd z c1, fun _ => ⟨fun z => absurd z c2, fun _ => ⟨fun z => absurd z c3, fun _ => ⟨fun z => absurd z c4, fun _ => h⟩⟩⟩⟩
theorem C_ho_n {q : Nat} {i n : Int32} {M : Mem} {R : Int32 → Mem → Prop} (h0 : ¬ hoP (M (2 + q) 3) i n) (h : R 0 M) : wp_Sheet_holds q i n M R :=
  ⟨fun _ => h, fun c1 => ⟨fun _ => h, fun c2 => ⟨fun _ => h, fun c3 => ⟨fun _ => h, fun c4 => absurd ⟨c1, c2, c3, c4⟩ h0⟩⟩⟩⟩
theorem C_copy_n1 {M : Mem} {R : Int32 → Mem → Prop} {a b c d e : Int32} (ha : (a < 0 ∨ (¬ a < 0 ∧ 4 ≤ a)) ∨ (c < 0 ∨ (¬ c < 0 ∧ 4 ≤ c))) (h : R (-1) (mset M 0 8 0)) : wp_Main_copy a b c d e M R := by
  simp only [wp_Main_copy, forall_eq]
  rcases sh_cl a with ⟨g1, -⟩ | ⟨k, hk, rfl⟩
  · rw [e_sheetOf_n g1]
    refine ⟨fun _ => ?_, fun q z => (by cases z)⟩
    rcases sh_cl c with ⟨g1, -⟩ | ⟨o, ho, rfl⟩
    · rw [e_sheetOf_n g1]
      exact ⟨fun _ => h, fun q z => (by cases z)⟩
    · rw [e_sheetOf_y ho]
      exact ⟨fun z => (by cases z), fun q _ _ => h⟩
  · rcases ha with ha | ha
    · rw [e_sheetOf_n ha]
      refine ⟨fun _ => ?_, fun q z => (by cases z)⟩
      rcases sh_cl c with ⟨g1, -⟩ | ⟨o, ho, rfl⟩
      · rw [e_sheetOf_n g1]
        exact ⟨fun _ => h, fun q z => (by cases z)⟩
      · rw [e_sheetOf_y ho]
        exact ⟨fun z => (by cases z), fun q _ _ => h⟩
    · rw [e_sheetOf_y hk]
      refine ⟨fun z => (by cases z), fun q eq hq => ?_⟩
      rw [e_sheetOf_n ha]
      exact ⟨fun _ => h, fun q z => (by cases z)⟩
theorem C_copy_h {M : Mem} {R : Int32 → Mem → Prop} {k o : Nat} {b d e : Int32} (hk : k < 4) (ho : o < 4) (h : (((mset M 0 8 0 (2 + k) 1) = (0 : Int32) → (wp_Main_copy_47 R (mset M 0 8 0))) ∧ (¬ ((mset M 0 8 0 (2 + k) 1) = (0 : Int32)) → (((¬ (mset M 0 8 0 (2 + o) 1) = (0 : Int32) → ((((mset M 0 8 0 (2 + k) 2) = (mset M 0 8 0 (2 + o) 2) → (wp_Sheet_holds k b e (mset M 0 8 0) (fun r19 M18 => ((r19 = (0 : Int32) → (wp_Main_copy_95 R M18)) ∧ (¬ (r19 = (0 : Int32)) → (wp_Sheet_holds o d e M18 (fun r22 M21 => ((¬ r22 = (0 : Int32) → (¬ b < (0 : Int32) ∧ ¬ d < (0 : Int32) ∧ ¬ e < (0 : Int32) ∧ b.toNatClampNeg + e.toNatClampNeg ≤ 60 ∧ d.toNatClampNeg + e.toNatClampNeg ≤ 60 ∧ ∀ M29 : Mem, M29 = mrow M21 (6 + o) (va_cpy (M21 (6 + k)) (M21 (6 + o)) b.toNatClampNeg d.toNatClampNeg e.toNatClampNeg) → R e M29)) ∧ (r22 = (0 : Int32) → (wp_Main_copy_95 R M21)))))))))) ∧ (¬ ((mset M 0 8 0 (2 + k) 2) = (mset M 0 8 0 (2 + o) 2)) → (wp_Main_failed (2 : Int32) (mset M 0 8 0) (fun r31 M30 => R r31 M30)))))) ∧ ((mset M 0 8 0 (2 + o) 1) = (0 : Int32) → (wp_Main_copy_47 R (mset M 0 8 0)))))))) : wp_Main_copy (nI k) b (nI o) d e M R := by
  intro M5 e5
  rw [e5, e_sheetOf_y hk]
  refine ⟨fun z => (by cases z), fun q eq hq => ?_⟩
  obtain rfl := Option.some.inj eq
  rw [e_sheetOf_y ho]
  refine ⟨fun z => (by cases z), fun q eq hq => ?_⟩
  obtain rfl := Option.some.inj eq
  exact h
theorem C_copy_n2 {M : Mem} {R : Int32 → Mem → Prop} {k o : Nat} {b d e : Int32} (hk : k < 4) (ho : o < 4) (h0 : M (2 + k) 1 = 0 ∨ M (2 + o) 1 = 0) (h : R (-11) (mset M 0 8 1)) : wp_Main_copy (nI k) b (nI o) d e M R := by
  refine C_copy_h hk ho ?_
  simp only [wp_Main_copy_47, e_failed]
  rw [ms_n (show 2 + k ≠ 0 by omega), ms_n (show 2 + o ≠ 0 by omega)]
  refine ⟨fun _ => h, fun c1 => ⟨fun c2 => ?_, fun _ => h⟩⟩
  rcases h0 with h0 | h0
  · exact absurd h0 c1
  · exact absurd h0 c2
theorem C_copy_n3 {M : Mem} {R : Int32 → Mem → Prop} {k o : Nat} {b d e : Int32} (hk : k < 4) (ho : o < 4) (h0 : ¬ M (2 + k) 1 = 0) (h1 : ¬ M (2 + o) 1 = 0) (h2 : ¬ M (2 + k) 2 = M (2 + o) 2) (h : R (-12) (mset M 0 8 2)) : wp_Main_copy (nI k) b (nI o) d e M R := by
  refine C_copy_h hk ho ?_
  simp only [e_failed]
  rw [ms_n (show 2 + k ≠ 0 by omega), ms_n (show 2 + o ≠ 0 by omega)]
  exact ⟨fun z => absurd z h0, fun _ => ⟨fun _ => ⟨fun z => absurd z h2, fun _ => h⟩, fun z => absurd z h1⟩⟩
theorem C_copy_n4 {M : Mem} {R : Int32 → Mem → Prop} {k o : Nat} {b d e : Int32} (hk : k < 4) (ho : o < 4) (h0 : ¬ M (2 + k) 1 = 0) (h1 : ¬ M (2 + o) 1 = 0) (h2 : M (2 + k) 2 = M (2 + o) 2) (h3 : ¬ hoP (M (2 + k) 3) b e ∨ ¬ hoP (M (2 + o) 3) d e) (h : R (-13) (mset M 0 8 3)) : wp_Main_copy (nI k) b (nI o) d e M R := by
  refine C_copy_h hk ho ?_
  simp only [wp_Main_copy_95]
  rw [ms_n (show 2 + k ≠ 0 by omega), ms_n (show 2 + o ≠ 0 by omega)]
  refine ⟨fun z => absurd z h0, fun _ => ⟨fun _ => ⟨fun _ => ?_, fun z => absurd h2 z⟩, fun z => absurd z h1⟩⟩
  by_cases c1 : hoP (M (2 + k) 3) b e
  · refine C_ho_y (by rw [ms_n (by omega)]; exact c1) ⟨fun z => absurd z (by decide), fun _ => ?_⟩
    have c2 : ¬ hoP (M (2 + o) 3) d e := by
      rcases h3 with h3 | h3
      · exact absurd c1 h3
      · exact h3
    refine C_ho_n (by rw [ms_n (by omega)]; exact c2) ⟨fun z => absurd rfl z, fun _ => ?_⟩
    rw [e_failed]; exact h
  · refine C_ho_n (by rw [ms_n (by omega)]; exact c1) ⟨fun _ => ?_, fun z => absurd rfl z⟩
    rw [e_failed]; exact h
theorem C_copy_y {M : Mem} {R : Int32 → Mem → Prop} {k o i j n : Nat} (hk : k < 4) (ho : o < 4) (h0 : ¬ M (2 + k) 1 = 0) (h1 : ¬ M (2 + o) 1 = 0) (h2 : M (2 + k) 2 = M (2 + o) 2) (h3 : hoP (M (2 + k) 3) (nI i) (nI n)) (h4 : hoP (M (2 + o) 3) (nI j) (nI n)) (hi : i + n ≤ 60) (hj : j + n ≤ 60) (h : R (nI n) (mrow (mset M 0 8 0) (6 + o) (va_cpy (M (6 + k)) (M (6 + o)) i j n))) : wp_Main_copy (nI k) (nI i) (nI o) (nI j) (nI n) M R := by
  refine C_copy_h hk ho ?_
  rw [ms_n (show 2 + k ≠ 0 by omega), ms_n (show 2 + o ≠ 0 by omega)]
  refine ⟨fun z => absurd z h0, fun _ => ⟨fun _ => ⟨fun _ => ?_, fun z => absurd h2 z⟩, fun z => absurd z h1⟩⟩
  refine C_ho_y (by rw [ms_n (by omega)]; exact h3) ⟨fun z => absurd z (by decide), fun _ => ?_⟩
  refine C_ho_y (by rw [ms_n (by omega)]; exact h4) ⟨fun _ => ?_, fun z => absurd z (by decide)⟩
  rw [nI_clamp (n := i) (by omega), nI_clamp (n := j) (by omega), nI_clamp (n := n) (by omega)]
  refine ⟨nI_pos (by omega), nI_pos (by omega), nI_pos (by omega), hi, hj, ?_⟩
  intro M29 e29
  rw [e29, ms_n (show 6 + k ≠ 0 by omega), ms_n (show 6 + o ≠ 0 by omega)]
  exact h
theorem D_copy_n1 {M : Mem} {R : Int32 → Mem → Prop} {a b c d e : Int32} (ha : (a < 0 ∨ (¬ a < 0 ∧ 3 < a)) ∨ (c < 0 ∨ (¬ c < 0 ∧ 3 < c))) (h : R (-1) (mset M 29 0 0)) : wp_Model_copy a b c d e M R := by
  intro X hX M17 e17
  rw [e17]
  rcases sh_cl a with ⟨-, g1⟩ | ⟨k, hk, rfl⟩
  · rw [e_isSheet_n g1]
    exact ⟨fun _ => h, fun z => absurd rfl z⟩
  · rcases ha with ha | ha
    · rw [e_isSheet_n ha]
      exact ⟨fun _ => h, fun z => absurd rfl z⟩
    · rw [e_isSheet_y hk]
      refine ⟨fun z => absurd z (by decide), fun _ => ?_⟩
      rw [e_isSheet_n ha]
      exact ⟨fun z => absurd rfl z, fun _ => h⟩
theorem D_copy_n2 {M : Mem} {R : Int32 → Mem → Prop} {k o : Nat} {b d e : Int32} (hk : k < 4) (ho : o < 4) (h0 : M 30 k = -9 ∨ M 30 o = -9) (h : R (-11) (mset M 29 0 1)) : wp_Model_copy (nI k) b (nI o) d e M R := by
  intro X hX M17 e17
  rw [e17, e_isSheet_y hk]
  refine ⟨fun z => absurd z (by decide), fun _ => ?_⟩
  rw [e_isSheet_y ho, nI_clamp (n := k) (by omega), nI_clamp (n := o) (by omega), ms_n (show 30 ≠ 29 by omega), ms_n (show 31 ≠ 29 by omega)]
  refine ⟨fun _ => ⟨vp_in_nI hk (by omega), fun _ => ?_, fun c1 => ⟨vp_in_nI ho (by omega), fun c2 => ?_, fun _ => ?_⟩⟩, fun z => absurd z (by decide)⟩
  · show wp_Model_fails _ _ _
    rw [e_fails]; exact h
  · rcases h0 with h0 | h0
    · exact absurd h0 c1
    · exact absurd h0 c2
  · show wp_Model_fails _ _ _
    rw [e_fails]; exact h
theorem D_copy_h {M : Mem} {R : Int32 → Mem → Prop} {k o : Nat} {b d e : Int32} (hk : k < 4) (ho : o < 4) (h0 : ¬ M 30 k = -9) (h1 : ¬ M 30 o = -9) (h2 : M 30 k = M 30 o) (h3 : ¬ hoP (M 31 k) b e ∨ ¬ hoP (M 31 o) d e → R (-13) (mset M 29 0 3)) (h4 : ∀ X, (∀ (x1 : Int32) (x2 : Int32) (x3 : Int32) (x4 : Int32) (x5 : Int32) (x7 : Int32) (x8 : Int32) (M : Mem), wp_Model_copy_166 X R x1 x2 x3 x4 x5 x7 x8 M → X x1 x2 x3 x4 x5 x7 x8 M) → hoP (M 31 k) b e → hoP (M 31 o) d e → X (nI k) b (nI o) d e (if d ≤ b then 0 else 1) 0 (mset M 29 0 0)) : wp_Model_copy (nI k) b (nI o) d e M R := by
  intro X hX M17 e17
  have hk4 := vp_in_nI (n := k) (N := 4) hk (by omega)
  have ho4 := vp_in_nI (n := o) (N := 4) ho (by omega)
  rw [e17, e_isSheet_y hk]
  refine ⟨fun z => absurd z (by decide), fun _ => ?_⟩
  have bad : (¬ hoP (M 31 k) b e ∨ ¬ hoP (M 31 o) d e) → wp_Model_copy_144 X R (mset M 29 0 0) := by
    intro hb
    show wp_Model_fails _ _ _
    rw [e_fails]
    exact h3 hb
  have bad9 : (¬ hoP (M 31 k) b e ∨ ¬ hoP (M 31 o) d e) → wp_Model_copy_109 X R (nI k) b (nI o) d e (mset M 29 0 0) := by
    intro hb
    exact ⟨fun _ => bad hb, fun z => absurd rfl z⟩
  rw [e_isSheet_y ho, nI_clamp (n := k) (by omega), nI_clamp (n := o) (by omega), ms_n (show 30 ≠ 29 by omega), ms_n (show 31 ≠ 29 by omega)]
  refine ⟨fun _ => ⟨hk4, fun z => absurd z h0, fun _ => ⟨ho4, fun _ => ⟨hk4, ho4, fun _ => ?_, fun z => absurd h2 z⟩, fun z => absurd z h1⟩⟩, fun z => absurd z (by decide)⟩
  refine ⟨fun c => bad9 (Or.inl fun q => q.1 c), fun c1 => ⟨fun c => bad9 (Or.inr fun q => q.1 c), fun c2 => ⟨fun c => bad9 (Or.inl fun q => q.2.2.1 c), fun c3 => ⟨hk4, fun c => bad9 (Or.inl fun q => q.2.1 c), fun c4 => ⟨ho4, fun c => bad9 (Or.inr fun q => q.2.1 c), fun c5 => ?_⟩⟩⟩⟩⟩
  unfold wp_Model_copy_110
  rw [nI_clamp (n := k) (by omega), nI_clamp (n := o) (by omega), ms_n (show 31 ≠ 29 by omega)]
  refine ⟨fun z => absurd z (by decide), fun _ => ⟨hk4, fun c => bad (Or.inl fun q => q.2.2.2 c), fun c6 => ⟨ho4, fun c7 => ?_, fun c => bad (Or.inr fun q => c (Int32.not_lt.mp q.2.2.2))⟩⟩⟩
  have fin := h4 X hX ⟨c1, c4, c3, c6⟩ ⟨c2, c5, c3, Int32.not_lt.mpr c7⟩
  refine ⟨fun c => ?_, fun c => ?_⟩
  · rw [if_pos c] at fin; exact fin
  · rw [if_neg c] at fin; exact fin
theorem D_copy_n3 {M : Mem} {R : Int32 → Mem → Prop} {k o : Nat} {b d e : Int32} (hk : k < 4) (ho : o < 4) (h0 : ¬ M 30 k = -9) (h1 : ¬ M 30 o = -9) (h2 : ¬ M 30 k = M 30 o) (h : R (-12) (mset M 29 0 2)) : wp_Model_copy (nI k) b (nI o) d e M R := by
  intro X hX M17 e17
  have hk4 := vp_in_nI (n := k) (N := 4) hk (by omega)
  have ho4 := vp_in_nI (n := o) (N := 4) ho (by omega)
  rw [e17, e_isSheet_y hk]
  refine ⟨fun z => absurd z (by decide), fun _ => ?_⟩
  rw [e_isSheet_y ho, nI_clamp (n := k) (by omega), nI_clamp (n := o) (by omega), ms_n (show 30 ≠ 29 by omega), ms_n (show 31 ≠ 29 by omega)]
  refine ⟨fun _ => ⟨hk4, fun z => absurd z h0, fun _ => ⟨ho4, fun _ => ⟨hk4, ho4, fun z => absurd z h2, fun _ => ?_⟩, fun z => absurd z h1⟩⟩, fun z => absurd z (by decide)⟩
  rw [e_fails]; exact h
