theorem Inv.ft {M M' : Mem} (h : Inv M) (e : ∀ k, k ≠ 0 → k ≠ 29 → M' k = M k) (e29 : ∀ j, j ≠ 0 → j ≠ 1 → M' 29 j = M 29 j) (e0 : M' 29 0 = M' 0 8) (e1 : M' 29 1 = M' 0 7) : Inv M' := by
  obtain ⟨⟨n, m, c, h1, h2⟩, h3, h4⟩ := h
  refine ⟨⟨n, m, c, h1.of ?_ (e29 5 (by decide) (by decide)) (e29 6 (by decide) (by decide)) (e29 12 (by decide) (by decide)), h2.of ?_ (by rw [e 26 (by decide) (by decide)]) (e29 23 (by decide) (by decide))⟩, ⟨e1, e0⟩, h4.of ?_⟩
  · simp only [List.mem_cons, List.not_mem_nil, or_false]
    intro k hk
    exact e k (by omega) (by omega)
  · simp only [List.mem_cons, List.not_mem_nil, or_false]
    intro k hk
    exact e k (by omega) (by omega)
  · simp only [List.mem_cons, List.not_mem_nil, or_false]
    intro k hk
    exact e k (by omega) (by omega)
theorem Inv.sh {M M' : Mem} (h : Inv M) (e : ∀ k, k ≠ 0 → k ≠ 29 → ¬ (2 ≤ k ∧ k ≤ 9) → ¬ (30 ≤ k ∧ k ≤ 32) → M' k = M k) (e29 : ∀ j, j ≠ 0 → M' 29 j = M 29 j) (e7 : M' 0 7 = M 0 7) (e0 : M' 29 0 = M' 0 8) (hs : IvS M') : Inv M' := by
  obtain ⟨⟨n, m, c, h1, h2⟩, h3, h4⟩ := h
  refine ⟨⟨n, m, c, h1.of ?_ (e29 5 (by decide)) (e29 6 (by decide)) (e29 12 (by decide)), h2.of ?_ (by rw [e 26 (by decide) (by decide) (by decide) (by decide)]) (e29 23 (by decide))⟩, ⟨by rw [e29 1 (by decide), e7]; exact h3.1, e0⟩, hs⟩
  · simp only [List.mem_cons, List.not_mem_nil, or_false]
    intro k hk
    exact e k (by omega) (by omega) (by omega) (by omega)
  · simp only [List.mem_cons, List.not_mem_nil, or_false]
    intro k hk
    exact e k (by omega) (by omega) (by omega) (by omega)
theorem ShS.of {q : Nat} {M M' : Mem} (h : ShS q M) (e2 : M' (2 + q) = M (2 + q)) (e6 : M' (6 + q) = M (6 + q)) (e30 : M' 30 q = M 30 q) (e31 : M' 31 q = M 31 q) (e32 : ∀ j, j < 60 → M' 32 (60 * q + j) = M 32 (60 * q + j)) : ShS q M' := by
  unfold ShS at h ⊢
  rw [e2, e6, e30, e31]
  exact ⟨fun j hj => by rw [e32 j hj]; exact h.1 j hj, h.2⟩
theorem cl1 {n : Nat} {N N1 : Int32} (hN : N = nI n) (hN1 : N1 = nI n - 1) (hn : n < 2 ^ 30) (a : Int32) : a < 0 ∨ (¬ a < 0 ∧ N ≤ a ∧ N1 < a) ∨ ∃ k, k < n ∧ a = nI k ∧ ¬ nI k < 0 ∧ ¬ N ≤ nI k ∧ ¬ N1 < nI k ∧ (nI k).toNatClampNeg = k := by
  have e1 : N1.toInt = (n : Int) - 1 := by
    rw [hN1]
    have := pk_sub_toInt (a := n) (b := 1) (by omega) (by omega)
    exact this
  rcases cl0 hN (by omega) a with q | ⟨q, q2⟩ | ⟨k, hk, rfl, q1, q2, q3⟩
  · exact Or.inl q
  · refine Or.inr (Or.inl ⟨q, q2, ?_⟩)
    have q3 := Int32.le_iff_toInt_le.mp q2
    rw [hN, nI_toInt (by omega)] at q3
    rw [Int32.lt_iff_toInt_lt, e1]
    omega
  · refine Or.inr (Or.inr ⟨k, hk, rfl, q1, q2, ?_, q3⟩)
    rw [Int32.lt_iff_toInt_lt, e1, nI_toInt (by omega)]
    omega
theorem e_sheetOf_y {k : Nat} (hk : k < 4) {M : Mem} {R : Option Nat → Mem → Prop} : wp_Main_sheetOf (nI k) M R = R (some k) M := by
  have q1 : ¬ nI k < 0 := nI_pos (by omega)
  have q2 : ¬ (4 : Int32) ≤ nI k := nI_ge (a := k) (b := 4) hk (by omega)
  have q3 : vp_in (nI k) 4 := vp_in_nI hk (by omega)
  have q4 : (nI k).toNatClampNeg = k := nI_clamp (by omega)
  simp [wp_Main_sheetOf, wp_Main_isBelow, q1, q2, q3, q4]
theorem e_sheetOf_n {a : Int32} (h : a < 0 ∨ (¬ a < 0 ∧ 4 ≤ a)) {M : Mem} {R : Option Nat → Mem → Prop} : wp_Main_sheetOf a M R = R none M := by
  rcases h with h | ⟨h, h2⟩
  · simp [wp_Main_sheetOf, wp_Main_isBelow, h]
  · simp [wp_Main_sheetOf, wp_Main_isBelow, h, h2]
theorem ix60 {k j : Nat} : (60 : Int32) * nI k + nI j = nI (60 * k + j) := by
  rw [← nI_add, ← pk_mul]; rfl
theorem e_isSheet_y {k : Nat} (hk : k < 4) {M : Mem} {R : Int32 → Mem → Prop} : wp_Model_isSheet (nI k) M R = R 1 M := by
  have q1 : ¬ nI k < 0 := nI_pos (by omega)
  have q2 : ¬ (3 : Int32) < nI k := nI_nlt (a := 3) (b := k) (by omega) (by omega)
  simp [wp_Model_isSheet, wp_Model_within, q1, q2]
theorem e_isSheet_n {a : Int32} (h : a < 0 ∨ (¬ a < 0 ∧ 3 < a)) {M : Mem} {R : Int32 → Mem → Prop} : wp_Model_isSheet a M R = R 0 M := by
  rcases h with h | ⟨h, h2⟩
  · simp [wp_Model_isSheet, wp_Model_within, h]
  · simp [wp_Model_isSheet, wp_Model_within, h, h2]
theorem e_isBelow_y {k n : Nat} {N : Int32} (hN : N = nI n) (hk : k < n) (hn : n < 2 ^ 31) {M : Mem} {R : Int32 → Mem → Prop} : wp_Main_isBelow (nI k) N M R = R 1 M := by
  subst hN
  simp [wp_Main_isBelow, nI_pos (n := k) (by omega), nI_ge hk hn]
theorem e_isBelow_n {a N : Int32} (h : a < 0 ∨ (¬ a < 0 ∧ N ≤ a)) {M : Mem} {R : Int32 → Mem → Prop} : wp_Main_isBelow a N M R = R 0 M := by
  rcases h with h | ⟨h, h2⟩
  · simp [wp_Main_isBelow, h]
  · simp [wp_Main_isBelow, h, h2]
theorem e_within_y {a b c : Int32} (h1 : ¬ a < b) (h2 : ¬ c < a) {M : Mem} {R : Int32 → Mem → Prop} : wp_Model_within a b c M R = R 1 M := by
  simp [wp_Model_within, h1, h2]
theorem e_within_n {a c : Int32} (h : a < 0 ∨ (¬ a < 0 ∧ c < a)) {M : Mem} {R : Int32 → Mem → Prop} : wp_Model_within a 0 c M R = R 0 M := by
  rcases h with h | ⟨h, h2⟩
  · simp [wp_Model_within, h]
  · simp [wp_Model_within, h, h2]
theorem sh_cl (a : Int32) : ((a < 0 ∨ (¬ a < 0 ∧ 4 ≤ a)) ∧ (a < 0 ∨ (¬ a < 0 ∧ 3 < a))) ∨ ∃ k, k < 4 ∧ a = nI k := by
  rcases cl (N := 4) (N1 := 3) (n := 4) (n1 := 3) rfl rfl rfl (by decide) a with q | ⟨q, q2, q3⟩ | ⟨k, hk, e, -⟩
  · exact Or.inl ⟨Or.inl q, Or.inl q⟩
  · exact Or.inl ⟨Or.inr ⟨q, q2⟩, Or.inr ⟨q, q3⟩⟩
  · exact Or.inr ⟨k, hk, e⟩
theorem lane_cl (a : Int32) : ((a < 0 ∨ (¬ a < 0 ∧ 3 ≤ a)) ∧ (a < 0 ∨ (¬ a < 0 ∧ 2 < a))) ∨ ∃ k, k < 3 ∧ a = nI k := by
  rcases cl (N := 3) (N1 := 2) (n := 3) (n1 := 2) rfl rfl rfl (by decide) a with q | ⟨q, q2, q3⟩ | ⟨k, hk, e, -⟩
  · exact Or.inl ⟨Or.inl q, Or.inl q⟩
  · exact Or.inl ⟨Or.inr ⟨q, q2⟩, Or.inr ⟨q, q3⟩⟩
  · exact Or.inr ⟨k, hk, e⟩
theorem e_isSort_y {k : Nat} (hk : k < 3) {M : Mem} {R : Int32 → Mem → Prop} : wp_Model_isSort (nI k) M R = R 1 M := by
  have q1 : ¬ nI k < 0 := nI_pos (by omega)
  have q2 : ¬ (2 : Int32) < nI k := nI_nlt (a := 2) (b := k) (by omega) (by omega)
  simp [wp_Model_isSort, wp_Model_within, q1, q2]
theorem e_isSort_n {a : Int32} (h : a < 0 ∨ (¬ a < 0 ∧ 2 < a)) {M : Mem} {R : Int32 → Mem → Prop} : wp_Model_isSort a M R = R 0 M := by
  rcases h with h | ⟨h, h2⟩
  · simp [wp_Model_isSort, wp_Model_within, h]
  · simp [wp_Model_isSort, wp_Model_within, h, h2]
theorem two_plus {z : Nat} (hz : z < 7) : nI z + 100 + nI z = 2 * nI z + 100 := by
  revert z
  decide
theorem st_as : St_as Inv := by
  intro a b M h
  obtain ⟨⟨n, m, c, hw, hr⟩, hf, hs⟩ := id h
  obtain ⟨h1, h2, h3, h4, h5, h6, h7, h8, h9, h10, h11, h12, h13, h14, h15, h16⟩ := id hw
  simp only [wp_Main_as, wp_Model_as, wp_Way_hasHouse, wp_Model_isHouse, wp_Main_failed, wp_Model_fails, forall_eq]
  have k1 : mset M 0 8 0 12 5 = nI n := h4
  rw [k1]
  rcases cl0 (N := nI n) rfl (by omega) a with q | ⟨q, q2⟩ | ⟨k, hk, rfl, q1, q2, q3⟩
  · rw [e_isBelow_n (Or.inl q)]
    simp [mset, mrow, upd, q]
    refine h.ft ?_ ?_ ?_ ?_ <;> simp +contextual [mset, mrow, upd, hf.1]
  · rw [e_isBelow_n (Or.inr ⟨q, q2⟩)]
    simp [mset, mrow, upd, q, h5, q2]
    refine h.ft ?_ ?_ ?_ ?_ <;> simp +contextual [mset, mrow, upd, hf.1]
  · rw [e_isBelow_y rfl hk (by omega)]
    have hin : vp_in (nI k) 6 := vp_in_nI (by omega) (by omega)
    rcases lane_cl b with ⟨g1, g2⟩ | ⟨z, hz, rfl⟩
    · rw [e_isBelow_n g1]
      simp [mset, mrow, upd, q1, h5, q2, e_within_n g2]
      refine h.ft ?_ ?_ ?_ ?_ <;> simp +contextual [mset, mrow, upd, hf.1]
    · rw [e_isBelow_y (N := 3) (n := 3) rfl hz (by omega)]
      have w1 : ¬ nI z < 0 := nI_pos (by omega)
      have w2 : ¬ (2 : Int32) < nI z := nI_nlt (a := 2) (b := z) (by omega) (by omega)
      by_cases hc : M 13 k < nI z
      · simp [mset, mrow, upd, q1, h5, q2, e_within_y w1 w2, hin, q3, hc, h10]
        refine h.ft ?_ ?_ ?_ ?_ <;> simp +contextual [mset, mrow, upd, hf.1]
      · have hc2 := Int32.not_lt.mp hc
        simp [mset, mrow, upd, q1, h5, q2, e_within_y w1 w2, hin, q3, hc, hc2, h10]
        refine h.ft ?_ ?_ ?_ ?_ <;> simp +contextual [mset, mrow, upd, hf.1]
theorem st_knock : St_knock Inv := by
  intro a M h
  obtain ⟨⟨n, m, c, hw, hr⟩, hf, hs⟩ := id h
  obtain ⟨h1, h2, h3, h4, h5, h6, h7, h8, h9, h10, h11, h12, h13, h14, h15, h16⟩ := id hw
  simp only [wp_Main_knock, wp_Model_knock, wp_Way_hasHouse, wp_Model_isHouse, wp_Main_ownKnock, wp_Main_lentKnock, wp_Main_leave, wp_Model_begins, forall_eq, h4]
  rcases cl0 (N := nI n) rfl (by omega) a with q | ⟨q, q2⟩ | ⟨k, hk, rfl, q1, q2, q3⟩
  · rw [e_isBelow_n (Or.inl q)]
    simp [q, h]
  · rw [e_isBelow_n (Or.inr ⟨q, q2⟩)]
    simp [q, q2, h5, h]
  · rw [e_isBelow_y rfl hk (by omega)]
    have hin : vp_in (nI k) 6 := vp_in_nI (by omega) (by omega)
    by_cases hc : M 13 k = 2
    · simp [mset, mrow, upd, wp_Model_knock_26, wp_Model_begins, q1, q2, q3, h5, hin, hc, h10]
      refine h.ft ?_ ?_ ?_ ?_ <;> simp +contextual [mset, mrow, upd, hf.1, hf.2]
    · simp [mset, mrow, upd, wp_Model_knock_26, wp_Model_begins, q1, q2, q3, h5, hin, hc, h10]
      refine h.ft ?_ ?_ ?_ ?_ <;> simp +contextual [mset, mrow, upd, hf.1, hf.2]
theorem st_tell : St_tell Inv := by
  intro a M h
  obtain ⟨⟨n, m, c, hw, hr⟩, hf, hs⟩ := id h
  obtain ⟨h1, h2, h3, h4, h5, h6, h7, h8, h9, h10, h11, h12, h13, h14, h15, h16⟩ := id hw
  simp only [wp_Main_tell, wp_Model_tell, wp_Way_hasHouse, wp_Model_isHouse, wp_Main_bodyOfLearning, wp_Main_bodyOfDouble, wp_Main_bodyOfHouse, wp_Main_leave, wp_Model_begins, forall_eq, h4]
  rcases cl0 (N := nI n) rfl (by omega) a with q | ⟨q, q2⟩ | ⟨k, hk, rfl, q1, q2, q3⟩
  · rw [e_isBelow_n (Or.inl q)]
    simp [q, h]
  · rw [e_isBelow_n (Or.inr ⟨q, q2⟩)]
    simp [q, q2, h5, h]
  · rw [e_isBelow_y rfl hk (by omega)]
    have hin : vp_in (nI k) 6 := vp_in_nI (by omega) (by omega)
    by_cases hc : M 13 k = 1
    · simp [mset, mrow, upd, q1, q2, q3, h5, hin, hc, h10, h13]
      refine h.ft ?_ ?_ ?_ ?_ <;> simp +contextual [mset, mrow, upd, hf.1, hf.2]
    by_cases hc2 : M 13 k = 2
    · simp [mset, mrow, upd, q1, q2, q3, h5, hin, hc2, h10, h13]
      refine ⟨?_, ?_⟩
      · obtain ⟨-, -, -, z, hz, e⟩ := h15 k hk
        rw [e]
        exact two_plus hz
      · refine h.ft ?_ ?_ ?_ ?_ <;> simp +contextual [mset, mrow, upd, hf.1, hf.2]
    · simp [mset, mrow, upd, q1, q2, q3, h5, hin, hc, hc2, h10, h13]
      refine h.ft ?_ ?_ ?_ ?_ <;> simp +contextual [mset, mrow, upd, hf.1, hf.2]
