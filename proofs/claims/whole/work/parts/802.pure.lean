theorem IvW.give {n m k a : Nat} {M : Mem} (h : IvW n m M) (ha : a < 64) : IvW n m (mset (mset M 17 k (nI a)) 37 k (nI a)) := by
  obtain ⟨h1, h2, h3, h4, h5, h6, h7, h8, h9, h10, h11, h12, h13, h14, h15, h16⟩ := h
  refine ⟨h1, h2, h3, h4, h5, h6, h7, h8, h9, h10, h11, h12, h13, ?_, h15, ?_⟩
  · simp [mset, mrow, h14]
  · intro g hg
    by_cases e : g = k
    · subst e; exact ⟨a, ha, by simp [mset, mrow, upd]⟩
    · obtain ⟨z, hz, e2⟩ := h16 g hg
      exact ⟨z, hz, by simp [mset, mrow, upd, e, e2]⟩
theorem IvW.bar {n m k a : Nat} {M : Mem} (h : IvW n m M) (ha : a < 7) : IvW n m (mset (mset M 16 k (nI a)) 36 k (nI a)) := by
  obtain ⟨h1, h2, h3, h4, h5, h6, h7, h8, h9, h10, h11, h12, h13, h14, h15, h16⟩ := h
  refine ⟨h1, h2, h3, h4, h5, h6, h7, h8, h9, h10, h11, h12, ?_, h14, ?_, h16⟩
  · simp [mset, mrow, h13]
  · intro g hg
    obtain ⟨z1, z2, z3, z4⟩ := h15 g hg
    refine ⟨z1, z2, z3, ?_⟩
    by_cases e : g = k
    · subst e; exact ⟨a, ha, by simp [mset, mrow, upd]⟩
    · obtain ⟨z, hz, e2⟩ := z4
      exact ⟨z, hz, by simp [mset, mrow, upd, e, e2]⟩
theorem set_cl (a : Int32) : ((a < 0 ∨ (¬ a < 0 ∧ 64 ≤ a)) ∧ (a < 0 ∨ (¬ a < 0 ∧ 63 < a))) ∨ ∃ k, k < 64 ∧ a = nI k ∧ ¬ nI k < 0 ∧ ¬ (63 : Int32) < nI k := by
  rcases cl (N := 64) (N1 := 63) (n := 64) (n1 := 63) rfl rfl rfl (by decide) a with q | ⟨q, q2, q3⟩ | ⟨k, hk, e, w1, w2, w3, -⟩
  · exact Or.inl ⟨Or.inl q, Or.inl q⟩
  · exact Or.inl ⟨Or.inr ⟨q, q2⟩, Or.inr ⟨q, q3⟩⟩
  · exact Or.inr ⟨k, hk, e, w1, w3⟩
theorem st_give : St_give Inv := by
  intro a b M h
  obtain ⟨⟨n, m, c, hw, hr⟩, hf, hs⟩ := id h
  obtain ⟨h1, h2, h3, h4, h5, h6, h7, h8, h9, h10, h11, h12, h13, h14, h15, h16⟩ := id hw
  simp only [wp_Main_give, wp_Model_give, wp_Way_hasGuest, wp_Model_isGuest, wp_Model_isSet, forall_eq, h6]
  rcases cl0 (N := nI m) rfl (by omega) a with q | ⟨q, q2⟩ | ⟨k, hk, rfl, q1, q2, q3⟩
  · rw [e_isBelow_n (Or.inl q)]
    simp [q, h]
  · rw [e_isBelow_n (Or.inr ⟨q, q2⟩)]
    simp [q, q2, h7, h]
  · rw [e_isBelow_y rfl hk (by omega)]
    have hin : vp_in (nI k) 5 := vp_in_nI (by omega) (by omega)
    rcases set_cl b with ⟨g1, g2⟩ | ⟨z, hz, rfl, w1, w2⟩
    · rw [e_isBelow_n g1]
      simp [q1, h7, q2, e_within_n g2, h]
    · rw [e_isBelow_y (N := 64) (n := 64) rfl hz (by omega)]
      simp only [hin, q3]
      have e1 : mset M 17 k (nI z) 29 6 = nI m := h7
      have e2 : mset M 17 k (nI z) 37 k = M 17 k := by simp [mset, mrow, h14]
      simp [e1, e2, q1, q2, e_within_y w1 w2]
      exact ⟨⟨n, m, c, hw.give hz, hr⟩, hf, hs.of (by simp [mset, mrow])⟩
theorem bar_cl (a : Int32) : ((¬ a = 6 ∧ (a < 0 ∨ (¬ a < 0 ∧ 6 ≤ a))) ∧ (a < 0 ∨ (¬ a < 0 ∧ 6 < a))) ∨ ∃ k, k < 7 ∧ a = nI k ∧ ¬ nI k < 0 ∧ ¬ (6 : Int32) < nI k := by
  rcases cl (N := 7) (N1 := 6) (n := 7) (n1 := 6) rfl rfl rfl (by decide) a with q | ⟨q, q2, q3⟩ | ⟨k, hk, e, w1, w2, w3, -⟩
  · exact Or.inl ⟨⟨fun e => by rw [e] at q; exact absurd q (by decide), Or.inl q⟩, Or.inl q⟩
  · exact Or.inl ⟨⟨fun e => by rw [e] at q3; exact absurd q3 (by decide), Or.inr ⟨q, Int32.le_of_lt q3⟩⟩, Or.inr ⟨q, q3⟩⟩
  · exact Or.inr ⟨k, hk, e, w1, w3⟩
theorem st_bar : St_bar Inv := by
  intro a b M h
  obtain ⟨⟨n, m, c, hw, hr⟩, hf, hs⟩ := id h
  obtain ⟨h1, h2, h3, h4, h5, h6, h7, h8, h9, h10, h11, h12, h13, h14, h15, h16⟩ := id hw
  simp only [wp_Main_bar, wp_Model_bar, wp_Main_bar_31, wp_Way_hasHouse, wp_Model_isHouse, forall_eq, h4]
  rcases cl0 (N := nI n) rfl (by omega) a with q | ⟨q, q2⟩ | ⟨k, hk, rfl, q1, q2, q3⟩
  · rw [e_isBelow_n (Or.inl q)]
    simp [q, h]
  · rw [e_isBelow_n (Or.inr ⟨q, q2⟩)]
    simp [q, q2, h5, h]
  · rw [e_isBelow_y rfl hk (by omega)]
    have hin : vp_in (nI k) 6 := vp_in_nI (by omega) (by omega)
    rcases bar_cl b with ⟨⟨g0, g1⟩, g2⟩ | ⟨z, hz, rfl, w1, w2⟩
    · rw [e_isBelow_n g1]
      simp [g0, q1, h5, q2, e_within_n g2, h]
    · simp only [hin, q3]
      have e1 : mset M 16 k (nI z) 29 5 = nI n := h5
      have e2 : mset M 16 k (nI z) 36 k = M 16 k := by simp [mset, mrow, h13]
      have fin : Inv (mset (mset M 16 k (nI z)) 36 k (nI z)) := ⟨⟨n, m, c, hw.bar hz, hr⟩, hf, hs.of (by simp [mset, mrow])⟩
      by_cases e6 : nI z = 6
      · simp [e6, e1, e2, q1, q2, e_within_y w1 w2]
        rw [e6] at e1 e2 w1 w2 fin
        simp [e1, e2, q2, e_within_y w1 w2, fin]
      · have hz6 : z < 6 := by
          rcases Nat.lt_or_ge z 6 with hh | hh
          · exact hh
          · have : z = 6 := by omega
            subst this
            exact absurd rfl e6
        rw [e_isBelow_y (N := 6) (n := 6) rfl hz6 (by omega)]
        simp [e6, e1, e2, q1, q2, e_within_y w1 w2, fin]
theorem one_ne : ((1 : Int32) = 0) = False := by simp
theorem C_back_y {M : Mem} {R : Int32 → Mem → Prop} {c k : Nat} (hc : c ≤ 8) (e : M 26 4 = nI c) (hk : k ≤ c) (h : R (nI (c - k)) (mset M 26 4 (nI (c - k)))) : wp_Main_back (nI k) M R := by
  simp only [wp_Main_back, forall_eq, e]
  rw [e_isBelow_y (n := c + 1) (nI_1 c) (by omega) (by omega)]
  refine ⟨fun _ => ?_, fun z => absurd z (by decide)⟩
  have e2 : nI c - nI k = nI (c - k) := pk_sub (by omega)
  rw [e, e2]
  simpa [mset, mrow, upd] using h
theorem D_back_y {M : Mem} {R : Int32 → Mem → Prop} {c k : Nat} (hc : c ≤ 8) (e : M 29 23 = nI c) (hk : k ≤ c) (h : R (nI (c - k)) (mset M 29 23 (nI (c - k)))) : wp_Model_back (nI k) M R := by
  simp only [wp_Model_back, forall_eq, e]
  rw [e_within_y (nI_pos (by omega)) (nI_nlt (by omega) (by omega))]
  refine ⟨fun _ => ?_, fun z => absurd z (by decide)⟩
  have e2 : nI c - nI k = nI (c - k) := pk_sub (by omega)
  rw [e, e2]
  simpa [mset, mrow, upd] using h
theorem st_back : St_back Inv := by
  intro a M h
  obtain ⟨⟨n, m, c, hw, hr⟩, hf, hs⟩ := id h
  obtain ⟨r1, r2, r3, r4, r5, r6⟩ := id hr
  rcases cl (N := nI c + 1) (N1 := nI c) (n := c + 1) (n1 := c) (nI_1 c) rfl rfl (by omega) a with q | ⟨q, q2, q3⟩ | ⟨k, hk, rfl, w1, w2, w3, w4, -⟩
  · simp only [wp_Main_back, wp_Model_back, forall_eq, r2, r3]
    rw [e_isBelow_n (Or.inl q)]
    simp [r3, e_within_n (Or.inl q), h]
  · simp only [wp_Main_back, wp_Model_back, forall_eq, r2, r3]
    rw [e_isBelow_n (Or.inr ⟨q, q2⟩)]
    simp [r3, e_within_n (Or.inr ⟨q, q3⟩), h]
  · refine C_back_y r1 r2 (by omega) (D_back_y r1 (by exact r3) (by omega) ⟨rfl, ?_⟩)
    refine ⟨⟨n, m, c - k, hw.of ?_ ?_ ?_ ?_, ⟨by omega, ?_, ?_, ?_, ?_, fun r hrr => ?_⟩⟩, hf.of ?_ ?_ ?_ ?_, hs.of ?_⟩
    all_goals first | (simp [mset, mrow, upd, r4, r5]; done) | skip
    obtain ⟨g, hg, eg⟩ := r6 r (by omega)
    exact ⟨g, hg, by simp [mset, mrow, eg]⟩
theorem C_reading_f {M : Mem} {R : Int32 → Mem → Prop} {a b : Int32} (e : M 26 4 = nI 8) (h : R (-4) M) : wp_Main_reading_30 R a b M := by
  simp only [wp_Main_reading_30, wp_Readings_isFull, e]
  have f1 : ¬ nI 8 < 8 := by decide
  simp [f1, h]
theorem C_reading_y {M : Mem} {R : Int32 → Mem → Prop} {c : Nat} {a b : Int32} (hc : c < 8) (e : M 26 4 = nI c) (h : R (nI c) (mset (mset (mset M 27 c a) 28 c b) 26 4 (nI (c + 1)))) : wp_Main_reading_30 R a b M := by
  simp only [wp_Main_reading_30, wp_Readings_isFull, wp_Readings_add, forall_eq, e]
  have f1 : nI c < 8 := nI_lt (b := 8) hc (by omega)
  have f3 : vp_in (nI c) 8 := vp_in_nI hc (by omega)
  have f4 : (nI c).toNatClampNeg = c := nI_clamp (by omega)
  have f5 : nI (c + 1) - 1 = nI c := nI_pred c
  simpa [f1, f3, mset, mrow, upd, e, f4, nI_1, f5] using h
theorem D_reading_f {M : Mem} {R : Int32 → Mem → Prop} {a b : Int32} (e : M 29 23 = nI 8) (h : R (-4) M) : wp_Model_reading_24 R a b M := by
  simp only [wp_Model_reading_24, e]
  have f1 : nI 8 = 8 := rfl
  simp [f1, h]
theorem D_reading_y {M : Mem} {R : Int32 → Mem → Prop} {c : Nat} {a b : Int32} (hc : c < 8) (e : M 29 23 = nI c) (h : R (nI c) (mset (mset (mset M 44 c a) 45 c b) 29 23 (nI (c + 1)))) : wp_Model_reading_24 R a b M := by
  simp only [wp_Model_reading_24, forall_eq, e]
  have f1 : ¬ nI c = 8 := fun z => by
    have := (nI_eq (a := c) (b := 8) (by omega) (by omega)).mp z
    omega
  have f3 : vp_in (nI c) 8 := vp_in_nI hc (by omega)
  have f4 : (nI c).toNatClampNeg = c := nI_clamp (by omega)
  have f5 : nI (c + 1) - 1 = nI c := nI_pred c
  simpa [f1, f3, mset, mrow, upd, e, f4, nI_1, f5] using h
theorem st_reading : St_reading Inv := by
  intro a b M h
  obtain ⟨⟨n, m, c, hw, hr⟩, hf, hs⟩ := id h
  obtain ⟨h1, h2, h3, h4, h5, h6, h7, h8, h9, h10, h11, h12, h13, h14, h15, h16⟩ := id hw
  obtain ⟨r1, r2, r3, r4, r5, r6⟩ := id hr
  rcases cl0 (N := nI m) rfl (by omega) a with q | ⟨q, q2⟩ | ⟨k, hk, rfl, q1, q2, q3⟩
  · simp only [wp_Main_reading, wp_Model_reading, wp_Way_hasGuest, wp_Model_isGuest, h6]
    rw [e_isBelow_n (Or.inl q)]
    simp [q, h]
  · simp only [wp_Main_reading, wp_Model_reading, wp_Way_hasGuest, wp_Model_isGuest, h6]
    rw [e_isBelow_n (Or.inr ⟨q, q2⟩)]
    simp [q, q2, h7, h]
  · have key : ∀ (b : Int32) {P : Int32 → Mem → Prop}, (∀ r M1, M1 29 5 = nI n → M1 29 6 = nI m → wp_Model_reading_24 (fun r2 M2 => r = r2 ∧ Inv M2) (nI k) b M1 → P r M1) → wp_Main_reading_30 P (nI k) b M := by
      intro b P hP
      rcases Nat.lt_or_ge c 8 with hc | hc
      · refine C_reading_y hc r2 (hP _ _ h5 h7 (D_reading_y hc r3 ⟨rfl, ?_⟩))
        refine ⟨⟨n, m, c + 1, hw.of ?_ ?_ ?_ ?_, ⟨by omega, ?_, ?_, ?_, ?_, fun r hrr => ?_⟩⟩, hf.of ?_ ?_ ?_ ?_, hs.of ?_⟩
        all_goals first | (simp [mset, mrow, upd, r4, r5]; done) | skip
        by_cases e : r = c
        · subst e; exact ⟨k, hk, by simp [mset, mrow, upd]⟩
        · obtain ⟨g, hg, eg⟩ := r6 r (by omega)
          exact ⟨g, hg, by simp [mset, mrow, upd, e, eg]⟩
      · have : c = 8 := by omega
        subst this
        exact C_reading_f r2 (hP _ _ h5 h7 (D_reading_f r3 ⟨rfl, h⟩))
    simp only [wp_Main_reading, wp_Way_hasGuest, h6]
    rw [e_isBelow_y rfl hk (by omega)]
    refine ⟨fun z => absurd z (by decide), fun _ => ⟨fun e9 => ?_, fun e9 => ?_⟩⟩
    · refine key b (fun r M1 g5 g6 hh => ?_)
      simp [wp_Model_reading, wp_Model_isGuest, g6, q1, q2, e9]
      rw [e9] at hh
      exact hh
    · simp only [wp_Way_hasHouse, h4]
      rcases cl0 (N := nI n) rfl (by omega) b with u | ⟨u, u2⟩ | ⟨y, hy, rfl, u1, u2, u3⟩
      · rw [e_isBelow_n (Or.inl u)]
        simp [wp_Model_reading, wp_Model_isGuest, wp_Model_isHouse, e9, q1, h7, q2, u, h]
      · rw [e_isBelow_n (Or.inr ⟨u, u2⟩)]
        simp [wp_Model_reading, wp_Model_isGuest, wp_Model_isHouse, e9, q1, h7, q2, u, u2, h5, h]
      · rw [e_isBelow_y rfl hy (by omega)]
        refine ⟨fun _ => key (nI y) (fun r M1 g5 g6 hh => ?_), fun z => absurd z (by decide)⟩
        simp [wp_Model_reading, wp_Model_isGuest, wp_Model_isHouse, e9, q1, g5, g6, q2, u1, u2, hh]
