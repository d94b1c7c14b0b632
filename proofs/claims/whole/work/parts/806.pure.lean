def cutF (ln v : Int32) : Int32 := if ln = 0 then v.toInt8.toInt32 else if ln = 1 then v.toInt16.toInt32 else v
theorem C_put_n1 {M : Mem} {R : Int32 → Mem → Prop} {a b c : Int32} (ha : a < 0 ∨ (¬ a < 0 ∧ 4 ≤ a)) (h : R (-1) (mset M 0 8 0)) : wp_Main_put a b c M R := by
  simp only [wp_Main_put, forall_eq, e_sheetOf_n ha]
  simp [h]
theorem C_put_n2 {M : Mem} {R : Int32 → Mem → Prop} {k : Nat} {b c : Int32} (hk : k < 4) (h0 : M (2 + k) 1 = 0) (h : R (-11) (mset M 0 8 1)) : wp_Main_put (nI k) b c M R := by
  simp only [wp_Main_put, forall_eq, e_sheetOf_y hk]
  refine ⟨fun z => (by cases z), ?_⟩
  intro q eq hq
  obtain rfl := Option.some.inj eq
  rw [ms_n (show 2 + k ≠ 0 by omega), e_failed]
  exact ⟨fun z => absurd h0 z, fun _ => h⟩
theorem C_put_n3 {M : Mem} {R : Int32 → Mem → Prop} {k : Nat} {b c : Int32} (hk : k < 4) (h0 : ¬ M (2 + k) 1 = 0) (hb : b < 0 ∨ (¬ b < 0 ∧ M (2 + k) 3 ≤ b)) (h : R (-13) (mset M 0 8 3)) : wp_Main_put (nI k) b c M R := by
  simp only [wp_Main_put, forall_eq, e_sheetOf_y hk]
  refine ⟨fun z => (by cases z), ?_⟩
  intro q eq hq
  obtain rfl := Option.some.inj eq
  rw [ms_n (show 2 + k ≠ 0 by omega), e_isBelow_n hb, e_failed]
  exact ⟨fun _ => ⟨fun z => absurd rfl z, fun _ => h⟩, fun z => absurd z h0⟩
theorem C_put_y {M : Mem} {R : Int32 → Mem → Prop} {k le j : Nat} {c : Int32} (hk : k < 4) (h0 : ¬ M (2 + k) 1 = 0) (hle : le ≤ 60) (e1 : M (2 + k) 3 = nI le) (hj : j < le) (h : R 1 (mset (mset M 0 8 0) (6 + k) j (cutF (M (2 + k) 2) c))) : wp_Main_put (nI k) (nI j) c M R := by
  simp only [wp_Main_put, forall_eq, e_sheetOf_y hk]
  refine ⟨fun z => (by cases z), ?_⟩
  intro q eq hq
  obtain rfl := Option.some.inj eq
  have hin : vp_in (nI j) 60 := vp_in_nI (by omega) (by omega)
  have hcl : (nI j).toNatClampNeg = j := nI_clamp (by omega)
  simp only [wp_Sheet_cut, hcl, hin, true_and]
  rw [ms_n (show 2 + k ≠ 0 by omega), e1, e_isBelow_y rfl hj (by omega), ms_n (show 2 + k ≠ 0 by omega)]
  refine ⟨fun _ => ⟨fun _ => ?_, fun z => absurd z (by decide)⟩, fun z => absurd z h0⟩
  unfold cutF at h
  refine ⟨fun c1 => ?_, fun c1 => ⟨fun c2 => ?_, fun c2 => ?_⟩⟩
  · rw [if_pos c1] at h; exact h
  · rw [if_neg c1, if_pos c2] at h; exact h
  · rw [if_neg c1, if_neg c2] at h; exact h
theorem D_put_n1 {M : Mem} {R : Int32 → Mem → Prop} {a b c : Int32} (ha : a < 0 ∨ (¬ a < 0 ∧ 3 < a)) (h : R (-1) (mset M 29 0 0)) : wp_Model_put a b c M R := by
  simp only [wp_Model_put, forall_eq, e_isSheet_n ha]
  simp [h]
theorem D_put_n2 {M : Mem} {R : Int32 → Mem → Prop} {k : Nat} {b c : Int32} (hk : k < 4) (h0 : M 30 k = -9) (h : R (-11) (mset M 29 0 1)) : wp_Model_put (nI k) b c M R := by
  have hin : vp_in (nI k) 4 := vp_in_nI hk (by omega)
  have hc : (nI k).toNatClampNeg = k := nI_clamp (by omega)
  simp only [wp_Model_put, forall_eq, e_isSheet_y hk, hin, hc, true_and]
  rw [ms_n (show 30 ≠ 29 by omega), e_fails]
  exact ⟨fun _ => ⟨fun z => absurd h0 z, fun _ => h⟩, fun z => absurd z (by decide)⟩
theorem D_put_n3 {M : Mem} {R : Int32 → Mem → Prop} {k : Nat} {b c : Int32} (hk : k < 4) (h0 : ¬ M 30 k = -9) (hb : b < 0 ∨ (¬ b < 0 ∧ M 31 k - 1 < b)) (h : R (-13) (mset M 29 0 3)) : wp_Model_put (nI k) b c M R := by
  have hin : vp_in (nI k) 4 := vp_in_nI hk (by omega)
  have hc : (nI k).toNatClampNeg = k := nI_clamp (by omega)
  simp only [wp_Model_put, forall_eq, e_isSheet_y hk, hin, hc, true_and]
  rw [ms_n (show 30 ≠ 29 by omega), ms_n (show 31 ≠ 29 by omega), e_within_n hb, e_fails]
  exact ⟨fun _ => ⟨fun _ => ⟨fun z => absurd rfl z, fun _ => h⟩, fun z => absurd z h0⟩, fun z => absurd z (by decide)⟩
theorem D_put_y {M : Mem} {R : Int32 → Mem → Prop} {k le j : Nat} {c : Int32} (hk : k < 4) (h0 : ¬ M 30 k = -9) (hle : le ≤ 60) (e1 : M 31 k = nI le) (hj : j < le) (h : R 1 (mset (mset M 29 0 0) 32 (60 * k + j) (cutF (M 30 k) c))) : wp_Model_put (nI k) (nI j) c M R := by
  have hin : vp_in (nI k) 4 := vp_in_nI hk (by omega)
  have hc : (nI k).toNatClampNeg = k := nI_clamp (by omega)
  have hin2 : vp_in (nI (60 * k + j)) 240 := vp_in_nI (by omega) (by omega)
  have hc2 : (nI (60 * k + j)).toNatClampNeg = 60 * k + j := nI_clamp (by omega)
  have w : ¬ nI le - 1 < nI j := by
    rw [Int32.lt_iff_toInt_lt, nI_toInt (by omega)]
    have : (nI le - nI 1).toInt = (le : Int) - 1 := pk_sub_toInt (by omega) (by omega)
    have e : (nI le - 1).toInt = (le : Int) - 1 := this
    omega
  simp only [wp_Model_put, forall_eq, e_isSheet_y hk, hin, hc, true_and, ix60, hin2, hc2]
  rw [ms_n (show 30 ≠ 29 by omega), ms_n (show 31 ≠ 29 by omega), e1, e_within_y (nI_pos (by omega)) w, ms_n (show 30 ≠ 29 by omega)]
  refine ⟨fun _ => ⟨fun _ => ⟨fun _ => ?_, fun z => absurd z (by decide)⟩, fun z => absurd z h0⟩, fun z => absurd z (by decide)⟩
  unfold cutF at h
  refine ⟨fun c1 => ⟨fun c2 => ?_, fun c2 => ?_⟩, fun c1 => ?_⟩
  · rw [if_neg c1, if_neg c2] at h; exact h
  · rw [if_neg c1, if_pos c2] at h; exact h
  · rw [if_pos c1] at h; exact h
theorem st_put : St_put Inv := by
  intro a b c M h
  obtain ⟨hwr, hf, hs⟩ := id h
  rcases sh_cl a with ⟨g1, g2⟩ | ⟨k, hk, rfl⟩
  · exact C_put_n1 g1 (D_put_n1 g2 ⟨rfl, h.flt 0⟩)
  have hrow := (hs k hk).row
  obtain ⟨s1, ⟨le, hle, e1, e2⟩, s3⟩ := id (hs k hk)
  by_cases c0 : M (2 + k) 1 = 0
  · exact C_put_n2 hk c0 (D_put_n2 hk (hrow.mp c0) ⟨rfl, h.flt 1⟩)
  have c0' : ¬ M 30 k = -9 := fun z => c0 (hrow.mpr z)
  rcases cl1 (n := le) (N := nI le) (N1 := nI le - 1) rfl rfl (by omega) b with q | ⟨q, q2, q3⟩ | ⟨j, hj, rfl, q1, q2, q3, q4⟩
  · exact C_put_n3 hk c0 (Or.inl q) (D_put_n3 hk c0' (Or.inl q) ⟨rfl, h.flt 3⟩)
  · exact C_put_n3 hk c0 (Or.inr ⟨q, by rw [e1]; exact q2⟩) (D_put_n3 hk c0' (Or.inr ⟨q, by rw [ms_n (by omega), e2]; exact q3⟩) ⟨rfl, h.flt 3⟩)
  obtain ⟨t1, t2, t3⟩ : M (2 + k) 1 = 1 ∧ M 30 k = M (2 + k) 2 ∧ ∃ a, a < 3 ∧ M (2 + k) 2 = nI a := by
    rcases s3 with s | s
    · exact s
    · exact absurd s.1 c0
  refine C_put_y hk c0 hle e1 hj (D_put_y hk ?_ hle ?_ hj ⟨rfl, ?_⟩)
  · rw [ms_n (by omega), ms_n (by omega)]; exact c0'
  · rw [ms_n (by omega), ms_n (by omega)]; exact e2
  rw [ms_n (show 30 ≠ 6 + k by omega), ms_n (show 30 ≠ 0 by omega), t2]
  generalize cutF (M (2 + k) 2) c = v
  refine h.one hk ?_ ?_ ?_ ?_ ?_ ?_ ?_ ?_
  · intro q q1 q2 q3 q4 q5 q6 q7
    rw [ms_n q7, ms_n q2, ms_n q4, ms_n q1]
  · intro q hq
    rw [ms_n (by omega), ms_n (by omega), ms_n (by omega), ms_n (by omega)]
  · intro q hq
    rw [ms_n (by omega), ms_n (by omega), ms_n (by omega), ms_n (by omega)]
  · intro q hq
    rw [ms_s, up_n (by omega), ms_n (by omega), ms_n (by omega), ms_n (by omega)]
  · intro q hq
    rw [ms_n (by omega), ms_s, up_n hq, ms_n (by omega), ms_n (by omega)]
  · rw [ms_n (by omega), ms_n (by omega), ms_n (by omega), ms_s, up_n (by omega)]
  · rw [ms_n (by omega), ms_s, up_s, ms_n (by omega), ms_n (by omega), ms_n (by omega), ms_s, up_s]
  · unfold ShS
    rw [ms_n (show 6 + k ≠ 32 by omega), ms_n (show 6 + k ≠ 29 by omega), ms_s, ms_n (show 6 + k ≠ 0 by omega), ms_s, ms_n (show 32 ≠ 29 by omega), ms_n (show 32 ≠ 6 + k by omega), ms_n (show 32 ≠ 0 by omega), ms_n (show 2 + k ≠ 32 by omega), ms_n (show 2 + k ≠ 29 by omega), ms_n (show 2 + k ≠ 6 + k by omega), ms_n (show 2 + k ≠ 0 by omega), ms_n (show 31 ≠ 32 by omega), ms_n (show 31 ≠ 29 by omega), ms_n (show 31 ≠ 6 + k by omega), ms_n (show 31 ≠ 0 by omega), ms_n (show 30 ≠ 32 by omega), ms_n (show 30 ≠ 29 by omega), ms_n (show 30 ≠ 6 + k by omega), ms_n (show 30 ≠ 0 by omega)]
    refine ⟨fun i hi => ?_, ⟨le, hle, e1, e2⟩, s3⟩
    by_cases hij : i = j
    · subst hij; rw [up_s, up_s]
    · rw [up_n hij, up_n (by omega)]; exact s1 i hi
