theorem IvS.one {M M' : Mem} {k : Nat} (h : IvS M) (hk : ShS k M') (e : ∀ q, q < 4 → q ≠ k → M' (2 + q) = M (2 + q) ∧ M' (6 + q) = M (6 + q) ∧ M' 30 q = M 30 q ∧ M' 31 q = M 31 q ∧ ∀ j, j < 60 → M' 32 (60 * q + j) = M 32 (60 * q + j)) : IvS M' := by
  intro q hq
  by_cases hqk : q = k
  · subst hqk; exact hk
  · obtain ⟨e1, e2, e3, e4, e5⟩ := e q hq hqk
    exact (h q hq).of e1 e2 e3 e4 e5
theorem C_lose_n {M : Mem} {R : Int32 → Mem → Prop} {a : Int32} (ha : a < 0 ∨ (¬ a < 0 ∧ 4 ≤ a)) (h : R (-1) M) : wp_Main_lose a M R := by
  simp only [wp_Main_lose, e_sheetOf_n ha]
  simp [h]
theorem C_lose_y {M : Mem} {R : Int32 → Mem → Prop} {k : Nat} (hk : k < 4) (h : R (if M (2 + k) 1 = 0 then 0 else 1) (mset M (2 + k) 1 0)) : wp_Main_lose (nI k) M R := by
  simp only [wp_Main_lose, e_sheetOf_y hk, wp_Main_lose_24, forall_eq]
  by_cases c1 : M (2 + k) 1 = 0
  · rw [if_pos c1] at h
    simp [hk, c1, h]
  · rw [if_neg c1] at h
    simp [hk, c1, h]
theorem D_lose_n {M : Mem} {R : Int32 → Mem → Prop} {a : Int32} (ha : a < 0 ∨ (¬ a < 0 ∧ 3 < a)) (h : R (-1) M) : wp_Model_lose a M R := by
  simp only [wp_Model_lose, e_isSheet_n ha]
  simp [h]
theorem D_lose_y {M : Mem} {R : Int32 → Mem → Prop} {k : Nat} (hk : k < 4) (h : R (if M 30 k = -9 then 0 else 1) (mset M 30 k (-9))) : wp_Model_lose (nI k) M R := by
  have hin : vp_in (nI k) 4 := vp_in_nI hk (by omega)
  have hc : (nI k).toNatClampNeg = k := nI_clamp (by omega)
  simp only [wp_Model_lose, e_isSheet_y hk, wp_Model_lose_25, forall_eq, hc]
  by_cases c1 : M 30 k = -9
  · rw [if_pos c1] at h
    simp [hin, c1, h]
  · rw [if_neg c1] at h
    simp [hin, c1, h]
theorem ShS.row {q : Nat} {M : Mem} (h : ShS q M) : (M (2 + q) 1 = 0 ↔ M 30 q = -9) := by
  rcases h.2.2 with ⟨h1, h2, a, ha, e⟩ | ⟨h1, h2⟩
  · constructor
    · intro z; rw [h1] at z; exact absurd z (by decide)
    · intro z
      rw [h2, e] at z
      have hh : ∀ a : Nat, a < 3 → nI a ≠ -9 := by decide
      exact absurd z (hh a ha)
  · exact ⟨fun _ => h2, fun _ => h1⟩
theorem ms_n {M : Mem} {k j q : Nat} {v : Int32} (h : q ≠ k) : mset M k j v q = M q := by simp only [mset, mrow, if_neg h]
theorem ms_s {M : Mem} {k j : Nat} {v : Int32} : mset M k j v k = upd (M k) j v := by simp only [mset, mrow, if_true]
theorem mr_n {M : Mem} {k q : Nat} {f : Nat → Int32} (h : q ≠ k) : mrow M k f q = M q := by simp only [mrow, if_neg h]
theorem mr_s {M : Mem} {k : Nat} {f : Nat → Int32} : mrow M k f k = f := by simp only [mrow, if_true]
theorem up_n {f : Nat → Int32} {j i : Nat} {v : Int32} (h : i ≠ j) : upd f j v i = f i := by simp only [upd, if_neg h]
theorem up_s {f : Nat → Int32} {j : Nat} {v : Int32} : upd f j v j = v := by simp only [upd, if_true]
theorem Inv.one {M M' : Mem} (h : Inv M) {k : Nat} (hk : k < 4) (e : ∀ q, q ≠ 0 → q ≠ 29 → q ≠ 2 + k → q ≠ 6 + k → q ≠ 30 → q ≠ 31 → q ≠ 32 → M' q = M q) (e30 : ∀ q, q ≠ k → M' 30 q = M 30 q) (e31 : ∀ q, q ≠ k → M' 31 q = M 31 q) (e32 : ∀ j, ¬ (60 * k ≤ j ∧ j < 60 * k + 60) → M' 32 j = M 32 j) (e29 : ∀ j, j ≠ 0 → M' 29 j = M 29 j) (e7 : M' 0 7 = M 0 7) (e0 : M' 29 0 = M' 0 8) (hs : ShS k M') : Inv M' := by
  refine h.sh (fun q h1 h2 h3 h4 => e q h1 h2 (by omega) (by omega) (by omega) (by omega) (by omega)) e29 e7 e0 (h.2.2.one hs ?_)
  intro q hq hqk
  exact ⟨e _ (by omega) (by omega) (by omega) (by omega) (by omega) (by omega) (by omega), e _ (by omega) (by omega) (by omega) (by omega) (by omega) (by omega) (by omega), e30 q hqk, e31 q hqk, fun j hj => e32 _ (by omega)⟩
theorem st_lose : St_lose Inv := by
  intro a M h
  obtain ⟨hwr, hf, hs⟩ := id h
  rcases sh_cl a with ⟨g1, g2⟩ | ⟨k, hk, rfl⟩
  · exact C_lose_n g1 (D_lose_n g2 ⟨rfl, h⟩)
  · refine C_lose_y hk (D_lose_y hk ⟨?_, ?_⟩)
    · rw [ms_n (show 30 ≠ 2 + k by omega)]
      by_cases c1 : M (2 + k) 1 = 0
      · rw [if_pos c1, if_pos ((hs k hk).row.mp c1)]
      · rw [if_neg c1, if_neg (fun z => c1 ((hs k hk).row.mpr z))]
    · refine h.one hk ?_ ?_ ?_ ?_ ?_ ?_ ?_ ?_
      · intro q q1 q2 q3 q4 q5 q6 q7
        rw [ms_n q5, ms_n q3]
      · intro q hq
        rw [ms_s, up_n hq, ms_n (by omega)]
      · intro q hq
        rw [ms_n (by omega), ms_n (by omega)]
      · intro j hj
        rw [ms_n (by omega), ms_n (by omega)]
      · intro j hj
        rw [ms_n (by omega), ms_n (by omega)]
      · rw [ms_n (by omega), ms_n (by omega)]
      · rw [ms_n (by omega), ms_n (by omega), ms_n (by omega), ms_n (by omega)]
        exact hf.2
      · obtain ⟨s1, ⟨n, hn, e1, e2⟩, s3⟩ := hs k hk
        unfold ShS
        rw [ms_n (show 6 + k ≠ 30 by omega), ms_n (show 6 + k ≠ 2 + k by omega), ms_n (show 32 ≠ 30 by omega), ms_n (show 32 ≠ 2 + k by omega), ms_n (show 2 + k ≠ 30 by omega), ms_s, ms_n (show 31 ≠ 30 by omega), ms_n (show 31 ≠ 2 + k by omega), ms_s]
        exact ⟨s1, ⟨n, hn, by rw [up_n (by omega)]; exact e1, e2⟩, Or.inr ⟨up_s, up_s⟩⟩
