theorem mm {M : Mem} {k j : Nat} {u v : Int32} : mset (mset M k j u) k j v = mset M k j v := by
  funext q
  by_cases h : q = k
  · subst h; rw [ms_s, ms_s, ms_s]; funext i; simp only [upd]; split <;> rfl
  · rw [ms_n h, ms_n h, ms_n h]
theorem mr_self {M : Mem} {k : Nat} {f : Nat → Int32} (h : f = M k) : mrow M k f = M := by
  funext q
  by_cases hq : q = k
  · subst hq; rw [mr_s, h]
  · rw [mr_n hq]
theorem mr_mr {M : Mem} {k : Nat} {f f2 : Nat → Int32} : mrow (mrow M k f) k f2 = mrow M k f2 := by
  funext q
  by_cases hq : q = k
  · subst hq; rw [mr_s, mr_s]
  · rw [mr_n hq, mr_n hq, mr_n hq]
theorem Inv.flt {M : Mem} (h : Inv M) (v : Int32) : Inv (mset (mset M 0 8 v) 29 0 v) := by
  refine h.ft ?_ ?_ ?_ ?_ <;> simp +contextual [mset, mrow, upd, h.2.1.1]
theorem e_failed {M : Mem} {R : Int32 → Mem → Prop} {c : Int32} : wp_Main_failed c (mset M 0 8 0) R = R (-10 - c) (mset M 0 8 c) := by
  simp only [wp_Main_failed, forall_eq, mm]
theorem e_fails {M : Mem} {R : Int32 → Mem → Prop} {c : Int32} : wp_Model_fails c (mset M 29 0 0) R = R (-10 - c) (mset M 29 0 c) := by
  simp only [wp_Model_fails, forall_eq, mm]
theorem len_cl (a : Int32) : (¬ a ≤ 60) ∨ (a ≤ 60 ∧ ¬ 0 ≤ a) ∨ ∃ n, n ≤ 60 ∧ a = nI n ∧ nI n ≤ 60 ∧ 0 ≤ nI n := by
  by_cases h1 : a ≤ 60
  · by_cases h2 : a < 0
    · exact Or.inr (Or.inl ⟨h1, Int32.not_le.mpr h2⟩)
    · obtain ⟨j, hj, rfl⟩ := nI_of2 (M := 60) (n := 60) rfl h2 h1
      exact Or.inr (Or.inr ⟨j, hj, rfl, h1, Int32.not_lt.mp h2⟩)
  · exact Or.inl h1
theorem C_sheet_n1 {M : Mem} {R : Int32 → Mem → Prop} {a b c : Int32} (ha : a < 0 ∨ (¬ a < 0 ∧ 4 ≤ a)) (h : R (-1) (mset M 0 8 0)) : wp_Main_sheet a b c M R := by
  simp only [wp_Main_sheet, forall_eq, e_sheetOf_n ha]
  simp [h]
theorem C_sheet_n2 {M : Mem} {R : Int32 → Mem → Prop} {k : Nat} {b c : Int32} (hk : k < 4) (hb : b < 0 ∨ (¬ b < 0 ∧ 3 ≤ b)) (h : R (-2) (mset M 0 8 0)) : wp_Main_sheet (nI k) b c M R := by
  simp only [wp_Main_sheet, forall_eq, e_sheetOf_y hk, e_isBelow_n hb]
  simp [h]
theorem C_sheet_n3 {M : Mem} {R : Int32 → Mem → Prop} {k z : Nat} {c : Int32} (hk : k < 4) (hz : z < 3) (hc : ¬ c ≤ 60) (h : R (-2) (mset M 0 8 0)) : wp_Main_sheet (nI k) (nI z) c M R := by
  simp only [wp_Main_sheet, forall_eq, e_sheetOf_y hk, e_isBelow_y (N := 3) (n := 3) rfl hz (by omega)]
  simp [h, hc]
theorem C_sheet_n4 {M : Mem} {R : Int32 → Mem → Prop} {k z : Nat} {c : Int32} (hk : k < 4) (hz : z < 3) (hc : c ≤ 60) (hc2 : ¬ 0 ≤ c) (h : R (-14) (mset M 0 8 4)) : wp_Main_sheet (nI k) (nI z) c M R := by
  simp only [wp_Main_sheet, forall_eq, e_sheetOf_y hk, e_isBelow_y (N := 3) (n := 3) rfl hz (by omega), e_failed]
  have e : (-10 - 4 : Int32) = -14 := by decide
  simp [hc, hc2, e, h]
theorem C_sheet_y {M : Mem} {R : Int32 → Mem → Prop} {k z n : Nat} (hk : k < 4) (hz : z < 3) (hn : n ≤ 60) (h : R 1 (mset (mset (mset (mrow (mset M 0 8 0) (6 + k) (fun j => if j < 60 then 0 else mset M 0 8 0 (6 + k) j)) (2 + k) 1 1) (2 + k) 2 (nI z)) (2 + k) 3 (nI n))) : wp_Main_sheet (nI k) (nI z) (nI n) M R := by
  have f1 : nI n ≤ 60 := nI_le (b := 60) hn (by omega)
  have f2 : (0 : Int32) ≤ nI n := nI_pos' (by omega)
  simp only [wp_Main_sheet, forall_eq, e_sheetOf_y hk, e_isBelow_y (N := 3) (n := 3) rfl hz (by omega), wp_Sheet_renew, wp_Arr_fill]
  refine ⟨fun z => (by cases z), ?_⟩
  intro q eq hq
  obtain rfl := Option.some.inj eq
  refine ⟨fun z => absurd z (by decide), fun _ => ⟨fun _ => ⟨fun _ => h, fun z => absurd f2 z⟩, fun z => absurd f1 z⟩⟩
theorem D_sheet_n1 {M : Mem} {R : Int32 → Mem → Prop} {a b c : Int32} (ha : a < 0 ∨ (¬ a < 0 ∧ 3 < a)) (h : R (-1) (mset M 29 0 0)) : wp_Model_sheet a b c M R := by
  intro X hX
  simp only [forall_eq, e_isSheet_n ha]
  simp [h]
theorem D_sheet_n2 {M : Mem} {R : Int32 → Mem → Prop} {k : Nat} {b c : Int32} (hk : k < 4) (hb : b < 0 ∨ (¬ b < 0 ∧ 2 < b)) (h : R (-2) (mset M 29 0 0)) : wp_Model_sheet (nI k) b c M R := by
  intro X hX
  simp only [forall_eq, e_isSheet_y hk, e_isSort_n hb]
  simp [h]
theorem D_sheet_n3 {M : Mem} {R : Int32 → Mem → Prop} {k z : Nat} {c : Int32} (hk : k < 4) (hz : z < 3) (hc : ¬ c ≤ 60) (h : R (-2) (mset M 29 0 0)) : wp_Model_sheet (nI k) (nI z) c M R := by
  intro X hX
  simp only [forall_eq, e_isSheet_y hk, e_isSort_y hz]
  simp [h, hc]
theorem D_sheet_n4 {M : Mem} {R : Int32 → Mem → Prop} {k z : Nat} {c : Int32} (hk : k < 4) (hz : z < 3) (hc : c ≤ 60) (hc2 : ¬ 0 ≤ c) (h : R (-14) (mset M 29 0 4)) : wp_Model_sheet (nI k) (nI z) c M R := by
  intro X hX
  simp only [forall_eq, e_isSheet_y hk, e_isSort_y hz, e_fails]
  have e : (-10 - 4 : Int32) = -14 := by decide
  simp [hc, hc2, e, h]
theorem D_sheet_y {M : Mem} {R : Int32 → Mem → Prop} {k z n : Nat} (hk : k < 4) (hz : z < 3) (hn : n ≤ 60) (h : ∀ M', (∀ q, q ≠ 32 → M' q = mset (mset (mset M 29 0 0) 30 k (nI z)) 31 k (nI n) q) → (∀ j, M' 32 j = if 60 * k ≤ j ∧ j < 60 * k + 60 then 0 else M 32 j) → R 1 M') : wp_Model_sheet (nI k) (nI z) (nI n) M R := by
  intro X hX
  have f1 : nI n ≤ 60 := nI_le (b := 60) hn (by omega)
  have f2 : (0 : Int32) ≤ nI n := nI_pos' (by omega)
  have f3 : vp_in (nI k) 4 := vp_in_nI hk (by omega)
  have f4 : (nI k).toNatClampNeg = k := nI_clamp (by omega)
  have key : ∀ (d i : Nat), i + d = 60 → ∀ M1 : Mem, (∀ q, q ≠ 32 → M1 q = mset (mset (mset M 29 0 0) 30 k (nI z)) 31 k (nI n) q) → (∀ j, M1 32 j = if 60 * k ≤ j ∧ j < 60 * k + i then 0 else M 32 j) → X (nI k) (nI i) M1 := by
    intro d
    induction d with
    | zero =>
      intro i hi M1 e1 e2
      have : i = 60 := by omega
      subst this
      refine hX _ _ _ ⟨fun _ => h M1 e1 e2, fun z => absurd (by decide) z⟩
    | succ d ih =>
      intro i hi M1 e1 e2
      refine hX _ _ _ ⟨fun z => absurd z (nI_ge (b := 60) (by omega) (by omega)), fun _ => ?_⟩
      rw [ix60]
      refine ⟨vp_in_nI (by omega) (by omega), ?_⟩
      intro M2 eM2 x4 ex4
      rw [ex4, nI_1]
      refine ih (i + 1) (by omega) M2 ?_ ?_
      · intro q hq
        rw [eM2, ms_n hq, e1 q hq]
      · intro j
        rw [eM2, ms_s, nI_clamp (by omega)]
        by_cases hj : j = 60 * k + i
        · subst hj
          rw [up_s, if_pos (by omega)]
        · rw [up_n hj, e2]
          by_cases hc : 60 * k ≤ j ∧ j < 60 * k + i
          · rw [if_pos hc, if_pos (by omega)]
          · rw [if_neg hc, if_neg (by omega)]
  simp only [forall_eq, e_isSheet_y hk, e_isSort_y hz, f4]
  refine ⟨fun _ => ⟨fun z => absurd z (by decide), fun _ => ⟨fun _ => ⟨fun _ => ⟨f3, f3, ?_⟩, fun z => absurd f2 z⟩, fun z => absurd f1 z⟩⟩, fun z => absurd z (by decide)⟩
  refine key 60 0 (by omega) _ (fun q hq => rfl) (fun j => ?_)
  rw [if_neg (by omega)]
  rfl
theorem st_sheet : St_sheet Inv := by
  intro a b c M h
  obtain ⟨hwr, hf, hs⟩ := id h
  rcases sh_cl a with ⟨g1, g2⟩ | ⟨k, hk, rfl⟩
  · exact C_sheet_n1 g1 (D_sheet_n1 g2 ⟨rfl, h.flt 0⟩)
  rcases lane_cl b with ⟨g1, g2⟩ | ⟨z, hz, rfl⟩
  · exact C_sheet_n2 hk g1 (D_sheet_n2 hk g2 ⟨rfl, h.flt 0⟩)
  rcases len_cl c with g1 | ⟨g1, g2⟩ | ⟨n, hn, rfl, -, -⟩
  · exact C_sheet_n3 hk hz g1 (D_sheet_n3 hk hz g1 ⟨rfl, h.flt 0⟩)
  · exact C_sheet_n4 hk hz g1 g2 (D_sheet_n4 hk hz g1 g2 ⟨rfl, h.flt 4⟩)
  refine C_sheet_y hk hz hn (D_sheet_y hk hz hn (fun M' e1 e2 => ⟨rfl, ?_⟩))
  have cc : ∀ q, q ≠ 0 → q ≠ 29 → q ≠ 2 + k → q ≠ 6 + k → q ≠ 30 → q ≠ 31 → q ≠ 32 → M' q = M q := by
    intro q q1 q2 q3 q4 q5 q6 q7
    rw [e1 q q7, ms_n q6, ms_n q5, ms_n q2, ms_n q3, ms_n q3, ms_n q3, mr_n q4, ms_n q1]
  refine h.one hk cc ?_ ?_ ?_ ?_ ?_ ?_ ?_
  · intro q hq
    rw [e1 30 (by omega), ms_n (by omega), ms_s, up_n hq, ms_n (by omega), ms_n (by omega), ms_n (by omega), ms_n (by omega), mr_n (by omega), ms_n (by omega)]
  · intro q hq
    rw [e1 31 (by omega), ms_s, up_n hq, ms_n (by omega), ms_n (by omega), ms_n (by omega), ms_n (by omega), ms_n (by omega), mr_n (by omega), ms_n (by omega)]
  · intro j hj
    rw [e2 j, if_neg hj, ms_n (by omega), ms_n (by omega), ms_n (by omega), mr_n (by omega), ms_n (by omega)]
  · intro j hj
    rw [e1 29 (by omega), ms_n (by omega), ms_n (by omega), ms_s, up_n hj, ms_n (by omega), ms_n (by omega), ms_n (by omega), mr_n (by omega), ms_n (by omega)]
  · rw [e1 0 (by omega), ms_n (by omega), ms_n (by omega), ms_n (by omega), ms_n (by omega), ms_n (by omega), ms_n (by omega), mr_n (by omega), ms_s, up_n (by omega)]
  · rw [e1 29 (by omega), e1 0 (by omega), ms_n (by omega), ms_n (by omega), ms_s, up_s, ms_n (by omega), ms_n (by omega), ms_n (by omega), ms_n (by omega), ms_n (by omega), ms_n (by omega), mr_n (by omega), ms_s, up_s]
  · have b2 : M' (2 + k) = upd (upd (upd (M (2 + k)) 1 1) 2 (nI z)) 3 (nI n) := by
      rw [e1 _ (by omega), ms_n (by omega), ms_n (by omega), ms_n (by omega), ms_s, ms_s, ms_s, mr_n (by omega), ms_n (by omega)]
    have b6 : M' (6 + k) = fun j => if j < 60 then 0 else mset M 0 8 0 (6 + k) j := by
      rw [e1 _ (by omega), ms_n (by omega), ms_n (by omega), ms_n (by omega), ms_n (by omega), ms_n (by omega), ms_n (by omega), mr_s]
    have b30 : M' 30 k = nI z := by rw [e1 30 (by omega), ms_n (by omega), ms_s, up_s]
    have b31 : M' 31 k = nI n := by rw [e1 31 (by omega), ms_s, up_s]
    unfold ShS
    rw [b2, b6, b30, b31]
    refine ⟨fun j hj => ?_, ⟨n, hn, up_s, rfl⟩, Or.inl ⟨?_, ?_, z, hz, ?_⟩⟩
    · show (if j < 60 then 0 else mset M 0 8 0 (6 + k) j) = _
      rw [if_pos hj, e2, if_pos (by omega)]
    · rw [up_n (by omega), up_n (by omega), up_s]
    · rw [up_n (by omega), up_s]
    · rw [up_n (by omega), up_s]
