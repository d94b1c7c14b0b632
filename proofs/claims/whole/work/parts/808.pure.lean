theorem D_copy_loop {M : Mem} {R : Int32 → Mem → Prop} {k o i j n : Nat} (hk : k < 4) (ho : o < 4) (hi : i + n ≤ 60) (hj : j + n ≤ 60) (X : Int32 → Int32 → Int32 → Int32 → Int32 → Int32 → Int32 → Mem → Prop) (hX : ∀ (x1 : Int32) (x2 : Int32) (x3 : Int32) (x4 : Int32) (x5 : Int32) (x7 : Int32) (x8 : Int32) (M : Mem), wp_Model_copy_166 X R x1 x2 x3 x4 x5 x7 x8 M → X x1 x2 x3 x4 x5 x7 x8 M)
    (h : ∀ M', (∀ q, q ≠ 32 → M' q = M q) → (∀ p, M' 32 p = if 60 * o + j ≤ p ∧ p < 60 * o + j + n then M 32 (60 * k + i + (p - (60 * o + j))) else M 32 p) → R (nI n) M') : X (nI k) (nI i) (nI o) (nI j) (nI n) (if nI j ≤ nI i then 0 else 1) 0 M := by
  have ixs : ∀ (a b c : Nat), (60 : Int32) * nI a + nI b + nI c = nI (60 * a + b + c) := by
    intro a b c
    rw [ix60, nI_add]
  rcases Nat.lt_or_ge i j with hij | hij
  · rw [if_neg (nI_ge hij (by omega))]
    have key : ∀ (d q : Nat), q + d = n → ∀ M1 : Mem, (∀ z, z ≠ 32 → M1 z = M z) → (∀ p, M1 32 p = if 60 * o + j + (n - q) ≤ p ∧ p < 60 * o + j + n then M 32 (60 * k + i + (p - (60 * o + j))) else M 32 p) → X (nI k) (nI i) (nI o) (nI j) (nI n) 1 (nI q) M1 := by
      intro d
      induction d with
      | zero =>
        intro q hq M1 e1 e2
        have : q = n := by omega
        subst this
        refine hX _ _ _ _ _ _ _ _ ⟨fun _ => h M1 e1 (fun p => ?_), fun z => absurd (Int32.le_refl _) z⟩
        rw [e2 p, Nat.sub_self, Nat.add_zero]
      | succ d ih =>
        intro q hq M1 e1 e2
        refine hX _ _ _ _ _ _ _ _ ⟨fun z => absurd z (nI_ge (by omega) (by omega)), fun _ => ⟨fun z => absurd z (by decide), fun _ => ?_⟩⟩
        have es : (nI n - 1) - nI q = nI (n - 1 - q) := by
          have e0 : nI n - 1 = nI (n - 1) := pk_sub (a := n) (b := 1) (by omega)
          rw [e0, pk_sub (by omega)]
        unfold wp_Model_copy_190
        rw [es, ixs, ixs]
        refine ⟨vp_in_nI (by omega) (by omega), vp_in_nI (by omega) (by omega), ?_⟩
        intro M15 e15 x8 e8
        rw [e8, nI_1]
        refine ih (q + 1) (by omega) M15 (fun z hz => ?_) (fun p => ?_)
        · rw [e15, ms_n hz, e1 z hz]
        · rw [e15, ms_s, nI_clamp (by omega), nI_clamp (by omega)]
          by_cases hp : p = 60 * o + j + (n - 1 - q)
          · subst hp
            rw [up_s, e2, if_neg (by omega), if_pos (by omega)]
            congr 1
            omega
          · rw [up_n hp, e2]
            by_cases hc : 60 * o + j + (n - q) ≤ p ∧ p < 60 * o + j + n
            · rw [if_pos hc, if_pos (by omega)]
            · rw [if_neg hc, if_neg (by omega)]
    refine key n 0 (by omega) M (fun _ _ => rfl) (fun p => ?_)
    rw [if_neg (by omega)]
  · rw [if_pos (nI_le hij (by omega))]
    have key : ∀ (d q : Nat), q + d = n → ∀ M1 : Mem, (∀ z, z ≠ 32 → M1 z = M z) → (∀ p, M1 32 p = if 60 * o + j ≤ p ∧ p < 60 * o + j + q then M 32 (60 * k + i + (p - (60 * o + j))) else M 32 p) → X (nI k) (nI i) (nI o) (nI j) (nI n) 0 (nI q) M1 := by
      intro d
      induction d with
      | zero =>
        intro q hq M1 e1 e2
        have : q = n := by omega
        subst this
        exact hX _ _ _ _ _ _ _ _ ⟨fun _ => h M1 e1 e2, fun z => absurd (Int32.le_refl _) z⟩
      | succ d ih =>
        intro q hq M1 e1 e2
        refine hX _ _ _ _ _ _ _ _ ⟨fun z => absurd z (nI_ge (by omega) (by omega)), fun _ => ⟨fun _ => ?_, fun z => absurd rfl z⟩⟩
        unfold wp_Model_copy_190
        rw [ixs, ixs]
        refine ⟨vp_in_nI (by omega) (by omega), vp_in_nI (by omega) (by omega), ?_⟩
        intro M15 e15 x8 e8
        rw [e8, nI_1]
        refine ih (q + 1) (by omega) M15 (fun z hz => ?_) (fun p => ?_)
        · rw [e15, ms_n hz, e1 z hz]
        · rw [e15, ms_s, nI_clamp (by omega), nI_clamp (by omega)]
          by_cases hp : p = 60 * o + j + q
          · subst hp
            rw [up_s, e2, if_neg (by omega), if_pos (by omega)]
            congr 1
            omega
          · rw [up_n hp, e2]
            by_cases hc : 60 * o + j ≤ p ∧ p < 60 * o + j + q
            · rw [if_pos hc, if_pos (by omega)]
            · rw [if_neg hc, if_neg (by omega)]
    refine key n 0 (by omega) M (fun _ _ => rfl) (fun p => ?_)
    rw [if_neg (by omega)]
theorem st_copy : St_copy Inv := by
  intro a b c d e M h
  obtain ⟨hwr, hf, hs⟩ := id h
  rcases sh_cl a with ⟨g1, g2⟩ | ⟨k, hk, rfl⟩
  · exact C_copy_n1 (Or.inl g1) (D_copy_n1 (Or.inl g2) ⟨rfl, h.flt 0⟩)
  rcases sh_cl c with ⟨g1, g2⟩ | ⟨o, ho, rfl⟩
  · exact C_copy_n1 (Or.inr g1) (D_copy_n1 (Or.inr g2) ⟨rfl, h.flt 0⟩)
  have rk := (hs k hk).row
  have ro := (hs o ho).row
  have f30 : ∀ v, mset M 0 8 v 30 = M 30 := fun v => ms_n (by omega)
  have f31 : ∀ v, mset M 0 8 v 31 = M 31 := fun v => ms_n (by omega)
  by_cases c0 : M (2 + k) 1 = 0
  · exact C_copy_n2 hk ho (Or.inl c0) (D_copy_n2 hk ho (by rw [f30]; exact Or.inl (rk.mp c0)) ⟨rfl, h.flt 1⟩)
  by_cases c1 : M (2 + o) 1 = 0
  · exact C_copy_n2 hk ho (Or.inr c1) (D_copy_n2 hk ho (by rw [f30]; exact Or.inr (ro.mp c1)) ⟨rfl, h.flt 1⟩)
  have c0' : ¬ M 30 k = -9 := fun z => c0 (rk.mpr z)
  have c1' : ¬ M 30 o = -9 := fun z => c1 (ro.mpr z)
  obtain ⟨s1, ⟨lk, hlk, e1, e2⟩, s3⟩ := id (hs k hk)
  obtain ⟨t1, ⟨lo, hlo, d1, d2⟩, t3⟩ := id (hs o ho)
  have k2 : M 30 k = M (2 + k) 2 := by
    rcases s3 with s | s
    · exact s.2.1
    · exact absurd s.1 c0
  have o2 : M 30 o = M (2 + o) 2 := by
    rcases t3 with s | s
    · exact s.2.1
    · exact absurd s.1 c1
  by_cases c2 : M (2 + k) 2 = M (2 + o) 2
  · have c2' : M 30 k = M 30 o := by rw [k2, o2, c2]
    by_cases c3 : hoP (M (2 + k) 3) b e ∧ hoP (M (2 + o) 3) d e
    · obtain ⟨c3, c4⟩ := c3
      rw [e1] at c3
      rw [d1] at c4
      obtain ⟨i, n, rfl, rfl, hin⟩ := hoP_nat hlk c3
      obtain ⟨j, n2, rfl, en, hjn⟩ := hoP_nat hlo c4
      have : n = n2 := (nI_eq (by omega) (by omega)).mp en
      subst this
      refine C_copy_y hk ho c0 c1 c2 (by rw [e1]; exact c3) (by rw [d1]; exact c4) (by omega) (by omega) ?_
      have g30 : ∀ f, mrow (mset M 0 8 0) (6 + o) f 30 = M 30 := fun f => by rw [mr_n (by omega), ms_n (by omega)]
      have g31 : ∀ f, mrow (mset M 0 8 0) (6 + o) f 31 = M 31 := fun f => by rw [mr_n (by omega), ms_n (by omega)]
      have g32 : ∀ f, mrow (mset M 0 8 0) (6 + o) f 32 = M 32 := fun f => by rw [mr_n (by omega), ms_n (by omega)]
      refine D_copy_h hk ho (by rw [g30]; exact c0') (by rw [g30]; exact c1') (by rw [g30]; exact c2') ?_ ?_
      · rw [g31, e2, d2]
        intro bad
        rcases bad with bad | bad
        · exact absurd c3 bad
        · exact absurd c4 bad
      · intro X hX _ _
        refine D_copy_loop hk ho (by omega) (by omega) X hX (fun M' w1 w2 => ⟨rfl, ?_⟩)
        rw [ms_n (show 32 ≠ 29 by omega), g32] at w2
        refine h.one ho ?_ ?_ ?_ ?_ ?_ ?_ ?_ ?_
        · intro q q1 q2 q3 q4 q5 q6 q7
          rw [w1 q q7, ms_n q2, mr_n q4, ms_n q1]
        · intro q hq
          rw [w1 30 (by omega), ms_n (by omega), g30]
        · intro q hq
          rw [w1 31 (by omega), ms_n (by omega), g31]
        · intro p hp
          rw [w2 p, if_neg (by omega)]
        · intro q hq
          rw [w1 29 (by omega), ms_s, up_n hq, mr_n (by omega), ms_n (by omega)]
        · rw [w1 0 (by omega), ms_n (by omega), mr_n (by omega), ms_s, up_n (by omega)]
        · rw [w1 29 (by omega), w1 0 (by omega), ms_s, up_s, ms_n (by omega), mr_n (by omega), ms_s, up_s]
        · unfold ShS
          rw [w1 (2 + o) (by omega), ms_n (show 2 + o ≠ 29 by omega), mr_n (show 2 + o ≠ 6 + o by omega), ms_n (show 2 + o ≠ 0 by omega), w1 30 (by omega), ms_n (show 30 ≠ 29 by omega), g30, w1 31 (by omega), ms_n (show 31 ≠ 29 by omega), g31, w1 (6 + o) (by omega), ms_n (show 6 + o ≠ 29 by omega), mr_s]
          refine ⟨fun p hp => ?_, ⟨lo, hlo, d1, d2⟩, t3⟩
          rw [w2]
          unfold va_cpy
          by_cases hc : j ≤ p ∧ p < j + n
          · rw [if_pos hc, if_pos (by omega), s1 _ (by omega)]
            congr 1
            omega
          · rw [if_neg hc, if_neg (by omega)]
            exact t1 p hp
    · have c3' : ¬ hoP (M (2 + k) 3) b e ∨ ¬ hoP (M (2 + o) 3) d e := by
        by_cases z : hoP (M (2 + k) 3) b e
        · exact Or.inr fun y => c3 ⟨z, y⟩
        · exact Or.inl z
      refine C_copy_n4 hk ho c0 c1 c2 c3' (D_copy_h hk ho (by rw [f30]; exact c0') (by rw [f30]; exact c1') (by rw [f30]; exact c2') (fun _ => ⟨rfl, h.flt 3⟩) (fun X hX z1 z2 => ?_))
      rw [f31, e2] at z1
      rw [f31, d2] at z2
      rw [← e1] at z1
      rw [← d1] at z2
      exact absurd ⟨z1, z2⟩ c3
  · have c2' : ¬ M 30 k = M 30 o := by rw [k2, o2]; exact c2
    exact C_copy_n3 hk ho c0 c1 c2 (D_copy_n3 hk ho (by rw [f30]; exact c0') (by rw [f30]; exact c1') (by rw [f30]; exact c2') ⟨rfl, h.flt 2⟩)
