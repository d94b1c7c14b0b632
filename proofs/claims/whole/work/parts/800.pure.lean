/-! the pure part: no machine from here on -/
theorem cl {n n1 : Nat} {N N1 : Int32} (hN : N = nI n) (hN1 : N1 = nI n1) (h1 : n1 + 1 = n) (hn : n < 2 ^ 31) (a : Int32) : a < 0 ∨ (¬ a < 0 ∧ N ≤ a ∧ N1 < a) ∨ ∃ k, k < n ∧ a = nI k ∧ ¬ nI k < 0 ∧ ¬ N ≤ nI k ∧ ¬ N1 < nI k ∧ (nI k).toNatClampNeg = k ∧ vp_in (nI k) n := by
  subst hN; subst hN1
  rcases pk_ix a hn with h | h | ⟨k, hk, rfl⟩
  · exact Or.inl h
  · refine Or.inr (Or.inl ?_)
    have h2 := Int32.le_iff_toInt_le.mp h
    rw [nI_toInt hn] at h2
    have z : (0 : Int32).toInt = 0 := rfl
    refine ⟨fun q => ?_, h, ?_⟩
    · have q2 := Int32.lt_iff_toInt_lt.mp q
      rw [z] at q2
      omega
    · rw [Int32.lt_iff_toInt_lt, nI_toInt (by omega)]
      omega
  · exact Or.inr (Or.inr ⟨k, hk, rfl, nI_pos (by omega), nI_ge hk hn, nI_nlt (by omega) (by omega), nI_clamp (by omega), vp_in_nI hk hn⟩)
/-- as cl, with a bound that is a number of the world -/
theorem cl0 {n : Nat} {N : Int32} (hN : N = nI n) (hn : n < 2 ^ 31) (a : Int32) : a < 0 ∨ (¬ a < 0 ∧ N ≤ a) ∨ ∃ k, k < n ∧ a = nI k ∧ ¬ nI k < 0 ∧ ¬ N ≤ nI k ∧ (nI k).toNatClampNeg = k := by
  subst hN
  rcases pk_ix a hn with h | h | ⟨k, hk, rfl⟩
  · exact Or.inl h
  · refine Or.inr (Or.inl ?_)
    have h2 := Int32.le_iff_toInt_le.mp h
    rw [nI_toInt hn] at h2
    have z : (0 : Int32).toInt = 0 := rfl
    refine ⟨fun q => ?_, h⟩
    have q2 := Int32.lt_iff_toInt_lt.mp q
    rw [z] at q2
    omega
  · exact Or.inr (Or.inr ⟨k, hk, rfl, nI_pos (by omega), nI_ge hk hn, nI_clamp (by omega)⟩)
/-! the invariant -/
def IvW (n m : Nat) (M : Mem) : Prop := n ≤ 6 ∧ m ≤ 5 ∧ (n = 0 ↔ m = 0) ∧ M 12 5 = nI n ∧ M 29 5 = nI n ∧ M 12 6 = nI m ∧ M 29 6 = nI m ∧ M 12 7 = 6 ∧ M 29 12 = 6 ∧ M 33 = M 13 ∧ M 34 = M 14 ∧ M 35 = M 15 ∧ M 36 = M 16 ∧ M 37 = M 17 ∧ (∀ h, h < n → (∃ a, a < 3 ∧ M 13 h = nI a) ∧ (∃ a, a < 6 ∧ M 14 h = nI a) ∧ (∃ a, a < 6 ∧ M 15 h = nI a) ∧ ∃ a, a < 7 ∧ M 16 h = nI a) ∧ ∀ g, g < m → ∃ a, a < 64 ∧ M 17 g = nI a
def IvR (m c : Nat) (M : Mem) : Prop := c ≤ 8 ∧ M 26 4 = nI c ∧ M 29 23 = nI c ∧ M 44 = M 27 ∧ M 45 = M 28 ∧ ∀ r, r < c → ∃ g, g < m ∧ M 27 r = nI g
def IvF (M : Mem) : Prop := M 29 1 = M 0 7 ∧ M 29 0 = M 0 8
def ShS (q : Nat) (M : Mem) : Prop := (∀ j, j < 60 → M (6 + q) j = M 32 (60 * q + j)) ∧ (∃ n, n ≤ 60 ∧ M (2 + q) 3 = nI n ∧ M 31 q = nI n) ∧ ((M (2 + q) 1 = 1 ∧ M 30 q = M (2 + q) 2 ∧ ∃ a, a < 3 ∧ M (2 + q) 2 = nI a) ∨ (M (2 + q) 1 = 0 ∧ M 30 q = -9))
def IvS (M : Mem) : Prop := ∀ q, q < 4 → ShS q M
def Inv (M : Mem) : Prop := (∃ n m c, IvW n m M ∧ IvR m c M) ∧ IvF M ∧ IvS M
theorem IvW.of {n m : Nat} {M M' : Mem} (h : IvW n m M) (e : ∀ k, k ∈ [12, 13, 14, 15, 16, 17, 33, 34, 35, 36, 37] → M' k = M k) (e5 : M' 29 5 = M 29 5) (e6 : M' 29 6 = M 29 6) (e12 : M' 29 12 = M 29 12) : IvW n m M' := by
  simp only [List.mem_cons, List.not_mem_nil, or_false, forall_eq_or_imp, forall_eq] at e
  obtain ⟨a12, a13, a14, a15, a16, a17, a33, a34, a35, a36, a37⟩ := e
  unfold IvW at h ⊢
  rw [a12, a13, a14, a15, a16, a17, a33, a34, a35, a36, a37, e5, e6, e12]
  exact h
theorem IvR.of {m c : Nat} {M M' : Mem} (h : IvR m c M) (e : ∀ k, k ∈ [27, 28, 44, 45] → M' k = M k) (e4 : M' 26 4 = M 26 4) (e23 : M' 29 23 = M 29 23) : IvR m c M' := by
  simp only [List.mem_cons, List.not_mem_nil, or_false, forall_eq_or_imp, forall_eq] at e
  obtain ⟨a27, a28, a44, a45⟩ := e
  unfold IvR at h ⊢
  rw [a27, a28, a44, a45, e4, e23]
  exact h
theorem IvF.of {M M' : Mem} (h : IvF M) (e7 : M' 0 7 = M 0 7) (e8 : M' 0 8 = M 0 8) (e0 : M' 29 0 = M 29 0) (e1 : M' 29 1 = M 29 1) : IvF M' := by
  unfold IvF at h ⊢
  rw [e7, e8, e0, e1]
  exact h
theorem IvS.of {M M' : Mem} (h : IvS M) (e : ∀ k, k ∈ [2, 3, 4, 5, 6, 7, 8, 9, 30, 31, 32] → M' k = M k) : IvS M' := by
  simp only [List.mem_cons, List.not_mem_nil, or_false, forall_eq_or_imp, forall_eq] at e
  obtain ⟨a2, a3, a4, a5, a6, a7, a8, a9, a30, a31, a32⟩ := e
  intro q hq
  have h1 := h q hq
  unfold ShS at h1 ⊢
  have b2 : M' (2 + q) = M (2 + q) := by
    rcases (show q = 0 ∨ q = 1 ∨ q = 2 ∨ q = 3 by omega) with rfl | rfl | rfl | rfl <;> assumption
  have b6 : M' (6 + q) = M (6 + q) := by
    rcases (show q = 0 ∨ q = 1 ∨ q = 2 ∨ q = 3 by omega) with rfl | rfl | rfl | rfl <;> assumption
  rw [b2, b6, a30, a31, a32]
  exact h1
/-- what no later call shows -/
def scr (k j : Nat) : Bool := match k with
  | 10 => true | 11 => true | 18 => true | 19 => true | 20 => true | 21 => true | 22 => true | 23 => true | 24 => true | 25 => true
  | 26 => j == 5 || j == 6
  | 29 => j == 13 || j == 14 || j == 15 || j == 18
  | 38 => true | 39 => true | 40 => true | 41 => true | 42 => true | 43 => true
  | _ => false
def SE (M M' : Mem) : Prop := ∀ k j, scr k j = false → M' k j = M k j
theorem SE.rf {M : Mem} : SE M M := fun _ _ _ => rfl
theorem SE.tr {M M1 M2 : Mem} (h : SE M M1) (h2 : SE M1 M2) : SE M M2 := fun k j e => (h2 k j e).trans (h k j e)
theorem SE.set {M M1 : Mem} (h : SE M M1) {k j : Nat} (hk : scr k j = true) (v : Int32) : SE M (mset M1 k j v) := by
  intro k2 j2 e
  by_cases hkk : k2 = k
  · subst hkk
    by_cases hj : j2 = j
    · subst hj; rw [hk] at e; cases e
    · simp only [mset, mrow, upd, if_true, if_neg hj]
      exact h k2 j2 e
  · simp only [mset, mrow, if_neg hkk]
    exact h k2 j2 e
theorem SE.row {M M1 : Mem} (h : SE M M1) {k : Nat} (hk : ∀ j, scr k j = true) (f : Nat → Int32) : SE M (mrow M1 k f) := by
  intro k2 j2 e
  by_cases hkk : k2 = k
  · subst hkk; rw [hk] at e; cases e
  · simp only [mrow, if_neg hkk]
    exact h k2 j2 e
theorem SE.r {M M' : Mem} (h : SE M M') {k : Nat} (hk : ∀ j, scr k j = false) : M' k = M k := by
  funext j
  exact h k j (hk j)
theorem IvW.se {n m : Nat} {M M' : Mem} (h : IvW n m M) (e : SE M M') : IvW n m M' := by
  refine h.of ?_ (e 29 5 rfl) (e 29 6 rfl) (e 29 12 rfl)
  simp only [List.mem_cons, List.not_mem_nil, or_false, forall_eq_or_imp, forall_eq]
  exact ⟨e.r (fun _ => rfl), e.r (fun _ => rfl), e.r (fun _ => rfl), e.r (fun _ => rfl), e.r (fun _ => rfl), e.r (fun _ => rfl), e.r (fun _ => rfl), e.r (fun _ => rfl), e.r (fun _ => rfl), e.r (fun _ => rfl), e.r (fun _ => rfl)⟩
theorem IvR.se {m c : Nat} {M M' : Mem} (h : IvR m c M) (e : SE M M') : IvR m c M' := by
  refine h.of ?_ (e 26 4 rfl) (e 29 23 rfl)
  simp only [List.mem_cons, List.not_mem_nil, or_false, forall_eq_or_imp, forall_eq]
  exact ⟨e.r (fun _ => rfl), e.r (fun _ => rfl), e.r (fun _ => rfl), e.r (fun _ => rfl)⟩
theorem IvF.se {M M' : Mem} (h : IvF M) (e : SE M M') : IvF M' := h.of (e 0 7 rfl) (e 0 8 rfl) (e 29 0 rfl) (e 29 1 rfl)
theorem IvS.se {M M' : Mem} (h : IvS M) (e : SE M M') : IvS M' := by
  refine h.of ?_
  simp only [List.mem_cons, List.not_mem_nil, or_false, forall_eq_or_imp, forall_eq]
  exact ⟨e.r (fun _ => rfl), e.r (fun _ => rfl), e.r (fun _ => rfl), e.r (fun _ => rfl), e.r (fun _ => rfl), e.r (fun _ => rfl), e.r (fun _ => rfl), e.r (fun _ => rfl), e.r (fun _ => rfl), e.r (fun _ => rfl), e.r (fun _ => rfl)⟩
theorem Inv.se {M M' : Mem} (h : Inv M) (e : SE M M') : Inv M' := by
  obtain ⟨⟨n, m, c, h1, h2⟩, h3, h4⟩ := h
  exact ⟨⟨n, m, c, h1.se e, h2.se e⟩, h3.se e, h4.se e⟩
theorem inv_M0 : Inv M0 := by
  refine ⟨⟨0, 0, 0, ?_, ?_⟩, ⟨rfl, rfl⟩, ?_⟩
  · exact ⟨by omega, by omega, by omega, rfl, rfl, rfl, rfl, rfl, rfl, rfl, rfl, rfl, rfl, rfl, fun h hh => by omega, fun g hg => by omega⟩
  · exact ⟨by omega, rfl, rfl, rfl, rfl, fun r hr => by omega⟩
  · intro q hq
    rcases (show q = 0 ∨ q = 1 ∨ q = 2 ∨ q = 3 by omega) with rfl | rfl | rfl | rfl <;>
      exact ⟨fun j _ => rfl, ⟨0, by omega, rfl, rfl⟩, Or.inr ⟨rfl, rfl⟩⟩
theorem st_trace : St_trace Inv := by
  intro M h
  simp only [wp_Main_trace, wp_Model_trace]
  exact ⟨h.2.1.1.symm, h⟩
theorem st_fault : St_fault Inv := by
  intro M h
  simp only [wp_Main_fault, wp_Model_fault]
  exact ⟨h.2.1.2.symm, h⟩
theorem st_many : St_many Inv := by
  intro a M h
  obtain ⟨⟨n, m, c, hw, hr⟩, hf, hs⟩ := id h
  obtain ⟨h1, h2, h3, h4, h5, h6, h7, -⟩ := id hw
  obtain ⟨r1, r2, r3, -⟩ := id hr
  simp only [wp_Main_many, wp_Model_many, h4, h5, h6, h7, r2, r3]
  by_cases c0 : a = 0
  · subst c0; simp [h]
  by_cases c1 : a = 1
  · subst c1; simp [h]
  by_cases c2 : a = 2
  · subst c2; simp [h]
  simp [c0, c1, c2, h]
theorem st_gear : St_gear Inv := by
  intro a M h
  obtain ⟨⟨n, m, c, hw, hr⟩, hf, hs⟩ := id h
  obtain ⟨h1, h2, h3, h4, h5, h6, h7, h8, h9, h10, h11, h12, h13, h14, h15, h16⟩ := id hw
  simp only [wp_Main_gear, wp_Model_gear, wp_Way_hasGuest, wp_Main_isBelow, wp_Model_isGuest, h6, h7, h14]
  rcases cl0 (N := nI m) rfl (by omega) a with q | ⟨q, q2⟩ | ⟨k, hk, rfl, q1, q2, q3⟩
  · simp [q, h]
  · simp [q, q2, h]
  · have hin : vp_in (nI k) 5 := vp_in_nI (by omega) (by omega)
    simp [q1, q2, hin, h]
theorem st_ofHouse : St_ofHouse Inv := by
  intro a b M h
  obtain ⟨⟨n, m, c, hw, hr⟩, hf, hs⟩ := id h
  obtain ⟨h1, h2, h3, h4, h5, h6, h7, h8, h9, h10, h11, h12, h13, h14, h15, h16⟩ := id hw
  simp only [wp_Main_ofHouse, wp_Model_ofHouse, wp_Way_hasHouse, wp_Main_isBelow, wp_Model_isHouse, h4, h5, h10, h11, h12, h13]
  rcases cl0 (N := nI n) rfl (by omega) a with q | ⟨q, q2⟩ | ⟨k, hk, rfl, q1, q2, q3⟩
  · simp [q, h]
  · simp [q, q2, h]
  · have hin : vp_in (nI k) 6 := vp_in_nI (by omega) (by omega)
    simp only [q1, q2, hin]
    by_cases c0 : b = 0
    · subst c0; simp [h]
    by_cases c1 : b = 1
    · subst c1; simp [h]
    by_cases c2 : b = 2
    · subst c2; simp [h]
    by_cases c3 : b = 3
    · subst c3; simp [h]
    simp [c0, c1, c2, c3, h]
