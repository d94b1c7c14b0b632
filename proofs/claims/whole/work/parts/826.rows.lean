theorem la_succ (l : List Nat) (i d : Nat) : la l i (d + 1) = if d + 1 ≤ i then i else if gt l (d + 1) ≤ gt l i then la l i d else d + 1 := rfl
theorem lr_succ (l : List Nat) (d : Nat) : lr l (d + 1) = if gt l (d + 1) ≤ gt l d then lr l d else d + 1 := rfl
theorem D_next {m : Nat} {l : List Nat} (hm : m ≤ 5) (hn : l.length = m) (lv : ∀ j, gt l j < 5) (ld : ∀ i, i < m → ∀ j, j < m → gt l i = gt l j → i = j) {M : Mem} {R : Int32 → Mem → Prop} (e : M 29 6 = nI m) (hl : RW 42 m l M) (k : ∀ M', XF 42 M M' → RW 42 m (nx m l) M' → R (if lr l (m - 1) = 0 then 0 else 1) M') : wp_Model_nextRow M R := by
  intro X7 X47 X86 h7 h47 h86 x ex
  have hle := lr_le l (m - 1)
  have key : ∀ (f : Nat) (t : List Nat) (a b : Nat) (M1 : Mem), t.length = m → b < m → a < 100 → b ≤ a + f → XF 42 M M1 → RW 42 m t M1 → nx m l = rv f t a b → lr l (m - 1) ≠ 0 → X86 (nI a) (nI b) M1 := by
    intro f
    induction f with
    | zero =>
      intro t a b M1 ht hb ha hab fr hr en nz
      have := k M1 fr (by rw [en]; exact hr)
      rw [if_neg nz] at this
      exact h86 _ _ _ ⟨fun _ => this, fun z => absurd (nI_le (by omega) (by omega)) z⟩
    | succ f ih =>
      intro t a b M1 ht hb ha hab fr hr en nz
      unfold rv at en
      by_cases c : b ≤ a
      · rw [if_pos c] at en
        have := k M1 fr (by rw [en]; exact hr)
        rw [if_neg nz] at this
        exact h86 _ _ _ ⟨fun _ => this, fun z => absurd (nI_le c (by omega)) z⟩
      · rw [if_neg c] at en
        refine h86 _ _ _ ⟨fun z => absurd z (nI_ge (by omega) (by omega)), fun _ => D_swap hm (by omega) hb ?_⟩
        intro y ey w ew
        rw [ey, ew, nI_1, show b = (b - 1) + 1 by omega, pk_m1, show (b - 1) + 1 = b by omega]
        exact ih _ _ _ _ (by rw [sw_len]; exact ht) (by omega) (by omega) (by omega) (fr.tr XF.sw) (hr.sw ht (by omega) hb) en nz
  have key2 : ∀ (r : Nat), lr l (m - 1) = r + 1 → r + 1 < m → ∀ d, d < m → r ≤ d → la l r d = la l r (m - 1) → X47 (nI r) (nI d) M := by
    intro r er hr d
    have stop : ∀ d, d < m → gt l r ≤ gt l d → d = la l r (m - 1) → X47 (nI r) (nI d) M := by
      intro d hd hg hla
      refine h47 _ _ _ ⟨vp_in_nI (by omega) (by omega), vp_in_nI (by omega) (by omega), ?_⟩
      rw [nI_clamp (by omega), nI_clamp (by omega), hl r (by omega), hl d hd]
      have b1 := lv r
      have b2 := lv d
      refine ⟨fun _ => D_swap hm (by omega) hd ?_, fun z => absurd (nI_le hg (by omega)) z⟩
      intro y ey w ew
      rw [ey, nI_1]
      have : w = nI (m - 1) := by
        rw [ew, XF.sw 29 (by decide), e]
        exact pk_sub (b := 1) (by omega)
      rw [this]
      refine key 5 _ _ _ _ (by rw [sw_len]; exact hn) (by omega) (by omega) (by omega) XF.sw (hl.sw hn (by omega) hd) ?_ (by omega)
      unfold nx
      rw [er, hla]
    induction d with
    | zero =>
      intro hd hrd hla
      have : r = 0 := by omega
      subst this
      exact stop 0 hd (Nat.le_refl _) hla
    | succ d ih =>
      intro hd hrd hla
      rw [la_succ] at hla
      by_cases c : d + 1 ≤ r
      · rw [if_pos c] at hla
        have : r = d + 1 := by omega
        refine stop (d + 1) hd (by rw [this]; exact Nat.le_refl _) (by omega)
      · rw [if_neg c] at hla
        by_cases c2 : gt l (d + 1) ≤ gt l r
        · rw [if_pos c2] at hla
          have ne : gt l r ≠ gt l (d + 1) := fun q => by
            have := ld r (by omega) (d + 1) hd q
            omega
          have b1 := lv r
          refine h47 _ _ _ ⟨vp_in_nI (by omega) (by omega), vp_in_nI (by omega) (by omega), ?_⟩
          rw [nI_clamp (by omega), nI_clamp (by omega), hl r (by omega), hl (d + 1) hd]
          refine ⟨fun z => absurd z (nI_ge (by omega) (by omega)), fun _ => ?_⟩
          intro y ey
          rw [ey, pk_m1]
          exact ih (by omega) (by omega) hla
        · rw [if_neg c2] at hla
          exact stop (d + 1) hd (by omega) hla
  have fin : ∀ r, lr l (m - 1) = r → wp_Model_nextRow_34 X7 X47 X86 R (rI r) M := by
    intro r er
    cases r with
    | zero =>
      have := k M XF.rf (by unfold nx; rw [er]; exact hl)
      rw [if_pos er] at this
      exact ⟨fun z => absurd z (by decide), fun _ => this⟩
    | succ r =>
      refine ⟨fun _ => ?_, fun z => absurd (nI_pos' (n := r) (by omega)) z⟩
      intro y ey
      have : y = nI (m - 1) := by
        rw [ey, e]
        exact pk_sub (b := 1) (by omega)
      rw [this]
      exact key2 r er (by omega) (m - 1) (by omega) (by omega) rfl
  have key3 : ∀ d, d < m → lr l d = lr l (m - 1) → X7 (rI d) M := by
    intro d
    induction d with
    | zero =>
      intro _ kk
      exact h7 _ _ ⟨fun _ => fin 0 kk.symm, fun z => absurd (by decide) z⟩
    | succ d ih =>
      intro hd kk
      refine h7 _ _ ⟨fun z => absurd z (nI_pos (n := d) (by omega)), fun _ => ?_⟩
      show vp_in (nI d) 5 ∧ vp_in (nI d + (1 : Int32)) 5 ∧ _
      refine ⟨vp_in_nI (by omega) (by omega), by rw [nI_1]; exact vp_in_nI (by omega) (by omega), ?_⟩
      show ((M 42 (nI d).toNatClampNeg) ≤ (M 42 (nI d + (1 : Int32)).toNatClampNeg) → _) ∧ (¬ (M 42 (nI d).toNatClampNeg) ≤ (M 42 (nI d + (1 : Int32)).toNatClampNeg) → _)
      rw [nI_1, nI_clamp (by omega), nI_clamp (by omega), hl d (by omega), hl (d + 1) hd]
      rw [lr_succ] at kk
      have b1 := lv d
      have b2 := lv (d + 1)
      have ne : gt l d ≠ gt l (d + 1) := fun q => by
        have := ld d (by omega) (d + 1) hd q
        omega
      refine ⟨fun c => ?_, fun c => ?_⟩
      · have c' := (le_nI (by omega) (by omega)).mp c
        rw [if_neg (by omega)] at kk
        exact fin (d + 1) kk.symm
      · have c' : ¬ gt l d ≤ gt l (d + 1) := fun z => c ((le_nI (by omega) (by omega)).mpr z)
        rw [if_pos (by omega)] at kk
        intro y ey
        have : y = rI d := by
          rw [ey]
          cases d with
          | zero => decide
          | succ d => exact pk_m1 d
        rw [this]
        exact ih (by omega) kk
  rw [e] at ex
  rcases Nat.eq_zero_or_pos m with h0 | h0
  · subst h0
    rw [ex]
    have := k M XF.rf hl
    exact h7 _ _ ⟨fun _ => ⟨fun z => absurd z (by decide), fun _ => this⟩, fun z => absurd (by decide) z⟩
  · have : x = rI (m - 1) := by
      rw [ex]
      rcases (show m = 1 ∨ m = 2 ∨ m = 3 ∨ m = 4 ∨ m = 5 by omega) with rfl | rfl | rfl | rfl | rfl <;> decide
    rw [this]
    exact key3 (m - 1) (by omega) rfl
def fc : Nat → Nat
  | 0 => 1
  | n + 1 => fc n * (n + 1)
def okRow (m : Nat) (l : List Nat) : Bool := decide (l.length = m) && (List.range m).all (fun i => decide (gt l i < m) && !((l.take i).contains (gt l i))) && (List.range 5).all (fun x => l.contains x == decide (x < m))
def chain (m : Nat) : Nat → List Nat → Bool
  | 0, l => okRow m l && decide (lr l (m - 1) = 0)
  | d + 1, l => okRow m l && !decide (lr l (m - 1) = 0) && chain m d (nx m l)
theorem chain_all : ∀ m, m < 6 → chain m (fc m - 1) (List.range m) = true := by decide +kernel
theorem fc_pos : ∀ m, 0 < fc m := by
  intro m
  induction m with
  | zero => decide
  | succ m ih => exact Nat.mul_pos ih (by omega)
theorem fc_le : ∀ m, m < 6 → fc m ≤ 120 := by decide
theorem chain_ok {m d : Nat} {l : List Nat} (h : chain m d l = true) : okRow m l = true := by
  cases d with
  | zero => simp only [chain, Bool.and_eq_true] at h; exact h.1
  | succ d => simp only [chain, Bool.and_eq_true] at h; exact h.1.1
theorem ok_len {m : Nat} {l : List Nat} (h : okRow m l = true) : l.length = m := by
  simp only [okRow, Bool.and_eq_true, decide_eq_true_eq] at h
  exact h.1.1
theorem ok_at {m : Nat} {l : List Nat} (h : okRow m l = true) {i : Nat} (hi : i < m) : gt l i < m ∧ gt l i ∉ l.take i := by
  simp only [okRow, Bool.and_eq_true, decide_eq_true_eq, List.all_eq_true] at h
  have := h.1.2 i (by simp; exact hi)
  simp only [Bool.not_eq_true', List.contains_eq_mem, decide_eq_false_iff_not] at this
  exact this
theorem ok_con {m : Nat} {l : List Nat} (h : okRow m l = true) {x : Nat} (hx : x < 5) : l.contains x = decide (x < m) := by
  simp only [okRow, Bool.and_eq_true, decide_eq_true_eq, List.all_eq_true] at h
  have := h.2 x (by simp; exact hx)
  exact eq_of_beq this
theorem gt_out {l : List Nat} {j : Nat} (h : l.length ≤ j) : gt l j = 0 := by
  show l.getD j 0 = 0
  rw [List.getD_eq_getElem?_getD, List.getElem?_eq_none h]
  rfl
theorem gt_some {l : List Nat} {j : Nat} (h : j < l.length) : l[j]? = some (gt l j) := by
  show _ = some (l.getD j 0)
  rw [List.getD_eq_getElem?_getD, List.getElem?_eq_getElem h]
  rfl
theorem ok_lv {m : Nat} (hm : m ≤ 5) {l : List Nat} (h : okRow m l = true) (j : Nat) : gt l j < 5 := by
  by_cases c : j < m
  · have := (ok_at h c).1
    omega
  · rw [gt_out (by rw [ok_len h]; omega)]
    decide
theorem take_gt {l : List Nat} {i : Nat} (h : i < l.length) : l.take (i + 1) = l.take i ++ [gt l i] := by
  rw [List.take_succ, gt_some h]
  rfl
theorem mem_take_gt {l : List Nat} {i j : Nat} (h : i < j) (hj : i < l.length) : gt l i ∈ l.take j := by
  have : (l.take j)[i]? = some (gt l i) := by
    rw [List.getElem?_take, if_pos h, gt_some hj]
  exact List.mem_of_getElem? this
theorem ok_ld {m : Nat} {l : List Nat} (h : okRow m l = true) : ∀ i, i < m → ∀ j, j < m → gt l i = gt l j → i = j := by
  intro i hi j hj e
  have hl := ok_len h
  rcases Nat.lt_trichotomy i j with c | c | c
  · exact absurd (e ▸ mem_take_gt c (by omega)) (ok_at h hj).2
  · exact c
  · exact absurd (e ▸ mem_take_gt c (by omega)) (ok_at h hi).2
