/-! rows of guests, and the next row -/
def gt (l : List Nat) (j : Nat) : Nat := l.getD j 0
def sw (l : List Nat) (i j : Nat) : List Nat := (List.range l.length).map (fun x => if x = j then gt l i else if x = i then gt l j else gt l x)
def lr (l : List Nat) : Nat → Nat
  | 0 => 0
  | d + 1 => if gt l (d + 1) ≤ gt l d then lr l d else d + 1
def la (l : List Nat) (i : Nat) : Nat → Nat
  | 0 => i
  | d + 1 => if d + 1 ≤ i then i else if gt l (d + 1) ≤ gt l i then la l i d else d + 1
def rv : Nat → List Nat → Nat → Nat → List Nat
  | 0, l, _, _ => l
  | f + 1, l, a, b => if b ≤ a then l else rv f (sw l a b) (a + 1) (b - 1)
def nx (m : Nat) (l : List Nat) : List Nat := match lr l (m - 1) with
  | 0 => l
  | r + 1 => rv 5 (sw l r (la l r (m - 1))) (r + 1) (m - 1)
def RW (k m : Nat) (l : List Nat) (M : Mem) : Prop := ∀ j, j < m → M k j = nI (gt l j)
def XF (k : Nat) (M M' : Mem) : Prop := ∀ q, q ≠ k → M' q = M q
theorem XF.rf {k : Nat} {M : Mem} : XF k M M := fun _ _ => rfl
theorem XF.tr {k : Nat} {M M1 M2 : Mem} (h : XF k M M1) (h2 : XF k M1 M2) : XF k M M2 := fun q a => (h2 q a).trans (h q a)
theorem sw_len (l : List Nat) (i j : Nat) : (sw l i j).length = l.length := by simp [sw]
theorem sw_gt {l : List Nat} {i j x : Nat} (hx : x < l.length) : gt (sw l i j) x = if x = j then gt l i else if x = i then gt l j else gt l x := by
  have : (sw l i j)[x]? = some (if x = j then gt l i else if x = i then gt l j else gt l x) := by
    unfold sw
    rw [List.getElem?_map, List.getElem?_range hx]
    rfl
  show (sw l i j).getD x 0 = _
  rw [List.getD_eq_getElem?_getD, this]
  rfl
theorem RW.sw {k m : Nat} {l : List Nat} {M : Mem} (h : RW k m l M) (hl : l.length = m) {i j : Nat} (hi : i < m) (hj : j < m) : RW k m (sw l i j) (mset (mset M k i (M k j)) k j (M k i)) := by
  intro x hx
  rw [ms_s, sw_gt (by omega)]
  by_cases c : x = j
  · rw [c, up_s, if_pos rfl]
    exact h i hi
  · rw [up_n c, if_neg c, ms_s]
    by_cases c2 : x = i
    · rw [c2, up_s, if_pos rfl]
      exact h j hj
    · rw [up_n c2, if_neg c2]
      exact h x hx
theorem XF.sw {k i j : Nat} {u v : Int32} {M : Mem} : XF k M (mset (mset M k i u) k j v) := fun q h => by rw [ms_n h, ms_n h]
theorem le_nI {a b : Nat} (ha : a < 2 ^ 31) (hb : b < 2 ^ 31) : nI a ≤ nI b ↔ a ≤ b := by
  constructor
  · intro h
    rcases Nat.lt_or_ge b a with c | c
    · exact absurd h (nI_ge c ha)
    · exact c
  · intro h
    exact nI_le h hb
theorem C_swap {m i j : Nat} (hm : m ≤ 5) (hi : i < m) (hj : j < m) {M : Mem} {R : Mem → Prop} (k : R (mset (mset M 23 i (M 23 j)) 23 j (M 23 i))) : wp_Orders_swap (nI i) (nI j) M R := by
  unfold wp_Orders_swap
  rw [nI_clamp (by omega), nI_clamp (by omega)]
  refine ⟨vp_in_nI (by omega) (by omega), ?_⟩
  intro x ex
  refine ⟨vp_in_nI (by omega) (by omega), vp_in_nI (by omega) (by omega), ?_⟩
  intro M5 e5
  refine ⟨vp_in_nI (by omega) (by omega), ?_⟩
  intro M7 e7
  rw [e7, e5, ex]
  exact k
theorem D_swap {m i j : Nat} (hm : m ≤ 5) (hi : i < m) (hj : j < m) {M : Mem} {R : Mem → Prop} (k : R (mset (mset M 42 i (M 42 j)) 42 j (M 42 i))) : wp_Model_swap (nI i) (nI j) M R := by
  unfold wp_Model_swap
  rw [nI_clamp (by omega), nI_clamp (by omega)]
  refine ⟨vp_in_nI (by omega) (by omega), ?_⟩
  intro x ex
  refine ⟨vp_in_nI (by omega) (by omega), vp_in_nI (by omega) (by omega), ?_⟩
  intro M5 e5
  refine ⟨vp_in_nI (by omega) (by omega), ?_⟩
  intro M7 e7
  rw [e7, e5, ex]
  exact k
theorem lr_le (l : List Nat) : ∀ d, lr l d ≤ d := by
  intro d
  induction d with
  | zero => exact Nat.le_refl _
  | succ d ih =>
    unfold lr
    by_cases c : gt l (d + 1) ≤ gt l d
    · rw [if_pos c]; omega
    · rw [if_neg c]; omega
theorem la_lt (l : List Nat) (i : Nat) : ∀ d, i ≤ d → la l i d ≤ d := by
  intro d
  induction d with
  | zero => intro h; unfold la; omega
  | succ d ih =>
    intro h
    unfold la
    by_cases c : d + 1 ≤ i
    · rw [if_pos c]; omega
    · rw [if_neg c]
      by_cases c2 : gt l (d + 1) ≤ gt l i
      · rw [if_pos c2]
        have := ih (by omega)
        omega
      · rw [if_neg c2]; omega
def rI : Nat → Int32
  | 0 => -1
  | r + 1 => nI r
theorem C_lastRise {m : Nat} {l : List Nat} (hm : m ≤ 5) (lv : ∀ j, gt l j < 5) {M : Mem} {R : Int32 → Mem → Prop} (e : M 22 1 = nI m) (hl : RW 23 m l M) (k : R (rI (lr l (m - 1))) M) : wp_Orders_lastRise M R := by
  intro X hX x ex
  have key : ∀ d, d < m → R (rI (lr l d)) M → X (rI d) M := by
    intro d
    induction d with
    | zero =>
      intro _ kk
      exact hX _ _ ⟨fun _ => kk, fun z => absurd (by decide) z⟩
    | succ d ih =>
      intro hd kk
      refine hX _ _ ⟨fun z => absurd z (nI_pos (n := d) (by omega)), fun _ => ?_⟩
      show vp_in (nI d) 5 ∧ vp_in (nI d + (1 : Int32)) 5 ∧ _
      refine ⟨vp_in_nI (by omega) (by omega), by rw [nI_1]; exact vp_in_nI (by omega) (by omega), ?_⟩
      show ((M 23 (nI d + (1 : Int32)).toNatClampNeg) ≤ (M 23 (nI d).toNatClampNeg) → _) ∧ (¬ (M 23 (nI d + (1 : Int32)).toNatClampNeg) ≤ (M 23 (nI d).toNatClampNeg) → _)
      rw [nI_1, nI_clamp (by omega), nI_clamp (by omega), hl d (by omega), hl (d + 1) hd]
      unfold lr at kk
      have b1 := lv d
      have b2 := lv (d + 1)
      refine ⟨fun c => ?_, fun c => ?_⟩
      · rw [if_pos ((le_nI (by omega) (by omega)).mp c)] at kk
        intro y ey
        have : y = rI d := by
          rw [ey]
          cases d with
          | zero => decide
          | succ d => exact pk_m1 d
        rw [this]
        exact ih (by omega) kk
      · rw [if_neg (fun z => c ((le_nI (by omega) (by omega)).mpr z))] at kk
        exact kk
  rw [e] at ex
  rcases Nat.eq_zero_or_pos m with h0 | h0
  · subst h0
    rw [ex]
    exact hX _ _ ⟨fun _ => k, fun z => absurd (by decide) z⟩
  · have : x = rI (m - 1) := by
      rw [ex]
      rcases (show m = 1 ∨ m = 2 ∨ m = 3 ∨ m = 4 ∨ m = 5 by omega) with rfl | rfl | rfl | rfl | rfl <;> decide
    rw [this]
    exact key (m - 1) (by omega) k
theorem C_lastAbove {m i : Nat} {l : List Nat} (hm : m ≤ 5) (hi : i < m) (lv : ∀ j, gt l j < 5) {M : Mem} {R : Int32 → Mem → Prop} (e : M 22 1 = nI m) (hl : RW 23 m l M) (k : R (nI (la l i (m - 1))) M) : wp_Orders_lastAbove (nI i) M R := by
  intro X hX x ex
  have key : ∀ d, d < m → i ≤ d → R (nI (la l i d)) M → X (nI i) (nI d) M := by
    intro d
    induction d with
    | zero =>
      intro _ hd kk
      have : i = 0 := by omega
      subst this
      exact hX _ _ _ ⟨fun _ => kk, fun z => absurd (Int32.le_refl _) z⟩
    | succ d ih =>
      intro hd hid kk
      unfold la at kk
      refine hX _ _ _ ⟨fun z => ?_, fun z => ?_⟩
      · rw [if_pos ((le_nI (by omega) (by omega)).mp z)] at kk
        exact kk
      · have z' : ¬ d + 1 ≤ i := fun q => z ((le_nI (by omega) (by omega)).mpr q)
        rw [if_neg z'] at kk
        refine ⟨vp_in_nI (by omega) (by omega), vp_in_nI (by omega) (by omega), ?_⟩
        rw [nI_clamp (by omega), nI_clamp (by omega), hl i hi, hl (d + 1) hd]
        have b1 := lv i
        have b2 := lv (d + 1)
        refine ⟨fun c => ?_, fun c => ?_⟩
        · rw [if_pos ((le_nI (by omega) (by omega)).mp c)] at kk
          intro y ey
          rw [ey, pk_m1]
          exact ih (by omega) (by omega) kk
        · rw [if_neg (fun q => c ((le_nI (by omega) (by omega)).mpr q))] at kk
          exact kk
  rw [e] at ex
  have : x = nI (m - 1) := by rw [ex]; exact pk_sub (b := 1) (by omega)
  rw [this]
  exact key (m - 1) (by omega) (by omega) k
theorem C_next {m : Nat} {l : List Nat} (hm : m ≤ 5) (hn : l.length = m) (lv : ∀ j, gt l j < 5) {M : Mem} {R : Mem → Prop} (e : M 22 1 = nI m) (hl : RW 23 m l M) (k : ∀ M', XF 23 M M' → RW 23 m (nx m l) M' → R M') : wp_Orders_next M R := by
  intro X hX
  have key : ∀ (f : Nat) (t : List Nat) (a b : Nat) (M1 : Mem), t.length = m → b < m → a < 100 → b ≤ a + f → XF 23 M M1 → RW 23 m t M1 → nx m l = rv f t a b → X (nI b) (nI a) M1 := by
    intro f
    induction f with
    | zero =>
      intro t a b M1 ht hb ha hab fr hr en
      refine hX _ _ _ ⟨fun _ => k M1 fr (by rw [en]; exact hr), fun z => absurd (nI_le (by omega) (by omega)) z⟩
    | succ f ih =>
      intro t a b M1 ht hb ha hab fr hr en
      unfold rv at en
      by_cases c : b ≤ a
      · rw [if_pos c] at en
        by_cases ca : a < 2 ^ 31
        · exact hX _ _ _ ⟨fun _ => k M1 fr (by rw [en]; exact hr), fun z => absurd (nI_le c ca) z⟩
        · omega
      · rw [if_neg c] at en
        refine hX _ _ _ ⟨fun z => absurd z (nI_ge (by omega) (by omega)), fun _ => C_swap hm (by omega) hb ?_⟩
        intro y ey w ew
        rw [ey, ew, nI_1, show b = (b - 1) + 1 by omega, pk_m1, show (b - 1) + 1 = b by omega]
        exact ih _ _ _ _ (by rw [sw_len]; exact ht) (by omega) (by omega) (by omega) (fr.tr XF.sw) (hr.sw ht (by omega) hb) en
  refine C_lastRise hm lv e hl ?_
  have hle := lr_le l (m - 1)
  cases er : lr l (m - 1) with
  | zero =>
    refine ⟨fun z => absurd z (by decide), fun _ => k M XF.rf ?_⟩
    unfold nx
    rw [er]
    exact hl
  | succ r =>
    rw [er] at hle
    have hla := la_lt l r (m - 1) (by omega)
    refine ⟨fun _ => ?_, fun z => absurd (nI_pos' (n := r) (by omega)) z⟩
    refine C_lastAbove hm (by omega) lv e hl (C_swap hm (by omega) (by omega) ?_)
    intro y ey w ew
    rw [ew]
    have : y = nI (m - 1) := by
      rw [ey, XF.sw 22 (by decide), e]
      exact pk_sub (b := 1) (by omega)
    rw [this]
    show X _ (nI r + 1) _
    rw [nI_1]
    refine key 5 _ _ _ _ (by rw [sw_len]; exact hn) (by omega) (by omega) (by omega) XF.sw (hl.sw hn (by omega) (by omega)) ?_
    unfold nx
    rw [er]
