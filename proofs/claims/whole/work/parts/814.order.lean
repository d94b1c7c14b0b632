def b9 (x : Int32) : Bool := decide (x = -9)
def mk (p : Nat → Bool) : Nat := (if p 0 then 1 else 0) + (if p 1 then 2 else 0) + (if p 2 then 4 else 0) + (if p 3 then 8 else 0) + (if p 4 then 16 else 0)
def mk5 (a b c d e : Bool) : Nat := (if a then 1 else 0) + (if b then 2 else 0) + (if c then 4 else 0) + (if d then 8 else 0) + (if e then 16 else 0)
theorem mk_eq (p : Nat → Bool) : mk p = mk5 (p 0) (p 1) (p 2) (p 3) (p 4) := rfl
theorem mk_cong {p q : Nat → Bool} (h : ∀ x, x < 5 → p x = q x) : mk p = mk q := by
  rw [mk_eq, mk_eq, h 0 (by decide), h 1 (by decide), h 2 (by decide), h 3 (by decide), h 4 (by decide)]
theorem mk5_lt : ∀ a b c d e : Bool, mk5 a b c d e < 32 := by decide
theorem mk_lt (p : Nat → Bool) : mk p < 32 := mk5_lt _ _ _ _ _
theorem mk5_or : ∀ a b c d e : Bool, ∀ g, g < 5 → mk5 a b c d e ||| 2 ^ g = mk5 (0 == g || a) (1 == g || b) (2 == g || c) (3 == g || d) (4 == g || e) := by decide +kernel
theorem mk_or (p : Nat → Bool) {g : Nat} (hg : g < 5) : mk p ||| 2 ^ g = mk (fun x => x == g || p x) := mk5_or _ _ _ _ _ g hg
theorem mk5_dis : ∀ a b c d e : Bool, (a = false → 1 &&& mk5 a b c d e = 0) ∧ (b = false → 2 &&& mk5 a b c d e = 0) ∧ (c = false → 4 &&& mk5 a b c d e = 0) ∧ (d = false → 8 &&& mk5 a b c d e = 0) ∧ (e = false → 16 &&& mk5 a b c d e = 0) := by decide +kernel
theorem mk_dis (p : Nat → Bool) {g : Nat} (hg : g < 5) (h : p g = false) : 2 ^ g &&& mk p = 0 := by
  obtain ⟨h0, h1, h2, h3, h4⟩ := mk5_dis (p 0) (p 1) (p 2) (p 3) (p 4)
  rcases (show g = 0 ∨ g = 1 ∨ g = 2 ∨ g = 3 ∨ g = 4 by omega) with rfl | rfl | rfl | rfl | rfl
  · exact h0 h
  · exact h1 h
  · exact h2 h
  · exact h3 h
  · exact h4 h
/-- one goes: what hosts know, who is lost where -/
def cnS (D : Mem) (n m : Nat) (s : (Nat → Int32) × (Nat → Int32)) (g : Nat) : (Nat → Int32) × (Nat → Int32) := ((wk D (grD D (2 ^ g) m) n 0 s.1).2, upd s.2 g (wk D (grD D (2 ^ g) m) n 0 s.1).1)
def cn (D : Mem) (n m : Nat) (L : List Nat) : (Nat → Int32) × (Nat → Int32) := L.foldl (cnS D n m) (fun _ => 0, fun _ => -9)
theorem cn_app (D : Mem) (n m : Nat) (L : List Nat) (g : Nat) : cn D n m (L ++ [g]) = cnS D n m (cn D n m L) g := by
  unfold cn
  rw [List.foldl_append]
  rfl
theorem cn_out {D : Mem} {n m : Nat} : ∀ (L : List Nat) (s : (Nat → Int32) × (Nat → Int32)) (g : Nat), g ∉ L → (L.foldl (cnS D n m) s).2 g = s.2 g := by
  intro L
  induction L with
  | nil => intro s g _; rfl
  | cons x L ih =>
    intro s g hg
    rw [List.foldl_cons, ih _ _ (fun h => hg (List.mem_cons_of_mem _ h))]
    show upd s.2 x _ g = s.2 g
    exact up_n (fun h => hg (h ▸ List.mem_cons_self))
theorem cn_no {D : Mem} {n m : Nat} {L : List Nat} {g : Nat} (hg : g ∉ L) : (cn D n m L).2 g = -9 := cn_out L _ g hg
def CR (D : Mem) (n m : Nat) (L : List Nat) (M : Mem) : Prop := (∀ h, h < n → M 19 h = (cn D n m L).1 h) ∧ (∀ g, g < 5 → M 20 g = (cn D n m L).2 g) ∧ M 18 3 = nI (mk (fun x => L.contains x && b9 ((cn D n m L).2 x)))
def MR (D : Mem) (n m : Nat) (L : List Nat) (M : Mem) : Prop := (∀ h, h < n → M 41 h = (cn D n m L).1 h) ∧ (∀ g, g < m → M 40 g = (cn D n m L).2 g) ∧ M 29 18 = nI (mk (fun x => !(b9 ((cn D n m L).2 x))))
theorem inP_pow : ∀ g, g < 5 → ∀ x, x < 5 → (inP (2 ^ g) x = true ↔ x = g) := by decide +kernel
theorem C_step {n m g : Nat} {L : List Nat} (hg : g < 5) (hL : g ∉ L) (hn : n ≤ 6) (hm : m ≤ 5) {M : Mem} {R : Mem → Prop} (e5 : M 12 5 = nI n) (e6 : M 12 6 = nI m) (hr : CR (dC M) n m L M) (k : ∀ M', CF M M' → CR (dC M) n m (L ++ [g]) M' → R M') : wp_Walk_goAlone (nI g) M R := by
  obtain ⟨r1, r2, r3⟩ := hr
  obtain ⟨w1, w2⟩ := wk_cong (D := dC M) (n := n) (set := grD (dC M) (2 ^ g) m) n 0 (M 19) (cn (dC M) n m L).1 (by omega) r1
  refine C_goAlone hg hn hm e5 e6 (fun M' f1 f2 f3 f4 f5 => k M' f1 ?_)
  unfold CR
  rw [cn_app]
  refine ⟨?_, ?_, ?_⟩
  · intro h hh
    rw [f3, w2 h hh]
    rfl
  · intro x hx
    rw [f4, w1]
    show upd (M 20) g _ x = upd (cn (dC M) n m L).2 g _ x
    by_cases c : x = g
    · rw [c, up_s, up_s]
    · rw [up_n c, up_n c]
      exact r2 x hx
  · rw [f5, w1, r3]
    generalize hw : (wk (dC M) (grD (dC M) (2 ^ g) m) n 0 (cn (dC M) n m L).1).1 = w
    have es : (cnS (dC M) n m (cn (dC M) n m L) g).2 = upd (cn (dC M) n m L).2 g w := by
      show upd _ g _ = _
      rw [hw]
    rw [es]
    by_cases c : w = -9
    · rw [if_pos c, fa_or, mk_or _ hg]
      congr 1
      apply mk_cong
      intro x hx
      by_cases cx : x = g
      · subst cx
        simp [up_s, c, b9]
      · rw [up_n cx]
        simp [cx]
    · rw [if_neg c]
      congr 1
      apply mk_cong
      intro x hx
      by_cases cx : x = g
      · subst cx
        rw [up_s]
        simp [hL, b9, c]
      · rw [up_n cx]
        simp [cx]
theorem D_step {n m g : Nat} {L : List Nat} (hg : g < m) (hL : g ∉ L) (hn : n ≤ 6) (hm : m ≤ 5) {M : Mem} {R : Mem → Prop} (e5 : M 29 5 = nI n) (e6 : M 29 6 = nI m) (ok : okD (dM M) n m) (hr : MR (dM M) n m L M) (k : ∀ M', MF M M' → MR (dM M) n m (L ++ [g]) M' → R M') : wp_Model_goThrough (nI (2 ^ g)) M R := by
  obtain ⟨r1, r2, r3⟩ := hr
  obtain ⟨w1, w2⟩ := wk_cong (D := dM M) (n := n) (set := grD (dM M) (2 ^ g) m) n 0 (M 41) (cn (dM M) n m L).1 (by omega) r1
  have hp : 2 ^ g < 32 := Nat.pow_lt_pow_right (n := 5) (a := 2) (by omega) (by omega)
  have hdis := mk_dis (fun x => !(b9 ((cn (dM M) n m L).2 x))) (g := g) (by omega) (by simp [cn_no hL, b9])
  refine D_goThrough hp (mk_lt _) hdis (Nat.ne_of_gt (Nat.two_pow_pos g)) hn hm e5 e6 r3 ok (fun M' f1 f2 f3 f4 => k M' f1 ?_)
  unfold MR
  rw [cn_app]
  rw [w1] at f3 f4
  generalize hw : (wk (dM M) (grD (dM M) (2 ^ g) m) n 0 (cn (dM M) n m L).1).1 = w at *
  have es : (cnS (dM M) n m (cn (dM M) n m L) g).2 = upd (cn (dM M) n m L).2 g w := by
    show upd _ g _ = _
    rw [hw]
  refine ⟨?_, ?_, ?_⟩
  · intro h hh
    rw [f2, w2 h hh]
    rfl
  · intro x hx
    rw [es, f4]
    by_cases c : w = -9
    · rw [if_pos c]
      by_cases cx : x = g
      · rw [cx, up_s, c, r2 g hg, cn_no hL]
      · rw [up_n cx]
        exact r2 x hx
    · rw [if_neg c]
      unfold lsR
      by_cases cx : x = g
      · rw [cx, up_s, if_pos ⟨hg, (inP_pow g (by omega) g (by omega)).mpr rfl⟩]
      · rw [up_n cx, if_neg (fun z => cx ((inP_pow g (by omega) x (by omega)).mp z.2))]
        exact r2 x hx
  · rw [es, f3]
    by_cases c : w = -9
    · rw [if_pos c]
      congr 1
      apply mk_cong
      intro x hx
      by_cases cx : x = g
      · subst cx
        rw [up_s]
        simp [cn_no hL, c]
      · rw [up_n cx]
    · rw [if_neg c, mk_or _ (by omega)]
      congr 1
      apply mk_cong
      intro x hx
      by_cases cx : x = g
      · subst cx
        rw [up_s]
        simp [b9, c]
      · rw [up_n cx]
        simp [cx]
theorem CR_nil {D : Mem} {n m : Nat} {M : Mem} (hn : n ≤ 6) (h1 : ∀ h, h < 6 → M 19 h = 0) (h2 : ∀ g, g < 5 → M 20 g = -9) (h3 : M 18 3 = 0) : CR D n m [] M := ⟨fun h hh => h1 h (by omega), h2, h3⟩
theorem MR_nil {D : Mem} {n m : Nat} {M : Mem} (h1 : ∀ h, h < n → M 41 h = 0) (h2 : ∀ g, g < m → M 40 g = -9) (h3 : M 29 18 = 0) : MR D n m [] M := ⟨h1, h2, h3⟩
theorem contains_range {m : Nat} (x : Nat) : (List.range m).contains x = decide (x < m) := by simp
/-- how many come through, of all who are lost as told by f -/
def cnt (m : Nat) (f : Nat → Int32) : Nat := pc (mk (fun x => decide (x < m) && b9 (f x)))
theorem cnt5 : ∀ m, m < 6 → ∀ a b c d e : Bool, (!((decide (0 < m) || a) && (decide (1 < m) || b) && (decide (2 < m) || c) && (decide (3 < m) || d) && (decide (4 < m) || e)) || (decide (m - pc (mk5 (!a) (!b) (!c) (!d) (!e)) = pc (mk5 (decide (0 < m) && a) (decide (1 < m) && b) (decide (2 < m) && c) (decide (3 < m) && d) (decide (4 < m) && e))) && decide (pc (mk5 (!a) (!b) (!c) (!d) (!e)) ≤ m))) = true := by decide +kernel
theorem cnt_lost {m : Nat} (hm : m ≤ 5) {f : Nat → Int32} (h : ∀ g, ¬ g < m → f g = -9) : m - pc (mk (fun x => !(b9 (f x)))) = cnt m f ∧ pc (mk (fun x => !(b9 (f x)))) ≤ m := by
  have key : ∀ g, (decide (g < m) || b9 (f g)) = true := by
    intro g
    by_cases c : g < m
    · simp [c]
    · simp [b9, h g c]
  have q := cnt5 m (by omega) (b9 (f 0)) (b9 (f 1)) (b9 (f 2)) (b9 (f 3)) (b9 (f 4))
  rw [key 0, key 1, key 2, key 3, key 4] at q
  simp only [Bool.and_self, Bool.not_true, Bool.false_or, Bool.and_eq_true, decide_eq_true_eq] at q
  exact q
theorem cnt_le {m : Nat} (hm : m ≤ 5) {f : Nat → Int32} : cnt m f ≤ 5 := by
  have : ∀ a b c d e : Bool, pc (mk5 a b c d e) ≤ 5 := by decide +kernel
  exact this _ _ _ _ _
theorem D_through {m : Nat} (hm : m ≤ 5) {f : Nat → Int32} (h : ∀ g, ¬ g < m → f g = -9) {M : Mem} {R : Int32 → Mem → Prop} (e6 : M 29 6 = nI m) (e18 : M 29 18 = nI (mk (fun x => !(b9 (f x))))) (k : R (nI (cnt m f)) M) : wp_Model_throughNow M R := by
  obtain ⟨h1, h2⟩ := cnt_lost hm h
  unfold wp_Model_throughNow
  rw [e18]
  refine D_size (Nat.lt_trans (mk_lt _) (by decide)) ?_
  rw [e6, pk_sub h2, h1]
  exact k
/-- all go by numbers -/
def resN (D : Mem) (n m : Nat) : Nat → Int32 := (cn D n m (List.range m)).2
theorem resN_out {D : Mem} {n m g : Nat} (h : ¬ g < m) : resN D n m g = -9 := cn_no (by simp; omega)
theorem C_byNumbers {n m : Nat} (hn : n ≤ 6) (hm : m ≤ 5) {M : Mem} {R : Int32 → Mem → Prop} (e5 : M 12 5 = nI n) (e6 : M 12 6 = nI m) (k : ∀ M', CF M M' → (∀ g, g < 5 → M' 20 g = resN (dC M) n m g) → R (nI (cnt m (resN (dC M) n m))) M') : wp_Walk_goByNumbers M R := by
  intro X hX
  refine C_begin (fun M1 f1 f2 f3 f4 _ _ => ?_)
  have key : ∀ (d g : Nat), g + d = m → ∀ M2 : Mem, CF M M2 → CR (dC M) n m (List.range g) M2 → X (nI g) M2 := by
    intro d
    induction d with
    | zero =>
      intro g hg M2 fr hr
      have : g = m := by omega
      subst this
      refine hX _ _ ⟨fun _ => ?_, fun z => absurd (by rw [fr 12 (by decide) (by decide) (by decide), e6]; exact Int32.le_refl _) z⟩
      obtain ⟨r1, r2, r3⟩ := hr
      rw [r3]
      refine C_bitCount (Nat.lt_trans (mk_lt _) (by decide)) ?_
      have := k M2 fr r2
      unfold cnt at this
      simp only [contains_range]
      exact this
    | succ d ih =>
      intro g hg M2 fr hr
      refine hX _ _ ⟨fun z => absurd z (by rw [fr 12 (by decide) (by decide) (by decide), e6]; exact nI_ge (by omega) (by omega)), fun _ => ?_⟩
      have eD := fr.dC
      refine C_step (L := List.range g) (n := n) (m := m) (by omega) (by simp) hn hm (by rw [fr 12 (by decide) (by decide) (by decide)]; exact e5) (by rw [fr 12 (by decide) (by decide) (by decide)]; exact e6) (by rw [eD]; exact hr) (fun M3 fr3 hr3 => ?_)
      rw [eD] at hr3
      intro y ey
      rw [ey, nI_1]
      refine ih (g + 1) (by omega) M3 (fr.tr fr3) ?_
      rw [List.range_succ]
      exact hr3
  exact key m 0 (by omega) M1 f1 (CR_nil hn f2 f3 f4)
theorem D_goAll {n m : Nat} (hn : n ≤ 6) (hm : m ≤ 5) {M : Mem} {R : Mem → Prop} (e5 : M 29 5 = nI n) (e6 : M 29 6 = nI m) (ok : okD (dM M) n m) (k : ∀ M', MF M M' → (∀ g, g < m → M' 40 g = resN (dM M) n m g) → M' 29 18 = nI (mk (fun x => !(b9 (resN (dM M) n m x)))) → R M') : wp_Model_goAll M R := by
  intro X hX
  refine D_begin hn hm e5 e6 (fun M1 f1 f2 f3 f4 => ?_)
  have key : ∀ (d g : Nat), g + d = m → ∀ M2 : Mem, MF M M2 → MR (dM M) n m (List.range g) M2 → X (nI g) M2 := by
    intro d
    induction d with
    | zero =>
      intro g hg M2 fr hr
      have : g = m := by omega
      subst this
      obtain ⟨r1, r2, r3⟩ := hr
      exact hX _ _ ⟨fun _ => k M2 fr r2 r3, fun z => absurd (by rw [fr.2 6 (by decide), e6]; exact Int32.le_refl _) z⟩
    | succ d ih =>
      intro g hg M2 fr hr
      have eb : (1 : Int32) <<< (nI g &&& (31 : Int32)) = nI (2 ^ g) := bit_pow g (by omega)
      refine hX _ _ ⟨fun z => absurd z (by rw [fr.2 6 (by decide), e6]; exact nI_ge (by omega) (by omega)), fun _ => ?_⟩
      have eD := fr.dM
      rw [eb]
      refine D_step (L := List.range g) (n := n) (m := m) (by omega) (by simp) hn hm (by rw [fr.2 5 (by decide)]; exact e5) (by rw [fr.2 6 (by decide)]; exact e6) (by rw [eD]; exact ok) (by rw [eD]; exact hr) (fun M3 fr3 hr3 => ?_)
      rw [eD] at hr3
      intro y ey
      rw [ey, nI_1]
      refine ih (g + 1) (by omega) M3 (fr.tr fr3) ?_
      rw [List.range_succ]
      exact hr3
  exact key m 0 (by omega) M1 f1 (MR_nil f2 f3 f4)
