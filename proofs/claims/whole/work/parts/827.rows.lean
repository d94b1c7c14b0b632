theorem gt_range {m j : Nat} (h : j < m) : gt (List.range m) j = j := by
  show (List.range m).getD j 0 = j
  rw [List.getD_eq_getElem?_getD, List.getElem?_range h]
  rfl
theorem C_rows {m : Nat} (hm : m ≤ 5) {M : Mem} {R : Int32 → Mem → Prop} (k : ∀ M', (∀ q, q ≠ 22 → q ≠ 23 → M' q = M q) → M' 22 1 = nI m → RW 23 m (List.range m) M' → R (nI (fc m)) M') : wp_Orders_begin (nI m) M R := by
  intro X hX M6 e6
  have key : ∀ (d j : Nat), j + d = m → ∀ M1 : Mem, (∀ q, q ≠ 22 → q ≠ 23 → M1 q = M q) → M1 22 1 = nI m → (∀ i, i < j → M1 23 i = nI i) → X (nI (fc j)) (nI j) M1 := by
    intro d
    induction d with
    | zero =>
      intro j hj M1 fr e1 hr
      have : j = m := by omega
      subst this
      refine hX _ _ _ ⟨fun _ => k M1 fr e1 (fun i hi => by rw [hr i hi, gt_range hi]), fun z => absurd (by rw [e1]; exact Int32.le_refl _) z⟩
    | succ d ih =>
      intro j hj M1 fr e1 hr
      refine hX _ _ _ ⟨fun z => absurd z (by rw [e1]; exact nI_ge (by omega) (by omega)), fun _ => ⟨vp_in_nI (by omega) (by omega), ?_⟩⟩
      intro M3 e3 y ey w ew
      rw [nI_1, pk_mul] at ey
      rw [nI_clamp (by omega)] at e3
      rw [ey, ew, nI_1]
      refine ih (j + 1) (by omega) M3 (fun q h1 h2 => by rw [e3, ms_n h2]; exact fr q h1 h2) (by rw [e3, ms_n (by decide)]; exact e1) ?_
      intro i hi
      rw [e3, ms_s]
      by_cases c : i = j
      · rw [c, up_s]
      · rw [up_n c]
        exact hr i (by omega)
  refine key m 0 (by omega) M6 (fun q h1 _ => by rw [e6, ms_n h1]) (by rw [e6, ms_s, up_s]) (fun i hi => absurd hi (by omega))
theorem D_rows {m : Nat} (hm : m ≤ 5) {M : Mem} {R : Mem → Prop} (e6 : M 29 6 = nI m) (k : ∀ M', XF 42 M M' → RW 42 m (List.range m) M' → R M') : wp_Model_beginRows M R := by
  intro X hX
  have key : ∀ (d j : Nat), j + d = m → ∀ M1 : Mem, XF 42 M M1 → (∀ i, i < j → M1 42 i = nI i) → X (nI j) M1 := by
    intro d
    induction d with
    | zero =>
      intro j hj M1 fr hr
      have : j = m := by omega
      subst this
      refine hX _ _ ⟨fun _ => k M1 fr (fun i hi => by rw [hr i hi, gt_range hi]), fun z => absurd (by rw [fr 29 (by decide), e6]; exact Int32.le_refl _) z⟩
    | succ d ih =>
      intro j hj M1 fr hr
      refine hX _ _ ⟨fun z => absurd z (by rw [fr 29 (by decide), e6]; exact nI_ge (by omega) (by omega)), fun _ => ⟨vp_in_nI (by omega) (by omega), ?_⟩⟩
      intro M3 e3 w ew
      rw [nI_clamp (by omega)] at e3
      rw [ew, nI_1]
      refine ih (j + 1) (by omega) M3 (fun q h1 => by rw [e3, ms_n h1]; exact fr q h1) ?_
      intro i hi
      rw [e3, ms_s]
      by_cases c : i = j
      · rw [c, up_s]
      · rw [up_n c]
        exact hr i (by omega)
  exact key m 0 (by omega) M XF.rf (fun i hi => absurd hi (by omega))
theorem ok_mem {m : Nat} {l : List Nat} (h : okRow m l = true) {x : Nat} (hx : x ∈ l) : x < m := by
  obtain ⟨i, hi⟩ := List.mem_iff_getElem?.mp hx
  have hl : i < l.length := by
    rcases Nat.lt_or_ge i l.length with c | c
    · exact c
    · rw [List.getElem?_eq_none c] at hi
      cases hi
  rw [gt_some hl] at hi
  have e : gt l i = x := Option.some.inj hi
  rw [← e]
  exact (ok_at h (by rw [← ok_len h]; exact hl)).1
def rsL (D : Mem) (n m : Nat) (l : List Nat) : Nat → Int32 := (cn D n m l).2
theorem rsL_out {D : Mem} {n m : Nat} {l : List Nat} (h : okRow m l = true) : ∀ g, ¬ g < m → rsL D n m l g = -9 := fun _ hg => cn_no (fun z => hg (ok_mem h z))
theorem C_inOrder {n m : Nat} {l : List Nat} (hn : n ≤ 6) (hm : m ≤ 5) (ok : okRow m l = true) {M : Mem} {R : Int32 → Mem → Prop} (e5 : M 12 5 = nI n) (e6 : M 12 6 = nI m) (e22 : M 22 1 = nI m) (hl : RW 23 m l M) (k : ∀ M', CF M M' → R (nI (mk (fun x => decide (x < m) && b9 (rsL (dC M) n m l x)))) M') : wp_Search_goInOrder M R := by
  intro X hX
  have len := ok_len ok
  refine C_begin (fun M1 f1 f2 f3 f4 _ _ => ?_)
  have key : ∀ (d i : Nat), i + d = m → ∀ M2 : Mem, CF M M2 → CR (dC M) n m (l.take i) M2 → X (nI i) M2 := by
    intro d
    induction d with
    | zero =>
      intro i hi M2 fr hr
      have : i = m := by omega
      subst this
      refine hX _ _ ⟨fun _ => ?_, fun z => absurd (by rw [fr 22 (by decide) (by decide) (by decide), e22]; exact Int32.le_refl _) z⟩
      rw [← len, List.take_length] at hr
      obtain ⟨r1, r2, r3⟩ := hr
      rw [r3]
      have := k M2 fr
      rw [mk_cong (q := fun x => decide (x < l.length) && b9 ((cn (dC M) n l.length l).2 x)) (fun x hx => by rw [ok_con ok hx, len]), len]
      exact this
    | succ d ih =>
      intro i hi M2 fr hr
      refine hX _ _ ⟨fun z => absurd z (by rw [fr 22 (by decide) (by decide) (by decide), e22]; exact nI_ge (by omega) (by omega)), fun _ => ⟨vp_in_nI (by omega) (by omega), ?_⟩⟩
      have eD := fr.dC
      obtain ⟨o1, o2⟩ := ok_at ok (i := i) (by omega)
      rw [nI_clamp (by omega), fr 23 (by decide) (by decide) (by decide), hl i (by omega)]
      refine C_step (L := l.take i) (n := n) (m := m) (by omega) o2 hn hm (by rw [fr 12 (by decide) (by decide) (by decide)]; exact e5) (by rw [fr 12 (by decide) (by decide) (by decide)]; exact e6) (by rw [eD]; exact hr) (fun M3 fr3 hr3 => ?_)
      rw [eD, ← take_gt (by omega)] at hr3
      intro y ey
      rw [ey, nI_1]
      exact ih (i + 1) (by omega) M3 (fr.tr fr3) hr3
  exact key m 0 (by omega) M1 f1 (CR_nil hn f2 f3 f4)
theorem D_goRow {n m : Nat} {l : List Nat} (hn : n ≤ 6) (hm : m ≤ 5) (okl : okRow m l = true) {M : Mem} {R : Mem → Prop} (e5 : M 29 5 = nI n) (e6 : M 29 6 = nI m) (ok : okD (dM M) n m) (hl : RW 42 m l M) (k : ∀ M', MF M M' → (∀ g, g < m → M' 40 g = rsL (dM M) n m l g) → M' 29 18 = nI (mk (fun x => !(b9 (rsL (dM M) n m l x)))) → R M') : wp_Model_goRow M R := by
  intro X hX
  have len := ok_len okl
  refine D_begin hn hm e5 e6 (fun M1 f1 f2 f3 f4 => ?_)
  have key : ∀ (d i : Nat), i + d = m → ∀ M2 : Mem, MF M M2 → MR (dM M) n m (l.take i) M2 → X (nI i) M2 := by
    intro d
    induction d with
    | zero =>
      intro i hi M2 fr hr
      have : i = m := by omega
      subst this
      rw [show l.take i = l by rw [← len, List.take_length]] at hr
      obtain ⟨r1, r2, r3⟩ := hr
      exact hX _ _ ⟨fun _ => k M2 fr r2 r3, fun z => absurd (by rw [fr.2 6 (by decide), e6]; exact Int32.le_refl _) z⟩
    | succ d ih =>
      intro i hi M2 fr hr
      obtain ⟨o1, o2⟩ := ok_at okl (i := i) (by omega)
      have eb : (1 : Int32) <<< (nI (gt l i) &&& (31 : Int32)) = nI (2 ^ (gt l i)) := bit_pow (gt l i) (by omega)
      refine hX _ _ ⟨fun z => absurd z (by rw [fr.2 6 (by decide), e6]; exact nI_ge (by omega) (by omega)), fun _ => ⟨vp_in_nI (by omega) (by omega), ?_⟩⟩
      have eD := fr.dM
      rw [nI_clamp (by omega), fr.1 42 (by decide) (by decide) (by decide), hl i (by omega), eb]
      refine D_step (L := l.take i) (n := n) (m := m) o1 o2 hn hm (by rw [fr.2 5 (by decide)]; exact e5) (by rw [fr.2 6 (by decide)]; exact e6) (by rw [eD]; exact ok) (by rw [eD]; exact hr) (fun M3 fr3 hr3 => ?_)
      rw [eD, ← take_gt (by omega)] at hr3
      intro y ey
      rw [ey, nI_1]
      exact ih (i + 1) (by omega) M3 (fr.tr fr3) hr3
  exact key m 0 (by omega) M1 f1 (MR_nil f2 f3 f4)
