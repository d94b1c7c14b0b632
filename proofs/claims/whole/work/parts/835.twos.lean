theorem some_R : ∀ m, m < 6 → ((itR m (fc m) (List.range m)).filter (fun l => isMt l m 0)).isEmpty = false := by decide +kernel
theorem fold_pos {D : Mem} {n m : Nat} : ∀ (rows : List (List Nat)) (s : Nat × Nat × List Nat), 0 < s.1 ∨ rows.isEmpty = false → 0 < (rows.foldl (tst D n m) s).1 := by
  intro rows
  induction rows with
  | nil => intro s h; exact h.resolve_right (by decide)
  | cons l rows ih => intro s _; exact ih _ (Or.inl (tst_pos _ _ _ _ _))
theorem fo_same {D : Mem} {n m : Nat} (hm : m ≤ 5) (s : Nat × Nat × List Nat) : fo D n m (itR m (fc m) (List.range m)) s = fo D n m (rowsM m (m ^ m) 0) s := by
  unfold fo
  rw [same_R m (by omega)]
theorem fo_pos {D : Mem} {n m : Nat} (hm : m ≤ 5) (s : Nat × Nat × List Nat) : 0 < (fo D n m (itR m (fc m) (List.range m)) s).1 := fold_pos _ _ (Or.inr (some_R m (by omega)))
theorem bI_pos {b : Nat} (h : 0 < b) : bI (-1) b = bI (-9) b := by
  unfold bI
  rw [if_neg (by omega), if_neg (by omega)]
theorem st_twos : St_twos Inv := by
  intro a M h
  obtain ⟨⟨n, m, cc, hw, hr⟩, hf, hs⟩ := id h
  obtain ⟨h1, h2, h3, h4, h5, h6, h7, h8, h9, h10, h11, h12, h13, h14, h15, h16⟩ := id hw
  have body : (a = -1 ∨ ∃ z, z < m ∧ a = nI z) → wp_Main_twos_18 (fun r M1 => wp_Model_twos a M1 (fun r2 M2 => r = r2 ∧ Inv M2)) a M := by
    intro ha
    -- the model, behind its gate
    have gate : ∀ (M1 : Mem) (R : Int32 → Mem → Prop), M1 29 6 = nI m → (∀ X29 X59 X115, (∀ (x1 : Int32) (x2 : Int32) (x3 : Int32) (M : Mem), wp_Model_twos_29 X29 X59 X115 R x1 x2 x3 M → X29 x1 x2 x3 M) → (∀ (x1 : Int32) (x2 : Int32) (x3 : Int32) (x4 : Int32) (x5 : Int32) (M : Mem), wp_Model_twos_59 X29 X59 X115 R x1 x2 x3 x4 x5 M → X59 x1 x2 x3 x4 x5 M) → (∀ (x1 : Int32) (x2 : Int32) (x3 : Int32) (x4 : Int32) (x5 : Int32) (x8 : Int32) (M : Mem), wp_Model_twos_115 X29 X59 X115 R x1 x2 x3 x4 x5 x8 M → X115 x1 x2 x3 x4 x5 x8 M) → wp_Model_twos_15 X29 X59 X115 R a M1) → wp_Model_twos a M1 R := by
      intro M1 R e6 hh X29 X59 X115 q1 q2 q3
      have b := hh X29 X59 X115 q1 q2 q3
      refine ⟨fun _ => b, fun na => ?_⟩
      rcases ha with ha | ⟨z, hz, ha⟩
      · exact absurd ha na
      · subst ha
        exact ⟨fun e => absurd e (nI_pos (by omega)), fun _ => ⟨fun e => absurd e (by rw [e6]; exact nI_ge hz (by omega)), fun _ => ⟨fun _ => b, fun e => absurd e (by decide)⟩⟩⟩
    rcases Nat.eq_zero_or_pos n with h0 | h0
    · subst h0
      refine C_told0 h4 ⟨fun q => absurd rfl q, fun _ => ?_⟩
      refine gate M _ h7 (fun X29 X59 X115 q1 q2 q3 => ⟨fun e => absurd h5 e, fun _ => ⟨rfl, h⟩⟩)
    refine C_told1 h1 h0 h4 ⟨fun _ => ?_, fun q => absurd q (by decide)⟩
    refine C_twos h1 h2 h4 h6 (fun M1 fr g1 g2 => ?_)
    have hw1 := hw.se fr
    obtain ⟨-, -, -, -, k5, -, k7, -, k9, -⟩ := id hw1
    have eD1 : dM M1 = dC M := by rw [dM_eq hw1, fr.dC]
    have pos := fo_pos (D := dC M) (n := n) h2 (0, 0, [])
    have n0 : ¬ M1 29 5 = 0 := by rw [k5]; exact nI_ne0 h0 (by omega)
    have okm : okD (dM M1) n m := by rw [eD1]; exact okD_of hw
    have g3 := g2 pos
    rw [fo_same h2] at g1 g3 pos
    refine ⟨fun e0 => ?_, fun e0 => ?_⟩
    · rcases ha with ha | ⟨z, hz, ha⟩
      · exact absurd e0 (by rw [ha]; decide)
      subst ha
      have na : ¬ nI z = -1 := fun e => by
        have := nI_pos (n := z) (by omega)
        rw [e] at this
        exact this (by decide)
      refine ⟨vp_in_nI (by omega) (by omega), gate M1 _ k7 (fun X29 X59 X115 q1 q2 q3 => ?_)⟩
      refine D_twos15 h1 h2 q1 q2 q3 n0 k5 k7 okm (fun M2 fr2 r43 => ⟨fun _ => ⟨vp_in_nI (by omega) (by omega), ?_, (h.se fr).se fr2⟩, fun e => absurd e na⟩)
      rw [eD1] at r43
      rw [nI_clamp (by omega), g3 z hz, r43 pos z hz]
    · rcases ha with ha | ⟨z, hz, ha⟩
      · subst ha
        refine gate M1 _ k7 (fun X29 X59 X115 q1 q2 q3 => ?_)
        refine D_twos15 h1 h2 q1 q2 q3 n0 k5 k7 okm (fun M2 fr2 r43 => ⟨fun e => absurd rfl e, fun _ => ⟨?_, (h.se fr).se fr2⟩⟩)
        rw [eD1, g1]
        exact bI_pos pos
      · subst ha
        exact absurd (nI_pos' (n := z) (by omega)) e0
  unfold wp_Main_twos wp_Way_hasGuest
  refine ⟨fun ha => body (Or.inl ha), fun na => ?_⟩
  have fail : (a < 0 ∨ (¬ a < 0 ∧ nI m ≤ a)) → wp_Main_isBelow a (M 12 6) M (fun r9 M8 => ((¬ r9 = (0 : Int32) → (wp_Main_twos_18 (fun r M1 => wp_Model_twos a M1 (fun r2 M2 => r = r2 ∧ Inv M2)) a M8)) ∧ (r9 = (0 : Int32) → (wp_Model_twos a M8 (fun r2 M2 => (-1 : Int32) = r2 ∧ Inv M2))))) := by
    intro q
    rw [h6, e_isBelow_n q]
    refine ⟨fun z => absurd rfl z, fun _ => ?_⟩
    intro X29 X59 X115 q1 q2 q3
    refine ⟨fun e => absurd e na, fun _ => ?_⟩
    unfold wp_Model_isGuest
    rw [h7]
    rcases q with q | ⟨q, q2⟩
    · exact ⟨fun _ => ⟨fun z => absurd rfl z, fun _ => ⟨rfl, h⟩⟩, fun z => absurd q z⟩
    · exact ⟨fun z => absurd z q, fun _ => ⟨fun _ => ⟨fun z => absurd rfl z, fun _ => ⟨rfl, h⟩⟩, fun z => absurd q2 z⟩⟩
  rcases cl0 (N := nI m) (n := m) rfl (by omega) a with q | ⟨q, q2⟩ | ⟨z, hz, e, w1, w2, w3⟩
  · exact fail (Or.inl q)
  · exact fail (Or.inr ⟨q, q2⟩)
  · have b := body (Or.inr ⟨z, hz, e⟩)
    subst e
    rw [h6, e_isBelow_y (n := m) rfl hz (by omega)]
    exact ⟨fun _ => b, fun e => absurd e (by decide)⟩
