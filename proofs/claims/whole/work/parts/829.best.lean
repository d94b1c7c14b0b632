theorem D_copyRow {m : Nat} {l : List Nat} (hm : m ≤ 5) {X : Int32 → Int32 → Int32 → Mem → Prop} {P : Mem → Prop} {a x : Int32} {M : Mem} (e6 : M 29 6 = nI m) (hl : RW 42 m l M) (hX : ∀ (x4 : Int32) (M : Mem), (((M 29 6) ≤ x4 → P M) ∧ (¬ ((M 29 6) ≤ x4) → (vp_in x4 5 ∧ vp_in x4 5 ∧ ∀ M14 : Mem, M14 = mset M 43 x4.toNatClampNeg (M 42 x4.toNatClampNeg) → ∀ x4_15 : Int32, x4_15 = x4 + (1 : Int32) → X a x x4_15 M14))) → X a x x4 M) (k : ∀ M', XF 43 M M' → RW 43 m l M' → P M') : X a x 0 M := by
  have key : ∀ (d j : Nat), j + d = m → ∀ M1 : Mem, XF 43 M M1 → (∀ i, i < j → M1 43 i = nI (gt l i)) → X a x (nI j) M1 := by
    intro d
    induction d with
    | zero =>
      intro j hj M1 fr hr
      have : j = m := by omega
      subst this
      exact hX _ _ ⟨fun _ => k M1 fr hr, fun z => absurd (by rw [fr 29 (by decide), e6]; exact Int32.le_refl _) z⟩
    | succ d ih =>
      intro j hj M1 fr hr
      refine hX _ _ ⟨fun z => absurd z (by rw [fr 29 (by decide), e6]; exact nI_ge (by omega) (by omega)), fun _ => ⟨vp_in_nI (by omega) (by omega), vp_in_nI (by omega) (by omega), ?_⟩⟩
      intro M3 e3 w ew
      rw [nI_clamp (by omega)] at e3
      rw [ew, nI_1]
      refine ih (j + 1) (by omega) M3 (fun q h1 => by rw [e3, ms_n h1]; exact fr q h1) ?_
      intro i hi
      rw [e3, ms_s]
      by_cases c : i = j
      · rw [c, up_s, fr 42 (by decide)]
        exact hl j (by omega)
      · rw [up_n c]
        exact hr i (by omega)
  exact key m 0 (by omega) M XF.rf (fun i hi => absurd hi (by omega))
theorem D_best {n m : Nat} (hn : n ≤ 6) (hm : m ≤ 5) {a : Int32} {M : Mem} {R : Int32 → Mem → Prop} (h1 : (-1 : Int32) ≤ a) (h0 : ¬ M 29 5 = 0) (e5 : M 29 5 = nI n) (e6 : M 29 6 = nI m) (ok : okD (dM M) n m) (k : ∀ M', SE M M' → RW 43 m (bsF (dM M) n m (fc m) (List.range m) (0, [])).2 M' → (((¬ a = (-1 : Int32) → ((((M' 29 6) ≤ a → (R (-9 : Int32) M')) ∧ (¬ ((M' 29 6) ≤ a) → (vp_in a 5 ∧ R (M' 43 a.toNatClampNeg) M'))))) ∧ (a = (-1 : Int32) → R (nI ((bsF (dM M) n m (fc m) (List.range m) (0, [])).1 - 1)) M')))) : wp_Model_best a M R := by
  intro X Y hX hY
  refine ⟨fun _ => ⟨fun _ => ?_, fun z => absurd z h0⟩, fun z => absurd h1 z⟩
  generalize hB : bsF (dM M) n m (fc m) (List.range m) (0, []) = B at k
  have fin : ∀ (s : Nat × List Nat), 0 < s.1 → s = B → ∀ M1 : Mem, SE M M1 → RW 43 m s.2 M1 → X a (bI (-9) s.1) 0 M1 := by
    intro s hs e M1 fr hr
    subst e
    have := k M1 fr hr
    refine hX _ _ _ _ ⟨fun _ => ?_, fun z => absurd rfl z⟩
    unfold bI
    rw [if_neg (by omega)]
    exact this
  have key : ∀ (d : Nat) (l : List Nat) (s : Nat × List Nat), chain m d l = true → s.1 ≤ 6 → bsF (dM M) n m (d + 1) l s = B → ∀ M1 : Mem, SE M M1 → RW 42 m l M1 → (0 < s.1 → RW 43 m s.2 M1) → X a (bI (-9) s.1) 1 M1 := by
    intro d
    induction d with
    | zero =>
      intro l s hch hs6 hb M1 fr hr h43
      have okl := chain_ok hch
      have hcn := cnt_le hm (f := rsL (dM M) n m l)
      have eD := fr.dM
      have g6 : M1 29 6 = nI m := by rw [fr 29 6 rfl]; exact e6
      refine hX _ _ _ _ ⟨fun z => absurd z (by decide), fun _ => ?_⟩
      refine D_goRow hn hm okl (by rw [fr 29 5 rfl]; exact e5) g6 (by rw [eD]; exact ok) hr (fun M2 fr2 _ h18 => ?_)
      rw [eD] at h18
      have g62 : M2 29 6 = nI m := by rw [fr2.2 6 (by decide)]; exact g6
      have r42 : RW 42 m l M2 := fun j hj => by rw [fr2.1 42 (by decide) (by decide) (by decide)]; exact hr j hj
      refine D_through hm (rsL_out okl) g62 h18 ?_
      have nxt : ∀ M3 : Mem, SE M M3 → RW 42 m l M3 → RW 43 m (stp (dM M) n m l s).2 M3 → wp_Model_best_79 X Y R a (bI (-9) (stp (dM M) n m l s).1) M3 := by
        intro M3 fr3 r3 r43
        refine D_next hm (ok_len okl) (ok_lv hm okl) (ok_ld okl) (by rw [fr3 29 6 rfl]; exact e6) r3 (fun M4 fr4 r4 => ?_)
        rw [if_pos (chain_lr0 hch)]
        exact fin _ (stp_pos _ _ _ _ _) hb M4 (fr3.tr (fr4.se (fun _ => rfl))) (fun j hj => by rw [fr4 43 (by decide)]; exact r43 j hj)
      refine ⟨fun c => ?_, fun c => ?_⟩
      · have c' := (bI_le (Or.inr rfl) hs6 hcn).mp c
        have es : stp (dM M) n m l s = s := by unfold stp; rw [if_pos c']
        have := nxt M2 (fr.tr fr2.se) r42
        rw [es] at this
        exact this (fun j hj => by rw [fr2.1 43 (by decide) (by decide) (by decide)]; exact h43 (by omega) j hj)
      · have c' : ¬ cnt m (rsL (dM M) n m l) + 1 ≤ s.1 := fun z => c ((bI_le (Or.inr rfl) hs6 hcn).mpr z)
        have es : stp (dM M) n m l s = (cnt m (rsL (dM M) n m l) + 1, l) := by unfold stp; rw [if_neg c']
        refine D_through hm (rsL_out okl) g62 h18 ?_
        refine D_copyRow hm (P := wp_Model_best_79 X Y R a (nI (cnt m (rsL (dM M) n m l)))) g62 r42 (fun x4 M hh => hY _ _ _ _ hh) (fun M3 fr3 r43 => ?_)
        have := nxt M3 ((fr.tr fr2.se).tr (fr3.se (fun _ => rfl))) (fun j hj => by rw [fr3 42 (by decide)]; exact r42 j hj)
        rw [es] at this
        exact this r43
    | succ d ih =>
      intro l s hch hs6 hb M1 fr hr h43
      have okl := chain_ok hch
      have hcn := cnt_le hm (f := rsL (dM M) n m l)
      have eD := fr.dM
      have g6 : M1 29 6 = nI m := by rw [fr 29 6 rfl]; exact e6
      refine hX _ _ _ _ ⟨fun z => absurd z (by decide), fun _ => ?_⟩
      refine D_goRow hn hm okl (by rw [fr 29 5 rfl]; exact e5) g6 (by rw [eD]; exact ok) hr (fun M2 fr2 _ h18 => ?_)
      rw [eD] at h18
      have g62 : M2 29 6 = nI m := by rw [fr2.2 6 (by decide)]; exact g6
      have r42 : RW 42 m l M2 := fun j hj => by rw [fr2.1 42 (by decide) (by decide) (by decide)]; exact hr j hj
      refine D_through hm (rsL_out okl) g62 h18 ?_
      have nxt : ∀ M3 : Mem, SE M M3 → RW 42 m l M3 → RW 43 m (stp (dM M) n m l s).2 M3 → wp_Model_best_79 X Y R a (bI (-9) (stp (dM M) n m l s).1) M3 := by
        intro M3 fr3 r3 r43
        refine D_next hm (ok_len okl) (ok_lv hm okl) (ok_ld okl) (by rw [fr3 29 6 rfl]; exact e6) r3 (fun M4 fr4 r4 => ?_)
        obtain ⟨c1, c2⟩ := chain_lr1 hch
        rw [if_neg c1]
        exact ih (nx m l) _ c2 (stp_le hm hs6) hb M4 (fr3.tr (fr4.se (fun _ => rfl))) r4 (fun _ j hj => by rw [fr4 43 (by decide)]; exact r43 j hj)
      refine ⟨fun c => ?_, fun c => ?_⟩
      · have c' := (bI_le (Or.inr rfl) hs6 hcn).mp c
        have es : stp (dM M) n m l s = s := by unfold stp; rw [if_pos c']
        have := nxt M2 (fr.tr fr2.se) r42
        rw [es] at this
        exact this (fun j hj => by rw [fr2.1 43 (by decide) (by decide) (by decide)]; exact h43 (by omega) j hj)
      · have c' : ¬ cnt m (rsL (dM M) n m l) + 1 ≤ s.1 := fun z => c ((bI_le (Or.inr rfl) hs6 hcn).mpr z)
        have es : stp (dM M) n m l s = (cnt m (rsL (dM M) n m l) + 1, l) := by unfold stp; rw [if_neg c']
        refine D_through hm (rsL_out okl) g62 h18 ?_
        refine D_copyRow hm (P := wp_Model_best_79 X Y R a (nI (cnt m (rsL (dM M) n m l)))) g62 r42 (fun x4 M hh => hY _ _ _ _ hh) (fun M3 fr3 r43 => ?_)
        have := nxt M3 ((fr.tr fr2.se).tr (fr3.se (fun _ => rfl))) (fun j hj => by rw [fr3 42 (by decide)]; exact r42 j hj)
        rw [es] at this
        exact this r43
  refine D_rows hm e6 (fun M1 fr1 hr1 => ?_)
  refine key (fc m - 1) (List.range m) (0, []) (chain_all m (by omega)) (by decide) ?_ M1 (fr1.se (fun _ => rfl)) hr1 (fun z => absurd z (by decide))
  rw [show fc m - 1 + 1 = fc m by have := fc_pos m; omega]
  exact hB
theorem m1_cl {a : Int32} (h : a < 0) (h2 : (-1 : Int32) ≤ a) : a = -1 := by
  apply Int32.toInt_inj.mp
  have h' := Int32.lt_iff_toInt_lt.mp h
  have h2' := Int32.le_iff_toInt_le.mp h2
  have q1 : (-1 : Int32).toInt = -1 := by decide
  have q0 : (0 : Int32).toInt = 0 := by decide
  rw [q1] at h2' ⊢
  rw [q0] at h'
  omega
theorem m1_ge {a : Int32} (h : ¬ a < 0) : (-1 : Int32) ≤ a := by
  apply Int32.le_iff_toInt_le.mpr
  have h' : ¬ a.toInt < (0 : Int32).toInt := fun z => h (Int32.lt_iff_toInt_lt.mpr z)
  have q1 : (-1 : Int32).toInt = -1 := by decide
  have q0 : (0 : Int32).toInt = 0 := by decide
  rw [q0] at h'
  rw [q1]
  omega
theorem st_best : St_best Inv := by
  intro a M h
  obtain ⟨⟨n, m, cc, hw, hr⟩, hf, hs⟩ := id h
  obtain ⟨h1, h2, h3, h4, h5, h6, h7, h8, h9, h10, h11, h12, h13, h14, h15, h16⟩ := id hw
  by_cases ca : (-1 : Int32) ≤ a
  rotate_left
  · exact ⟨fun z => absurd z ca, fun _ => fun X Y hX hY => ⟨fun z => absurd z ca, fun _ => ⟨rfl, h⟩⟩⟩
  refine ⟨fun _ => ?_, fun z => absurd ca z⟩
  rcases Nat.eq_zero_or_pos n with h0 | h0
  · subst h0
    refine C_told0 h4 ⟨fun q => absurd rfl q, fun _ => ?_⟩
    exact fun X Y hX hY => ⟨fun _ => ⟨fun q => absurd h5 q, fun _ => ⟨rfl, h⟩⟩, fun z => absurd ca z⟩
  refine C_told1 h1 h0 h4 ⟨fun _ => ?_, fun q => absurd q (by decide)⟩
  have n0 : ∀ {M1 : Mem}, M1 29 5 = nI n → ¬ M1 29 5 = 0 := fun e => by rw [e]; exact nI_ne0 h0 (by omega)
  have eD : dM M = dC M := dM_eq hw
  have h7' : M 29 6 = nI m := h7
  rcases cl0 (N := nI m) (n := m) rfl (by omega) a with q | ⟨q, q2⟩ | ⟨z, hz, rfl, w1, w2, w3⟩
  · have e := m1_cl q ca
    subst e
    have lt : (-1 : Int32) < M 12 6 := by
      rw [h6]
      rcases (show m = 0 ∨ m = 1 ∨ m = 2 ∨ m = 3 ∨ m = 4 ∨ m = 5 by omega) with rfl | rfl | rfl | rfl | rfl | rfl <;> decide
    refine ⟨fun _ => C_best h1 h2 h4 h6 (fun M1 fr g1 g2 => ⟨fun z => absurd z (by decide), fun _ => ?_⟩), fun z => absurd lt z⟩
    have hw1 := hw.se fr
    obtain ⟨-, -, -, -, k5, -, k7, -, k9, -⟩ := id hw1
    have eD1 : dM M1 = dC M := by rw [dM_eq hw1, fr.dC]
    refine D_best h1 h2 ca (n0 k5) k5 k7 (by rw [eD1]; exact okD_of hw) (fun M2 fr2 _ => ⟨fun z => absurd rfl z, fun _ => ⟨?_, (h.se fr).se fr2⟩⟩)
    rw [g1, eD1]
  · have nl : ¬ a < M 12 6 := by
      rw [h6]
      exact fun z => absurd q2 (Int32.not_le.mpr z)
    have na : ¬ a = -1 := fun z => by subst z; exact q (by decide)
    refine ⟨fun z => absurd z nl, fun _ => ?_⟩
    refine D_best h1 h2 ca (n0 h5) h5 h7 (by rw [eD]; exact okD_of hw) (fun M2 fr2 _ => ⟨fun _ => ⟨fun _ => ⟨rfl, h.se fr2⟩, fun z => absurd ?_ z⟩, fun z => absurd z na⟩)
    rw [fr2 29 6 rfl, h7]
    exact q2
  · have lt : nI z < M 12 6 := by rw [h6]; exact nI_lt hz (by omega)
    have na : ¬ nI z = -1 := fun e => by rw [e] at w1; exact w1 (by decide)
    refine ⟨fun _ => C_best h1 h2 h4 h6 (fun M1 fr g1 g2 => ⟨fun _ => ⟨vp_in_nI (by omega) (by omega), ?_⟩, fun e => absurd (nI_pos' (n := z) (by omega)) e⟩), fun e => absurd lt e⟩
    have hw1 := hw.se fr
    obtain ⟨-, -, -, -, k5, -, k7, -, k9, -⟩ := id hw1
    have eD1 : dM M1 = dC M := by rw [dM_eq hw1, fr.dC]
    refine D_best h1 h2 ca (n0 k5) k5 k7 (by rw [eD1]; exact okD_of hw) (fun M2 fr2 g3 => ⟨fun _ => ⟨fun e => absurd e ?_, fun _ => ⟨vp_in_nI (by omega) (by omega), ?_, (h.se fr).se fr2⟩⟩, fun e => absurd e na⟩)
    · rw [fr2 29 6 rfl, k7]
      exact w2
    · rw [w3, g2 z hz, g3 z hz, eD1]
