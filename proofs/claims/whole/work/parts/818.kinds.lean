def kdF (D : Mem) (n m z c : Nat) (gr hr : Nat → Int32) : Nat → Int32
  | 0 => 0
  | s + 1 => kdF D n m z c gr hr s ||| (if soB gr hr (resN (wKd D z (nI s)) n m) c = true then bit (nI s) else 0)
theorem C_kinds {n m c z : Nat} (hn : n ≤ 6) (hm : m ≤ 5) (hc : c ≤ 8) (hz : z < n) {M : Mem} {R : Int32 → Mem → Prop} (e5 : M 12 5 = nI n) (e6 : M 12 6 = nI m) (e4 : M 26 4 = nI c) (hgr : ∀ r, r < c → ∃ g, g < m ∧ M 27 r = nI g) (k : ∀ M', SE M M' → R (kdF (dC M) n m z c (M 27) (M 28) 3) M') : wp_Readings_kindsOf (nI z) M R := by
  intro X hX
  have hin : vp_in (nI z) 6 := vp_in_nI (by omega) (by omega)
  have hcl : (nI z).toNatClampNeg = z := nI_clamp (by omega)
  refine ⟨hin, ?_⟩
  intro x2 ex2
  rw [hcl] at ex2
  have key : ∀ (d s : Nat), s + d = 3 → ∀ (M1 : Mem) (v : Int32), SE (mset M 13 z v) M1 → X (nI z) x2 (kdF (dC M) n m z c (M 27) (M 28) s) (nI s) M1 := by
    intro d
    induction d with
    | zero =>
      intro s hs M1 v fr
      have : s = 3 := by omega
      subst this
      refine hX _ _ _ _ _ ⟨fun _ => ⟨hin, ?_⟩, fun q => absurd (by decide) q⟩
      intro M3 e3
      rw [hcl] at e3
      refine k M3 ?_
      have := fr.put 13 z x2
      rw [mm, ms_self ex2] at this
      rw [e3]
      exact this
    | succ d ih =>
      intro s hs M1 v fr
      refine hX _ _ _ _ _ ⟨fun q => absurd q (nI_ge (b := 3) (by omega) (by omega)), fun _ => ⟨hin, ?_⟩⟩
      intro M5 e5'
      rw [hcl] at e5'
      have fr5 : SE (mset M 13 z (nI s)) M5 := by
        have := fr.put 13 z (nI s)
        rw [mm] at this
        rw [e5']
        exact this
      have eD : dC M5 = wKd (dC M) z (nI s) := by rw [fr5.dC, dC_K]
      refine C_byNumbers hn hm (by rw [fr5 12 5 rfl]; exact e5) (by rw [fr5 12 6 rfl]; exact e6) (fun M6 f1 f2 => ?_)
      rw [eD] at f2
      have fr6 := fr5.tr f1.se
      have a27 : M6 27 = M 27 := by rw [fr6.r (fun _ => rfl), ms_n (by decide)]
      have a28 : M6 28 = M 28 := by rw [fr6.r (fun _ => rfl), ms_n (by decide)]
      refine C_allSo (m := m) (c := c) (res := resN (wKd (dC M) z (nI s)) n m) hc hm (by rw [fr6 26 4 rfl]; exact e4) (by rw [a27]; exact hgr) f2 ?_
      rw [a27, a28]
      have nx := ih (s + 1) (by omega) M6 (nI s) fr6
      rw [kdF] at nx
      by_cases so : soB (M 27) (M 28) (resN (wKd (dC M) z (nI s)) n m) c = true
      · rw [if_pos so] at nx ⊢
        refine ⟨fun q => absurd q (by decide), fun _ => ?_⟩
        intro y ey y2 ey2
        rw [ey, ey2, nI_1]
        exact nx
      · rw [if_neg so] at nx ⊢
        refine ⟨fun _ => ?_, fun q => absurd rfl q⟩
        intro y ey y2 ey2
        rw [ey, ey2, nI_1]
        exact nx
  refine key 3 0 (by omega) M x2 ?_
  rw [ms_self ex2]
  exact SE.rf
theorem D_kinds {n m c z : Nat} (hn : n ≤ 6) (hm : m ≤ 5) (hc : c ≤ 8) (hz : z < n) {M : Mem} {R : Int32 → Mem → Prop} (e5 : M 29 5 = nI n) (e6 : M 29 6 = nI m) (e23 : M 29 23 = nI c) (ok : okD (dM M) n m) (hgr : ∀ r, r < c → ∃ g, g < m ∧ M 44 r = nI g) (k : ∀ M', SE M M' → R (kdF (dM M) n m z c (M 44) (M 45) 3) M') : wp_Model_kinds (nI z) M R := by
  intro X hX
  have hin : vp_in (nI z) 6 := vp_in_nI (by omega) (by omega)
  have hcl : (nI z).toNatClampNeg = z := nI_clamp (by omega)
  refine ⟨fun q => absurd q (nI_pos (by omega)), fun _ => ⟨fun q => absurd q (by rw [e5]; exact nI_ge hz (by omega)), fun _ => ⟨fun _ => ⟨hin, ?_⟩, fun q => absurd q (by decide)⟩⟩⟩
  intro x2 ex2
  rw [hcl] at ex2
  have key : ∀ (d s : Nat), s + d = 3 → ∀ (M1 : Mem) (v : Int32), SE (mset M 33 z v) M1 → X (nI z) x2 (kdF (dM M) n m z c (M 44) (M 45) s) (nI s) M1 := by
    intro d
    induction d with
    | zero =>
      intro s hs M1 v fr
      have : s = 3 := by omega
      subst this
      refine hX _ _ _ _ _ ⟨fun _ => ⟨hin, ?_⟩, fun q => absurd (by decide) q⟩
      intro M3 e3
      rw [hcl] at e3
      refine k M3 ?_
      have := fr.put 33 z x2
      rw [mm, ms_self ex2] at this
      rw [e3]
      exact this
    | succ d ih =>
      intro s hs M1 v fr
      refine hX _ _ _ _ _ ⟨fun q => absurd q (nI_ge (b := 3) (by omega) (by omega)), fun _ => ⟨hin, ?_⟩⟩
      intro M5 e5'
      rw [hcl] at e5'
      have fr5 : SE (mset M 33 z (nI s)) M5 := by
        have := fr.put 33 z (nI s)
        rw [mm] at this
        rw [e5']
        exact this
      have eD : dM M5 = wKd (dM M) z (nI s) := by rw [fr5.dM, dM_K]
      have a44 : M5 44 = M 44 := by rw [fr5.r (fun _ => rfl), ms_n (by decide)]
      have a45 : M5 45 = M 45 := by rw [fr5.r (fun _ => rfl), ms_n (by decide)]
      refine D_areSo (c := c) hn hc hm (by rw [fr5 29 5 rfl]; exact e5) (by rw [fr5 29 6 rfl]; exact e6) (by rw [fr5 29 23 rfl]; exact e23) (by rw [eD]; exact ok.K z _) (by rw [a44]; exact hgr) (fun M6 f1 => ?_)
      rw [eD, a44, a45]
      have fr6 := fr5.tr f1.se
      have nx := ih (s + 1) (by omega) M6 (nI s) fr6
      rw [kdF] at nx
      by_cases so : soB (M 44) (M 45) (resN (wKd (dM M) z (nI s)) n m) c = true
      · rw [if_pos so] at nx ⊢
        refine ⟨fun q => absurd q (by decide), fun _ => ?_⟩
        intro y ey y2 ey2
        rw [ey, ey2, nI_1]
        exact nx
      · rw [if_neg so] at nx ⊢
        refine ⟨fun _ => ?_, fun q => absurd rfl q⟩
        intro y ey y2 ey2
        rw [ey, ey2, nI_1]
        exact nx
  refine key 3 0 (by omega) M x2 ?_
  rw [ms_self ex2]
  exact SE.rf
theorem st_kinds : St_kinds Inv := by
  intro a M h
  obtain ⟨⟨n, m, c, hw, hr⟩, hf, hs⟩ := id h
  obtain ⟨h1, h2, h3, h4, h5, h6, h7, h8, h9, h10, h11, h12, h13, h14, h15, h16⟩ := id hw
  obtain ⟨r1, r2, r3, r4, r5, r6⟩ := id hr
  unfold wp_Main_kinds wp_Way_hasHouse
  rw [h4]
  rcases cl0 (N := nI n) rfl (by omega) a with q | ⟨q, q2⟩ | ⟨g, hg, rfl, q1, q2, q3⟩
  · rw [e_isBelow_n (Or.inl q)]
    refine ⟨fun _ => ?_, fun z => absurd rfl z⟩
    intro X hX
    exact ⟨fun _ => ⟨fun z => absurd rfl z, fun _ => ⟨rfl, h⟩⟩, fun z => absurd q z⟩
  · rw [e_isBelow_n (Or.inr ⟨q, q2⟩)]
    refine ⟨fun _ => ?_, fun z => absurd rfl z⟩
    intro X hX
    exact ⟨fun z => absurd z q, fun _ => ⟨fun _ => ⟨fun z => absurd rfl z, fun _ => ⟨rfl, h⟩⟩, fun z => absurd (by rw [h5]; exact q2) z⟩⟩
  rw [e_isBelow_y rfl hg (by omega)]
  refine ⟨fun z => absurd z (by decide), fun _ => C_kinds h1 h2 r1 hg h4 h6 r2 r6 (fun M1 fr => ?_)⟩
  have hw1 := hw.se fr
  have hr1 := hr.se fr
  have h' := h.se fr
  obtain ⟨-, -, -, -, k5, -, k7, -⟩ := id hw1
  obtain ⟨-, -, s3, s4, s5, s6⟩ := id hr1
  have eD : dM M1 = dC M := by rw [dM_eq hw1, fr.dC]
  have a27 : M1 27 = M 27 := fr.r (fun _ => rfl)
  have a28 : M1 28 = M 28 := fr.r (fun _ => rfl)
  rw [← s4] at s6
  refine D_kinds h1 h2 r1 hg k5 k7 s3 (by rw [eD]; exact okD_of hw) s6 (fun M' fr' => ⟨?_, h'.se fr'⟩)
  rw [eD, s4, s5, a27, a28]
