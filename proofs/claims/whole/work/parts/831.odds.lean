theorem D_terms {c f : Nat} (hc : c ≤ 120) (hf : f ≤ 120) (h0 : 0 < f) {a : Int32} {M : Mem} {R : Int64 → Mem → Prop} (k : R (if a = 0 then lN (c / Nat.gcd c f) else lN (f / Nat.gcd c f)) M) : wp_Model_inLeastTerms (lN c) (lN f) a M R := by
  intro X hX
  have key : ∀ (t x y : Nat), y < t → x ≤ 120 → y ≤ 120 → Nat.gcd x y = Nat.gcd c f → X (lN c) (lN f) a (lN x) (lN y) M := by
    intro t
    induction t with
    | zero => intro x y h; omega
    | succ t ih =>
      intro x y ht hx hy hg
      have iz : (lg_cmp (lN y) (0 : Int64) = 0) ↔ y = 0 := by
        rw [lg_cmp_eq]
        exact pk_lEQ (b := 0) (by omega) (by omega)
      have gp : 0 < Nat.gcd c f := Nat.gcd_pos_of_pos_right _ h0
      refine hX _ _ _ _ _ _ ⟨fun z => ?_, fun z => ?_⟩
      · have y0 := iz.mp z
        rw [y0, Nat.gcd_zero_right] at hg
        have gn : ¬ lN x = 0 := fun q => by
          have := (pk_lEQ (a := x) (b := 0) (by omega) (by omega)).mp q
          omega
        refine ⟨fun q => ⟨gn, ?_⟩, fun q => ⟨gn, ?_⟩⟩
        · rw [if_neg q] at k
          rw [pk_lDiv (by omega) (by omega) (by omega), hg]
          exact k
        · rw [if_pos q] at k
          rw [pk_lDiv (by omega) (by omega) (by omega), hg]
          exact k
      · have y0 : y ≠ 0 := fun q => z (iz.mpr q)
        have yn : ¬ lN y = 0 := fun q => y0 ((pk_lEQ (a := y) (b := 0) (by omega) (by omega)).mp q)
        refine ⟨yn, ?_⟩
        intro w ew
        rw [ew, pk_lRem (by omega) (by omega) (by omega)]
        have ml := Nat.mod_lt x (show 0 < y by omega)
        refine ih y (x % y) (by omega) hy (by omega) ?_
        rw [Nat.gcd_comm y, ← Nat.gcd_rec, Nat.gcd_comm y]
        exact hg
  exact key (f + 1) c f (by omega) hc hf rfl
theorem D_odds {n m g : Nat} (hn : n ≤ 6) (hm : m ≤ 5) (hg : g < m) {a : Int32} {M : Mem} {R : Int64 → Mem → Prop} (ha : ¬ a < 0 ∧ ¬ (1 : Int32) < a) (e5 : M 29 5 = nI n) (e6 : M 29 6 = nI m) (ok : okD (dM M) n m) (k : ∀ M', SE M M' → R (if a = 0 then lN (odF (dM M) n m g (fc m) (List.range m) 0 / Nat.gcd (odF (dM M) n m g (fc m) (List.range m) 0) (fc m)) else lN (fc m / Nat.gcd (odF (dM M) n m g (fc m) (List.range m) 0) (fc m))) M') : wp_Model_odds (nI g) a M R := by
  intro X hX
  have hfc := fc_le m (by omega)
  have hfp := fc_pos m
  have hod := odF_le (D := dM M) (n := n) (m := m) (g := g) (fc m) (List.range m) 0
  generalize hB : odF (dM M) n m g (fc m) (List.range m) 0 = B at k hod
  have fin : ∀ M1 : Mem, SE M M1 → X (nI g) a (nI (fc m)) (nI B) 0 M1 := by
    intro M1 fr
    refine hX _ _ _ _ _ _ ⟨fun _ => ?_, fun z => absurd rfl z⟩
    rw [nI_l (by omega), nI_l (by omega)]
    exact D_terms (by omega) (by omega) hfp (k M1 fr)
  have key : ∀ (d i : Nat) (l : List Nat) (c : Nat), i + d + 1 = fc m → chain m d l = true → odF (dM M) n m g (d + 1) l c = B → ∀ M1 : Mem, SE M M1 → RW 42 m l M1 → X (nI g) a (nI i) (nI c) 1 M1 := by
    intro d
    induction d with
    | zero =>
      intro i l c hi hch hb M1 fr hr
      have okl := chain_ok hch
      have eD := fr.dM
      have g6 : M1 29 6 = nI m := by rw [fr 29 6 rfl]; exact e6
      refine hX _ _ _ _ _ _ ⟨fun z => absurd z (by decide), fun _ => ?_⟩
      refine D_goRow hn hm okl (by rw [fr 29 5 rfl]; exact e5) g6 (by rw [eD]; exact ok) hr (fun M2 fr2 h40 _ => ?_)
      rw [eD] at h40
      have r42 : RW 42 m l M2 := fun j hj => by rw [fr2.1 42 (by decide) (by decide) (by decide)]; exact hr j hj
      have hb' : (if rsL (dM M) n m l g = -9 then c + 1 else c) = B := hb
      refine ⟨vp_in_nI (by omega) (by omega), ?_⟩
      rw [nI_clamp (by omega), h40 g hg]
      have nxt : ∀ c', c' = B → ∀ x3 x4 : Int32, x3 = nI (fc m) → x4 = nI c' → wp_Model_nextRow M2 (fun r10 M9 => X (nI g) a x3 x4 r10 M9) := by
        intro c' hc' x3 x4 h3 h4
        refine D_next hm (ok_len okl) (ok_lv hm okl) (ok_ld okl) (by rw [fr2.2 6 (by decide)]; exact g6) r42 (fun M4 fr4 r4 => ?_)
        rw [if_pos (chain_lr0 hch), h3, h4, hc']
        exact fin M4 ((fr.tr fr2.se).tr (fr4.se (fun _ => rfl)))
      refine ⟨fun z => ?_, fun z => ?_⟩
      · rw [if_neg z] at hb'
        intro x4 h4 x3 h3
        refine nxt c hb' x3 x4 ?_ ?_
        · rw [h3, nI_1, ← hi]
        · rw [h4]; exact nI_add c 0
      · rw [if_pos z] at hb'
        intro x4 h4 x3 h3
        refine nxt (c + 1) hb' x3 x4 ?_ ?_
        · rw [h3, nI_1, ← hi]
        · rw [h4]; exact nI_add c 1
    | succ d ih =>
      intro i l c hi hch hb M1 fr hr
      have okl := chain_ok hch
      have eD := fr.dM
      have g6 : M1 29 6 = nI m := by rw [fr 29 6 rfl]; exact e6
      refine hX _ _ _ _ _ _ ⟨fun z => absurd z (by decide), fun _ => ?_⟩
      refine D_goRow hn hm okl (by rw [fr 29 5 rfl]; exact e5) g6 (by rw [eD]; exact ok) hr (fun M2 fr2 h40 _ => ?_)
      rw [eD] at h40
      have r42 : RW 42 m l M2 := fun j hj => by rw [fr2.1 42 (by decide) (by decide) (by decide)]; exact hr j hj
      have hb' : odF (dM M) n m g (d + 1) (nx m l) (if rsL (dM M) n m l g = -9 then c + 1 else c) = B := hb
      refine ⟨vp_in_nI (by omega) (by omega), ?_⟩
      rw [nI_clamp (by omega), h40 g hg]
      have nxt : ∀ c', odF (dM M) n m g (d + 1) (nx m l) c' = B → ∀ x3 x4 : Int32, x3 = nI (i + 1) → x4 = nI c' → wp_Model_nextRow M2 (fun r10 M9 => X (nI g) a x3 x4 r10 M9) := by
        intro c' hc' x3 x4 h3 h4
        obtain ⟨c1, c2⟩ := chain_lr1 hch
        refine D_next hm (ok_len okl) (ok_lv hm okl) (ok_ld okl) (by rw [fr2.2 6 (by decide)]; exact g6) r42 (fun M4 fr4 r4 => ?_)
        rw [if_neg c1, h3, h4]
        exact ih (i + 1) (nx m l) c' (by omega) c2 hc' M4 ((fr.tr fr2.se).tr (fr4.se (fun _ => rfl))) r4
      refine ⟨fun z => ?_, fun z => ?_⟩
      · rw [if_neg z] at hb'
        intro x4 h4 x3 h3
        refine nxt c hb' x3 x4 ?_ ?_
        · rw [h3, nI_1]
        · rw [h4]; exact nI_add c 0
      · rw [if_pos z] at hb'
        intro x4 h4 x3 h3
        refine nxt (c + 1) hb' x3 x4 ?_ ?_
        · rw [h3, nI_1]
        · rw [h4]; exact nI_add c 1
  unfold wp_Model_isGuest
  refine ⟨fun z => absurd z (nI_pos (by omega)), fun _ => ⟨fun z => absurd z (by rw [e6]; exact nI_ge hg (by omega)), fun _ => ⟨fun z => absurd z (by decide), fun _ => ?_⟩⟩⟩
  rw [e_within_y ha.1 ha.2]
  refine ⟨fun _ => ?_, fun z => absurd z (by decide)⟩
  refine D_rows hm e6 (fun M1 fr1 hr1 => ?_)
  refine key (fc m - 1) 0 (List.range m) 0 (by omega) (chain_all m (by omega)) ?_ M1 (fr1.se (fun _ => rfl)) hr1
  rw [show fc m - 1 + 1 = fc m by omega]
  exact hB
theorem st_odds : St_odds Inv := by
  intro g a M h
  obtain ⟨⟨n, m, cc, hw, hr⟩, hf, hs⟩ := id h
  obtain ⟨h1, h2, h3, h4, h5, h6, h7, h8, h9, h10, h11, h12, h13, h14, h15, h16⟩ := id hw
  unfold wp_Main_odds wp_Way_hasGuest
  have bad : (g < 0 ∨ (¬ g < 0 ∧ nI m ≤ g)) → wp_Main_isBelow g (M 12 6) M (fun r4 M3 => ((r4 = (0 : Int32) → wp_Model_odds g a M3 (fun r2 M2 => (-9223372036854775808 : Int64) = r2 ∧ Inv M2)) ∧ (¬ (r4 = (0 : Int32)) → False))) := by
    intro q
    rw [h6, e_isBelow_n q]
    refine ⟨fun _ => ?_, fun z => absurd rfl z⟩
    intro X hX
    unfold wp_Model_isGuest
    rw [h7]
    rcases q with q | ⟨q, q2⟩
    · exact ⟨fun _ => ⟨fun _ => ⟨rfl, h⟩, fun z => absurd rfl z⟩, fun z => absurd q z⟩
    · exact ⟨fun z => absurd z q, fun _ => ⟨fun _ => ⟨fun _ => ⟨rfl, h⟩, fun z => absurd rfl z⟩, fun z => absurd q2 z⟩⟩
  have fail : (g < 0 ∨ (¬ g < 0 ∧ nI m ≤ g)) → wp_Model_odds g a M (fun r2 M2 => (-9223372036854775808 : Int64) = r2 ∧ Inv M2) := by
    intro q
    have := bad q
    rw [h6, e_isBelow_n q] at this
    exact this.1 rfl
  rcases cl0 (N := nI m) (n := m) rfl (by omega) g with q | ⟨q, q2⟩ | ⟨z, hz, rfl, w1, w2, w3⟩
  · rw [h6, e_isBelow_n (Or.inl q)]
    exact ⟨fun _ => fail (Or.inl q), fun z => absurd rfl z⟩
  · rw [h6, e_isBelow_n (Or.inr ⟨q, q2⟩)]
    exact ⟨fun _ => fail (Or.inr ⟨q, q2⟩), fun z => absurd rfl z⟩
  rw [h6, e_isBelow_y (n := m) rfl hz (by omega)]
  refine ⟨fun z => absurd z (by decide), fun _ => ?_⟩
  rcases what_cl a with ⟨g1, g2⟩ | ⟨b, hb, rfl, v1, v2⟩
  · rw [e_isBelow_n g1]
    refine ⟨fun q => absurd rfl q, fun _ => ?_⟩
    intro X hX
    unfold wp_Model_isGuest
    refine ⟨fun e => absurd e w1, fun _ => ⟨fun e => absurd e (by rw [h7]; exact w2), fun _ => ⟨fun e => absurd e (by decide), fun _ => ?_⟩⟩⟩
    rw [e_within_n g2]
    exact ⟨fun q => absurd rfl q, fun _ => ⟨rfl, h⟩⟩
  rw [e_isBelow_y (N := 2) (n := 2) rfl hb (by omega)]
  refine ⟨fun _ => C_count h1 h2 hz h4 h6 (fun M1 fr g1 g2 => ?_), fun q => absurd q (by decide)⟩
  have hw1 := hw.se fr
  obtain ⟨-, -, -, -, k5, -, k7, -, k9, -⟩ := id hw1
  have eD1 : dM M1 = dC M := by rw [dM_eq hw1, fr.dC]
  have hfc := fc_le m (by omega)
  have hfp := fc_pos m
  have hod := odF_le (D := dC M) (n := n) (m := m) (g := z) (fc m) (List.range m) 0
  have fin := D_odds h1 h2 hz (a := nI b) (M := M1) (R := fun r2 M2 => (if nI b = 0 then lN (odF (dC M) n m z (fc m) (List.range m) 0 / Nat.gcd (odF (dC M) n m z (fc m) (List.range m) 0) (fc m)) else lN (fc m / Nat.gcd (odF (dC M) n m z (fc m) (List.range m) 0) (fc m))) = r2 ∧ Inv M2) ⟨v1, v2⟩ k5 k7 (by rw [eD1]; exact okD_of hw) (fun M2 fr2 => ⟨by rw [eD1], (h.se fr).se fr2⟩)
  rw [g1, g2]
  generalize odF (dC M) n m z (fc m) (List.range m) 0 = B at fin hod g1 ⊢
  have gp : 0 < Nat.gcd B (fc m) := Nat.gcd_pos_of_pos_right _ hfp
  have gl : Nat.gcd B (fc m) ≤ fc m := Nat.le_of_dvd hfp (Nat.gcd_dvd_right _ _)
  have dv : ∀ x, x ≤ 120 → (nI x / nI (Nat.gcd B (fc m))).toInt64 = lN (x / Nat.gcd B (fc m)) := by
    intro x hx
    have := Nat.div_le_self x (Nat.gcd B (fc m))
    rw [pk_div (by omega) gp (by omega), nI_l (by omega)]
  refine C_sd (by omega) (by omega) ?_
  rw [sd_gcd m (by omega) B (by omega) (by omega)]
  refine ⟨fun q => ⟨fun e => absurd e (nI_nle gp (by omega)), fun _ => ⟨nI_ne0 gp (by omega), ?_⟩⟩, fun q => ⟨fun e => absurd e (nI_nle gp (by omega)), fun _ => ⟨nI_ne0 gp (by omega), ?_⟩⟩⟩
  · rw [g2, dv _ hfc]
    rw [if_neg q] at fin
    exact fin
  · rw [g1, dv _ (by omega)]
    rw [if_pos q] at fin
    exact fin
