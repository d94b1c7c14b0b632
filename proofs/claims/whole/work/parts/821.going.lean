theorem D_going_n1 {M : Mem} {R : Int32 → Mem → Prop} {a b c d e : Int32} (ha : a < 0 ∨ (¬ a < 0 ∧ 3 < a)) (h : R (-1) (mset M 29 0 0)) : wp_Model_going a b c d e M R := by
  intro X Y hX hY M27 e27
  rw [e27, e_isSheet_n ha]
  exact ⟨fun q => absurd rfl q, fun _ => h⟩
theorem D_going_n2 {k : Nat} (hk : k < 4) {M : Mem} {R : Int32 → Mem → Prop} {b c d e : Int32} (hb : (b < 0 ∨ (¬ b < 0 ∧ 2 < b)) ∨ ((∃ z, z < 3 ∧ b = nI z) ∧ ¬ okW 5 e)) (h : R (-2) (mset M 29 0 0)) : wp_Model_going (nI k) b c d e M R := by
  intro X Y hX hY M27 e27
  rw [e27, e_isSheet_y hk]
  refine ⟨fun _ => ?_, fun q => absurd q (by decide)⟩
  rcases hb with hb | ⟨⟨z, hz, rfl⟩, hw⟩
  · rw [e_isSort_n hb]
    exact ⟨fun _ => h, fun q => absurd rfl q⟩
  · rw [e_isSort_y hz]
    refine ⟨fun q => absurd q (by decide), fun _ => ⟨fun e0 => absurd (Or.inl e0) hw, fun e0 => ?_⟩⟩
    rcases wh_cl (N := 5) (B := 5) (T := 14) rfl rfl (by omega) e with ⟨w, hww, ee, -, -, -⟩ | ⟨-, g2, -⟩
    · exact absurd (Or.inr ⟨w, hww, ee⟩) hw
    · rw [e_within_n2 g2]
      exact ⟨fun q => absurd rfl q, fun _ => h⟩
theorem ag0 {k : Nat} {M : Mem} {v a i n : Int32} : agF (mset M 29 0 v 30 k) (mset M 29 0 v 31 k) a i n = agF (M 30 k) (M 31 k) a i n := by rw [ms_n (show 30 ≠ 29 by omega), ms_n (show 31 ≠ 29 by omega)]
theorem D_going_b {k z : Nat} (hk : k < 4) (hz : z < 3) {M : Mem} {R : Int32 → Mem → Prop} {c d e : Int32} (hw : okW 5 e) (h : ∀ X Y, (∀ (x4 : Int32) (x5 : Int32) (x7 : Int32) (x8 : Int32) (x9 : Int32) (M : Mem), wp_Model_going_88 X Y R x4 x5 x7 x8 x9 M → X x4 x5 x7 x8 x9 M) → (∀ (x4 : Int32) (x5 : Int32) (x7 : Int32) (x8 : Int32) (x9 : Int32) (M : Mem), wp_Model_going_151 X Y R x4 x5 x7 x8 x9 M → Y x4 x5 x7 x8 x9 M) → wp_Model_going_41 X Y R (nI k) (nI z) c d e (mset M 29 0 0)) : wp_Model_going (nI k) (nI z) c d e M R := by
  intro X Y hX hY M27 e27
  rw [e27, e_isSheet_y hk]
  refine ⟨fun _ => ?_, fun q => absurd q (by decide)⟩
  rw [e_isSort_y hz]
  refine ⟨fun q => absurd q (by decide), fun _ => ⟨fun _ => h X Y hX hY, fun e0 => ?_⟩⟩
  rcases wh_cl (N := 5) (B := 5) (T := 14) rfl rfl (by omega) e with ⟨w, hww, ee, -, w1, w2⟩ | ⟨-, -, g3⟩
  · rw [e_within_y w1 w2]
    exact ⟨fun _ => h X Y hX hY, fun q => absurd q (by decide)⟩
  · rcases hw with hw | ⟨w, hww, ee⟩
    · exact absurd hw e0
    · exact absurd ee (g3 w hww)
theorem D_going_n3 {k z : Nat} (hk : k < 4) (hz : z < 3) {M : Mem} {R : Int32 → Mem → Prop} {c d e : Int32} (hw : okW 5 e) (hf : ¬ agF (M 30 k) (M 31 k) (nI z) c d = 0) (h : R (-10 - agF (M 30 k) (M 31 k) (nI z) c d) (mset M 29 0 (agF (M 30 k) (M 31 k) (nI z) c d))) : wp_Model_going (nI k) (nI z) c d e M R := by
  refine D_going_b hk hz hw (fun X Y hX hY => D_ag hk ?_)
  rw [ag0]
  refine ⟨fun q => absurd q hf, fun _ => ?_⟩
  rw [e_fails]
  exact h
theorem D_going_n4 {k z : Nat} (hk : k < 4) (hz : z < 3) {M : Mem} {R : Int32 → Mem → Prop} {c d e : Int32} (hw : okW 5 e) (hf : agF (M 30 k) (M 31 k) (nI z) c d = 0) (e5 : M 29 5 = nI 0) (h : R (-3) (mset M 29 0 0)) : wp_Model_going (nI k) (nI z) c d e M R := by
  refine D_going_b hk hz hw (fun X Y hX hY => D_ag hk ?_)
  rw [ag0]
  exact ⟨fun _ => ⟨fun q => absurd e5 q, fun _ => h⟩, fun q => absurd hf q⟩
/-- the cells that tell the order, one by one -/
theorem D_going_88 {k i p m : Nat} (hk : k < 4) (hip : i + p ≤ 60) (hm : m ≤ 5) {M : Mem} {R : Int32 → Mem → Prop} {e : Int32} (e6 : M 29 6 = nI m) (X Y : Int32 → Int32 → Int32 → Int32 → Int32 → Mem → Prop) (hX : ∀ (x4 : Int32) (x5 : Int32) (x7 : Int32) (x8 : Int32) (x9 : Int32) (M : Mem), wp_Model_going_88 X Y R x4 x5 x7 x8 x9 M → X x4 x5 x7 x8 x9 M) (kn : ordF (fun j => M 32 (60 * k + i + j)) m p = none → R (-1) M) (ky : ∀ L, ordF (fun j => M 32 (60 * k + i + j)) m p = some L → wp_Model_begin M (fun M9 => Y (nI p) e (nI (60 * k + i)) (nI (mk (fun x => L.contains x))) 0 M9)) : X (nI p) e (nI (60 * k + i)) 0 0 M := by
  have key : ∀ (d j : Nat), j + d = p → ∀ L, ordF (fun j => M 32 (60 * k + i + j)) m j = some L → X (nI p) e (nI (60 * k + i)) (nI (mk (fun x => L.contains x))) (nI j) M := by
    intro d
    induction d with
    | zero =>
      intro j hj L hL
      have : j = p := by omega
      subst this
      exact hX _ _ _ _ _ _ ⟨fun _ => ky L hL, fun q => absurd (Int32.le_refl _) q⟩
    | succ d ih =>
      intro j hj L hL
      have hsuc := ordF_succ (fun j => M 32 (60 * k + i + j)) m j
      rw [hL] at hsuc
      dsimp only at hsuc
      refine hX _ _ _ _ _ _ ⟨fun q => absurd q (nI_ge (by omega) (by omega)), fun _ => ?_⟩
      rw [nI_add]
      refine ⟨vp_in_nI (by omega) (by omega), ?_⟩
      intro x ex
      rw [nI_clamp (by omega)] at ex
      rw [← ex] at hsuc
      have bad : ordF (fun j => M 32 (60 * k + i + j)) m (j + 1) = none → R (-1) M := by
        intro hb
        refine kn ?_
        have := ordF_none hb d
        rw [← this]
        congr 1
        omega
      rcases cl0 (N := nI m) rfl (by omega) x with w | ⟨w, w2⟩ | ⟨g, hg, eg, w1, w2, w3⟩
      · rw [if_pos w] at hsuc
        exact ⟨fun _ => ⟨fun _ => bad hsuc, fun q => absurd rfl q⟩, fun q => absurd w q⟩
      · rw [if_neg w, if_pos w2] at hsuc
        exact ⟨fun q => absurd q w, fun _ => ⟨fun _ => ⟨fun _ => bad hsuc, fun q => absurd rfl q⟩, fun q => absurd (by rw [e6]; exact w2) q⟩⟩
      · rw [eg] at hsuc ⊢
        rw [if_neg w1, if_neg w2, w3] at hsuc
        have eb : (1 : Int32) <<< (nI g &&& (31 : Int32)) = nI (2 ^ g) := bit_pow g (by omega)
        have hp6 := (P6 (mk (fun x => L.contains x)) (mk_lt _) g (by omega)).2
        rw [mk_in _ (by omega)] at hp6
        refine ⟨fun q => absurd q w1, fun _ => ⟨fun q => absurd (by rw [e6] at q; exact q) w2, fun _ => ⟨fun q => absurd q (by decide), fun _ => ⟨fun c => ?_, fun c => ?_⟩⟩⟩⟩
        · have c' : ¬ L.contains g = true := fun z => c (hp6.mpr z)
          rw [if_neg c'] at hsuc
          intro y ey y2 ey2
          rw [ey, ey2, nI_1, eb, mkc_or (by omega)]
          exact ih (j + 1) (by omega) _ hsuc
        · have c' := hp6.mp c
          rw [if_pos c'] at hsuc
          exact bad hsuc
  have := key p 0 (by omega) [] rfl
  exact this
theorem D_going_n5 {k z i p n m : Nat} (hk : k < 4) (hz : z < 3) {M : Mem} {R : Int32 → Mem → Prop} {e : Int32} (hw : okW 5 e) (hf : agF (M 30 k) (M 31 k) (nI z) (nI i) (nI p) = 0) (hip : i + p ≤ 60) (h0 : 0 < n) (hn : n ≤ 6) (hm : m ≤ 5) (e5 : M 29 5 = nI n) (e6 : M 29 6 = nI m) (ho : ordF (fun j => M 32 (60 * k + i + j)) m p = none) (h : R (-1) (mset M 29 0 0)) : wp_Model_going (nI k) (nI z) (nI i) (nI p) e M R := by
  refine D_going_b hk hz hw (fun X Y hX hY => D_ag hk ?_)
  rw [ag0]
  refine ⟨fun _ => ⟨fun _ => ?_, fun q => absurd (by rw [ms_s, up_n (by decide), e5] at q; exact q) (nI_ne0 h0 (by omega))⟩, fun q => absurd hf q⟩
  intro x7 ex7
  rw [ex7, ix60]
  refine D_going_88 (m := m) hk hip hm (by rw [ms_s, up_n (by decide)]; exact e6) X Y hX (fun _ => h) ?_
  rw [ms_n (show 32 ≠ 29 by omega), ho]
  intro L hL
  cases hL
theorem D_going_y {k z i p n m : Nat} {L : List Nat} (hk : k < 4) (hz : z < 3) {M : Mem} {R : Int32 → Mem → Prop} {e : Int32} (hw : okW 5 e) (hf : agF (M 30 k) (M 31 k) (nI z) (nI i) (nI p) = 0) (hip : i + p ≤ 60) (h0 : 0 < n) (hn : n ≤ 6) (hm : m ≤ 5) (e5 : M 29 5 = nI n) (e6 : M 29 6 = nI m) (ok : okD (dM M) n m) (ho : ordF (fun j => M 32 (60 * k + i + j)) m p = some L) (h : ∀ M', SE (mset M 29 0 0) M' → R (goA (dM M) n m L e) M') : wp_Model_going (nI k) (nI z) (nI i) (nI p) e M R := by
  refine D_going_b hk hz hw (fun X Y hX hY => D_ag hk ?_)
  rw [ag0]
  have ez : dM (mset M 29 0 0) = dM M := by
    funext j
    match j with
    | 0 => rfl
    | 1 => rfl
    | 2 => rfl
    | 3 => rfl
    | 4 => rfl
    | _ + 5 => rfl
  have f5 : mset M 29 0 0 29 5 = nI n := by rw [ms_s, up_n (by decide)]; exact e5
  have f6 : mset M 29 0 0 29 6 = nI m := by rw [ms_s, up_n (by decide)]; exact e6
  have key : ∀ (d j : Nat), j + d = p → ∀ L0, ordF (fun j => M 32 (60 * k + i + j)) m j = some L0 → ∀ M1, MF (mset M 29 0 0) M1 → MR (dM M) n m L0 M1 → Y (nI p) e (nI (60 * k + i)) (nI (mk (fun x => L.contains x))) (nI j) M1 := by
    intro d
    induction d with
    | zero =>
      intro j hj L0 hL0 M1 fr hr
      have : j = p := by omega
      subst this
      rw [ho] at hL0
      cases hL0
      obtain ⟨r1, r2, r3⟩ := hr
      have fin := h M1 fr.se
      unfold goA at fin
      refine hY _ _ _ _ _ _ ⟨fun _ => ⟨fun c => ?_, fun c => ?_⟩, fun q => absurd (Int32.le_refl _) q⟩
      · rw [if_neg c] at fin
        obtain ⟨w, hw5, ew, -⟩ := okW_vp (by omega) hw c
        rw [ew, nI_clamp (by omega)] at fin
        rw [ew, nI_clamp (by omega)]
        have g6 : M1 29 6 = nI m := by rw [fr.2 6 (by decide)]; exact f6
        refine ⟨fun q => absurd q (nI_pos (by omega)), fun _ => ⟨fun q => ⟨fun _ => ?_, fun q2 => absurd rfl q2⟩, fun q => ⟨fun q2 => absurd q2 (by decide), fun _ => ⟨vp_in_nI hw5 (by omega), ?_⟩⟩⟩⟩
        · rw [g6] at q
          have hwm : ¬ w < m := fun z => absurd q (nI_ge z (by omega))
          have : (cn (dM M) n m L).2 w = -9 := cn_no (fun hx => hwm (ordF_mem hm _ L ho w hx))
          rw [this] at fin
          exact fin
        · rw [g6] at q
          have hwm : w < m := by
            rcases Nat.lt_or_ge w m with z | z
            · exact z
            · exact absurd (nI_le z (by omega)) q
          rw [r2 w hwm]
          exact fin
      · rw [if_pos c] at fin
        rw [r3, P3 _ (mk_lt _) _ (mk_lt _), mk_andn]
        have e1 : mk (fun x => L.contains x && !!b9 ((cn (dM M) n m L).2 x)) = mk (fun x => L.contains x && b9 ((cn (dM M) n m L).2 x)) := mk_cong (fun x _ => by rw [Bool.not_not])
        rw [e1]
        exact fin
    | succ d ih =>
      intro j hj L0 hL0 M1 fr hr
      obtain ⟨L1, hL1⟩ := ordF_some ho d (j + 1) (by omega)
      obtain ⟨L0', g, q1, q2, q3, q4, q5⟩ := ordF_pre hm hL1
      rw [hL0] at q1
      cases q1
      have ec : M1 32 (60 * k + i + j) = nI g := by rw [fr.1 32 (by decide) (by decide) (by decide), ms_n (by decide)]; exact q3
      have eD : dM M1 = dM M := by rw [fr.dM, ez]
      have eb : (1 : Int32) <<< (nI g &&& (31 : Int32)) = nI (2 ^ g) := bit_pow g (by omega)
      refine hY _ _ _ _ _ _ ⟨fun q => absurd q (nI_ge (by omega) (by omega)), fun _ => ?_⟩
      rw [nI_add, nI_clamp (by omega), ec, eb]
      refine ⟨vp_in_nI (by omega) (by omega), D_step (n := n) (m := m) (L := L0) q2 q4 hn hm (by rw [fr.2 5 (by decide)]; exact f5) (by rw [fr.2 6 (by decide)]; exact f6) (by rw [eD]; exact ok) (by rw [eD]; exact hr) (fun M2 fr2 hr2 => ?_)⟩
      intro y ey
      rw [ey, nI_1]
      rw [eD] at hr2
      rw [q5] at hL1
      exact ih (j + 1) (by omega) _ hL1 M2 (fr.tr fr2) hr2
  refine ⟨fun _ => ⟨fun _ => ?_, fun q => absurd (by rw [f5] at q; exact q) (nI_ne0 h0 (by omega))⟩, fun q => absurd hf q⟩
  intro x7 ex7
  rw [ex7, ix60]
  refine D_going_88 (m := m) hk hip hm f6 X Y hX ?_ ?_
  · rw [ms_n (show 32 ≠ 29 by omega), ho]
    intro hL
    cases hL
  · rw [ms_n (show 32 ≠ 29 by omega), ho]
    intro L1 hL1
    cases hL1
    refine D_begin hn hm f5 f6 (fun M1 f1 f2 f3 f4 => ?_)
    exact key p 0 (by omega) [] rfl M1 f1 (MR_nil f2 f3 f4)
theorem okW_dec (N : Nat) (hN : N ≤ 6) (e : Int32) : ¬ okW N e ∨ okW N e := by
  by_cases h : okW N e
  · exact Or.inr h
  · exact Or.inl h
theorem Inv.end2 {M M1 M2 : Mem} (h : Inv M) (v : Int32) (f1 : SE (mset M 0 8 v) M1) (f2 : SE (mset M1 29 0 v) M2) : Inv M2 := (h.flt v).se ((f1.put 29 0 v).tr f2)
theorem st_going : St_going Inv := by
  intro a b c d e M h
  obtain ⟨⟨n, m, cc, hw, hr⟩, hf, hs⟩ := id h
  obtain ⟨h1, h2, h3, h4, h5, h6, h7, h8, h9, h10, h11, h12, h13, h14, h15, h16⟩ := id hw
  rcases sh_cl a with ⟨g1, g2⟩ | ⟨k, hk, rfl⟩
  · exact C_going_n1 g1 (D_going_n1 g2 ⟨rfl, h.flt 0⟩)
  rcases lane_cl b with ⟨g1, g2⟩ | ⟨z, hz, rfl⟩
  · exact C_going_n2 hk (Or.inl g1) (D_going_n2 hk (Or.inl g2) ⟨rfl, h.flt 0⟩)
  rcases okW_dec 5 (by omega) e with ow | ow
  · exact C_going_n2 hk (Or.inr ⟨⟨z, hz, rfl⟩, ow⟩) (D_going_n2 hk (Or.inr ⟨⟨z, hz, rfl⟩, ow⟩) ⟨rfl, h.flt 0⟩)
  obtain ⟨s1, ⟨le, hle, e1, e2⟩, s3⟩ := id (hs k hk)
  have hag := ft_ag (hs k hk) (nI z) c d
  have f30 : ∀ v, mset M 0 8 v 30 = M 30 := fun v => ms_n (by omega)
  have f31 : ∀ v, mset M 0 8 v 31 = M 31 := fun v => ms_n (by omega)
  rcases Decidable.em (¬ ftF (M (2 + k) 1) (M (2 + k) 2) (M (2 + k) 3) (nI z) c d = 0) with cf | cf
  · refine C_going_n3 hk hz ow cf (D_going_n3 hk hz ow (by rw [f30, f31, hag]; exact cf) ?_)
    rw [f30, f31, hag]
    exact ⟨rfl, h.flt _⟩
  replace cf := Decidable.not_not.mp cf
  have cf' := cf
  rw [e1] at cf'
  obtain ⟨i, p, rfl, rfl, hip, -, -⟩ := ft_zero hle cf'
  rcases Nat.eq_zero_or_pos n with hn0 | hn0
  · subst hn0
    exact C_going_n4 hk hz ow cf h4 (D_going_n4 hk hz ow (by rw [f30, f31, hag]; exact cf) h5 ⟨rfl, h.flt 0⟩)
  have ecells : ∀ P : (Nat → Int32) → Prop, (∀ f, (∀ j, j < p → f j = M (6 + k) (i + j)) → P f) → True := fun _ _ => trivial
  have eord : ∀ j, j ≤ p → ordF (fun j => M 32 (60 * k + i + j)) m j = ordF (fun j => M (6 + k) (i + j)) m j := by
    intro j
    induction j with
    | zero => intro _; rfl
    | succ j ih =>
      intro hj
      rw [ordF_succ, ordF_succ, ih (by omega)]
      have : M (6 + k) (i + j) = M 32 (60 * k + i + j) := by
        rw [s1 (i + j) (by omega)]
        congr 1
        omega
      rw [this]
  cases ho : ordF (fun j => M (6 + k) (i + j)) m p with
  | none =>
    refine C_going_n5 hk hz ow cf (by omega) h1 hn0 h2 h4 h6 ho (D_going_n5 (m := m) hk hz ow (by rw [f30, f31, hag]; exact cf) (by omega) hn0 h1 h2 h5 h7 ?_ ⟨rfl, h.flt 0⟩)
    rw [ms_n (show 32 ≠ 0 by omega), eord p (Nat.le_refl p)]
    exact ho
  | some L =>
    refine C_going_y hk hz ow cf (by omega) h1 hn0 h2 h4 h6 ho (fun M1 fr => ?_)
    have g30 : M1 30 = M 30 := by rw [fr.r (fun _ => rfl), ms_n (by decide)]
    have g31 : M1 31 = M 31 := by rw [fr.r (fun _ => rfl), ms_n (by decide)]
    have g32 : M1 32 = M 32 := by rw [fr.r (fun _ => rfl), ms_n (by decide)]
    have eD : dM M1 = dC M := by
      rw [fr.dM, ← dM_eq hw]
      funext j
      match j with
      | 0 => rfl
      | 1 => rfl
      | 2 => rfl
      | 3 => rfl
      | 4 => rfl
      | _ + 5 => rfl
    refine D_going_y (m := m) (L := L) hk hz ow (by rw [g30, g31, hag]; exact cf) (by omega) hn0 h1 h2 ?_ ?_ (by rw [eD]; exact okD_of hw) ?_ (fun M2 fr2 => ⟨?_, h.end2 0 fr fr2⟩)
    · rw [fr 29 5 rfl, ms_n (by decide)]; exact h5
    · rw [fr 29 6 rfl, ms_n (by decide)]; exact h7
    · rw [g32, eord p (Nat.le_refl p)]; exact ho
    · rw [eD]
