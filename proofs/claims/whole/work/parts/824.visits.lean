theorem D_visits_n1 {M : Mem} {R : Int32 → Mem → Prop} {a b c d e : Int32} (ha : a < 0 ∨ (¬ a < 0 ∧ 3 < a)) (h : R (-1) (mset M 29 0 0)) : wp_Model_visits a b c d e M R := by
  intro X hX M22 e22
  rw [e22, e_isSheet_n ha]
  exact ⟨fun q => absurd rfl q, fun _ => h⟩
theorem okV_within {e : Int32} (h : okV e) (M : Mem) (R : Int32 → Mem → Prop) (k : R 1 M) (k2 : wp_Model_within e 10 15 M (fun r36 M35 => ((¬ r36 = (0 : Int32) → R 1 M35) ∧ (r36 = (0 : Int32) → R 0 M35)))  → R 1 M) : True := trivial
theorem e01 (e : Int32) : (e = 0 ∨ e = 1) ∨ ((e < 0 ∨ (¬ e < 0 ∧ 1 < e)) ∧ ¬ e = 0 ∧ ¬ e = 1) := by
  rcases what_cl e with ⟨-, g⟩ | ⟨k, hk, rfl, -, -⟩
  · refine Or.inr ⟨g, fun z => ?_, fun z => ?_⟩
    · rw [z] at g; rcases g with g | ⟨-, g⟩ <;> exact absurd g (by decide)
    · rw [z] at g; rcases g with g | ⟨-, g⟩ <;> exact absurd g (by decide)
  · rcases (show k = 0 ∨ k = 1 by omega) with rfl | rfl
    · exact Or.inl (Or.inl rfl)
    · exact Or.inl (Or.inr rfl)
theorem D_visits_n2 {k : Nat} (hk : k < 4) {M : Mem} {R : Int32 → Mem → Prop} {b c d e : Int32} (hb : (b < 0 ∨ (¬ b < 0 ∧ 2 < b)) ∨ ((∃ z, z < 3 ∧ b = nI z) ∧ ((d < 0 ∨ (¬ d < 0 ∧ 20 < d)) ∨ ((∃ p, p < 21 ∧ d = nI p) ∧ ¬ okV e)))) (h : R (-2) (mset M 29 0 0)) : wp_Model_visits (nI k) b c d e M R := by
  intro X hX M22 e22
  rw [e22, e_isSheet_y hk]
  refine ⟨fun _ => ?_, fun q => absurd q (by decide)⟩
  rcases hb with hb | ⟨⟨z, hz, rfl⟩, hd | ⟨⟨p, hp, rfl⟩, hw⟩⟩
  · rw [e_isSort_n hb]
    exact ⟨fun _ => h, fun q => absurd rfl q⟩
  · rw [e_isSort_y hz]
    refine ⟨fun q => absurd q (by decide), fun _ => ?_⟩
    rw [e_within_n hd]
    exact ⟨fun _ => h, fun q => absurd rfl q⟩
  · rw [e_isSort_y hz]
    refine ⟨fun q => absurd q (by decide), fun _ => ?_⟩
    rw [e_within_y (c := (20 : Int32)) (nI_pos (by omega)) (show ¬ (20 : Int32) < nI p from nI_nlt (a := 20) (b := p) (by omega) (by omega))]
    refine ⟨fun q => absurd q (by decide), fun _ => ?_⟩
    rcases e01 e with (q | q) | ⟨g, -, -⟩
    · exact absurd (Or.inl q) hw
    · exact absurd (Or.inr (Or.inl q)) hw
    · rw [e_within_n g]
      refine ⟨fun q => absurd rfl q, fun _ => ?_⟩
      rcases wh_cl (N := 6) (B := 6) (T := 15) rfl rfl (by omega) e with ⟨w, hww, ee, -, -, -⟩ | ⟨-, g2, -⟩
      · exact absurd (Or.inr (Or.inr ⟨w, hww, ee⟩)) hw
      · rw [e_within_n2 g2]
        exact ⟨fun q => absurd rfl q, fun _ => h⟩
theorem D_visits_b {k z p : Nat} (hk : k < 4) (hz : z < 3) (hp : p < 21) {M : Mem} {R : Int32 → Mem → Prop} {c e : Int32} (hw : okV e) (h : ∀ X, (∀ (x4 : Int32) (x5 : Int32) (x7 : Int32) (x8 : Int32) (M : Mem), wp_Model_visits_103 X R x4 x5 x7 x8 M → X x4 x5 x7 x8 M) → wp_Model_against (nI k) (nI z) c (nI (2 * p)) (mset M 29 0 0) (fun r2 M1 => ((r2 = (0 : Int32) → (((¬ (M1 29 5) = (0 : Int32) → (∀ x7_5 : Int32, x7_5 = ((60 : Int32) * nI k) + c → X (nI p) e x7_5 (0 : Int32) M1)) ∧ ((M1 29 5) = (0 : Int32) → (R (-3 : Int32) M1))))) ∧ (¬ (r2 = (0 : Int32)) → (wp_Model_fails r2 M1 (fun r7 M6 => R r7 M6)))))) : wp_Model_visits (nI k) (nI z) c (nI p) e M R := by
  intro X hX M22 e22
  have e2 : (2 : Int32) * nI p = nI (2 * p) := pk_mul 2 p
  have body : wp_Model_visits_57 X R (nI k) (nI z) c (nI p) e (mset M 29 0 0) := by
    unfold wp_Model_visits_57
    rw [e2]
    exact h X hX
  rw [e22, e_isSheet_y hk]
  refine ⟨fun _ => ?_, fun q => absurd q (by decide)⟩
  rw [e_isSort_y hz]
  refine ⟨fun q => absurd q (by decide), fun _ => ?_⟩
  rw [e_within_y (c := (20 : Int32)) (nI_pos (by omega)) (show ¬ (20 : Int32) < nI p from nI_nlt (a := 20) (b := p) (by omega) (by omega))]
  refine ⟨fun q => absurd q (by decide), fun _ => ?_⟩
  rcases e01 e with q | ⟨g, n0, n1⟩
  · have hq : ¬ e < 0 ∧ ¬ 1 < e := by
      rcases q with q | q <;> rw [q] <;> decide
    rw [e_within_y hq.1 hq.2]
    exact ⟨fun _ => body, fun q => absurd q (by decide)⟩
  · rw [e_within_n g]
    refine ⟨fun q => absurd rfl q, fun _ => ?_⟩
    rcases wh_cl (N := 6) (B := 6) (T := 15) rfl rfl (by omega) e with ⟨w, hww, ee, -, w1, w2⟩ | ⟨-, -, g3⟩
    · rw [e_within_y w1 w2]
      exact ⟨fun _ => body, fun q => absurd q (by decide)⟩
    · rcases hw with q | q | ⟨w, hww, ee⟩
      · exact absurd q n0
      · exact absurd q n1
      · exact absurd ee (g3 w hww)
theorem D_visits_n3 {k z p : Nat} (hk : k < 4) (hz : z < 3) (hp : p < 21) {M : Mem} {R : Int32 → Mem → Prop} {c e : Int32} (hw : okV e) (hf : ¬ agF (M 30 k) (M 31 k) (nI z) c (nI (2 * p)) = 0) (h : R (-10 - agF (M 30 k) (M 31 k) (nI z) c (nI (2 * p))) (mset M 29 0 (agF (M 30 k) (M 31 k) (nI z) c (nI (2 * p))))) : wp_Model_visits (nI k) (nI z) c (nI p) e M R := by
  refine D_visits_b hk hz hp hw (fun X hX => D_ag hk ?_)
  rw [ag0]
  refine ⟨fun q => absurd q hf, fun _ => ?_⟩
  rw [e_fails]
  exact h
theorem D_visits_n4 {k z p : Nat} (hk : k < 4) (hz : z < 3) (hp : p < 21) {M : Mem} {R : Int32 → Mem → Prop} {c e : Int32} (hw : okV e) (hf : agF (M 30 k) (M 31 k) (nI z) c (nI (2 * p)) = 0) (e5 : M 29 5 = nI 0) (h : R (-3) (mset M 29 0 0)) : wp_Model_visits (nI k) (nI z) c (nI p) e M R := by
  refine D_visits_b hk hz hp hw (fun X hX => D_ag hk ?_)
  rw [ag0]
  exact ⟨fun _ => ⟨fun q => absurd e5 q, fun _ => h⟩, fun q => absurd hf q⟩
theorem D_visits_103 {k i p n m : Nat} (hk : k < 4) (hip : i + 2 * p ≤ 60) (hp : p < 21) (hn : n ≤ 6) (hm : m ≤ 5) {M : Mem} {R : Int32 → Mem → Prop} {e : Int32} (e5 : M 29 5 = nI n) (e6 : M 29 6 = nI m) (X : Int32 → Int32 → Int32 → Int32 → Mem → Prop) (hX : ∀ (x4 : Int32) (x5 : Int32) (x7 : Int32) (x8 : Int32) (M : Mem), wp_Model_visits_103 X R x4 x5 x7 x8 M → X x4 x5 x7 x8 M) (kn : ¬ vsF (fun j => M 32 (60 * k + i + j)) n m p = 0 → R (vsF (fun j => M 32 (60 * k + i + j)) n m p) M) (ky : vsF (fun j => M 32 (60 * k + i + j)) n m p = 0 → wp_Model_visitAll (nI (60 * k + i)) (nI p) e M R) : X (nI p) e (nI (60 * k + i)) 0 M := by
  have ix : ∀ j, nI (60 * k + i) + 2 * nI j = nI (60 * k + i + 2 * j) := fun j => by
    rw [← nI_add (60 * k + i), ← pk_mul]; rfl
  have key : ∀ (d j : Nat), j + d = p → vsF (fun j => M 32 (60 * k + i + j)) n m j = 0 → X (nI p) e (nI (60 * k + i)) (nI j) M := by
    intro d
    induction d with
    | zero =>
      intro j hj hv
      have : j = p := by omega
      subst this
      exact hX _ _ _ _ _ ⟨fun _ => ky hv, fun q => absurd (Int32.le_refl _) q⟩
    | succ d ih =>
      intro j hj hv
      have hs := vsF_succ (fun j => M 32 (60 * k + i + j)) n m j
      rw [if_pos hv] at hs
      have bad : ∀ v, vsF (fun j => M 32 (60 * k + i + j)) n m (j + 1) = v → ¬ v = 0 → R v M := by
        intro v hv hv0
        have := vsF_bad hv hv0 d
        have e : j + 1 + d = p := by omega
        rw [e] at this
        rw [this] at kn
        exact kn hv0
      unfold chk at hs
      dsimp only at hs
      have i2 : 60 * k + i + (2 * j + 1) = 60 * k + i + 2 * j + 1 := by omega
      simp only [i2] at hs
      refine hX _ _ _ _ _ ⟨fun q => absurd q (nI_ge (by omega) (by omega)), fun _ => ?_⟩
      unfold wp_Model_allGuests
      rw [ix, nI_1, nI_clamp (by omega), nI_clamp (by omega), e6, ev_pow m (by omega)]
      refine ⟨vp_in_nI (by omega) (by omega), ?_⟩
      rcases pty_cl hm (M 32 (60 * k + i + 2 * j)) with ⟨a, ha, ea, c, w1, w2⟩ | ⟨c, g⟩
      · rw [if_pos c] at hs
        rw [e_within_y w1 w2]
        refine ⟨fun _ => ⟨vp_in_nI (by omega) (by omega), ?_⟩, fun q => absurd q (by decide)⟩
        rcases cl0 (N := nI n) rfl (by omega) (M 32 (60 * k + i + 2 * j + 1)) with q | ⟨q, q2⟩ | ⟨z, hz, ez, v1, v2, -⟩
        · rw [if_pos q] at hs
          exact ⟨fun _ => ⟨fun q => absurd rfl q, fun _ => bad _ hs (by decide)⟩, fun z => absurd q z⟩
        · rw [if_neg q, if_pos q2] at hs
          exact ⟨fun z => absurd z q, fun _ => ⟨fun _ => ⟨fun q => absurd rfl q, fun _ => bad _ hs (by decide)⟩, fun z => absurd (by rw [e5]; exact q2) z⟩⟩
        · rw [ez] at hs ⊢
          rw [if_neg v1, if_neg v2] at hs
          refine ⟨fun z => absurd z v1, fun _ => ⟨fun z => absurd (by rw [e5] at z; exact z) v2, fun _ => ⟨fun _ => ?_, fun q => absurd q (by decide)⟩⟩⟩
          intro y ey
          rw [ey, nI_1]
          exact ih (j + 1) (by omega) hs
      · rw [if_neg c] at hs
        rw [e_within_n g]
        exact ⟨fun q => absurd rfl q, fun _ => bad _ hs (by decide)⟩
  exact key p 0 (by omega) rfl
theorem D_visits_n5 {k z i p n m : Nat} (hk : k < 4) (hz : z < 3) (hp : p < 21) {M : Mem} {R : Int32 → Mem → Prop} {e : Int32} (hw : okV e) (hf : agF (M 30 k) (M 31 k) (nI z) (nI i) (nI (2 * p)) = 0) (hip : i + 2 * p ≤ 60) (h0 : 0 < n) (hn : n ≤ 6) (hm : m ≤ 5) (e5 : M 29 5 = nI n) (e6 : M 29 6 = nI m) (ho : ¬ vsF (fun j => M 32 (60 * k + i + j)) n m p = 0) (h : R (vsF (fun j => M 32 (60 * k + i + j)) n m p) (mset M 29 0 0)) : wp_Model_visits (nI k) (nI z) (nI i) (nI p) e M R := by
  refine D_visits_b hk hz hp hw (fun X hX => D_ag hk ?_)
  rw [ag0]
  refine ⟨fun _ => ⟨fun _ => ?_, fun q => absurd (by rw [ms_s, up_n (by decide), e5] at q; exact q) (nI_ne0 h0 (by omega))⟩, fun q => absurd hf q⟩
  intro x7 ex7
  rw [ex7, ix60]
  refine D_visits_103 (n := n) (m := m) hk hip hp hn hm (by rw [ms_s, up_n (by decide)]; exact e5) (by rw [ms_s, up_n (by decide)]; exact e6) X hX ?_ ?_
  · rw [ms_n (show 32 ≠ 29 by omega)]
    intro _
    exact h
  · rw [ms_n (show 32 ≠ 29 by omega)]
    intro q
    exact absurd q ho
theorem D_visitAll {k i p n m : Nat} (hk : k < 4) (hip : i + 2 * p ≤ 60) (hp : p < 21) (hn : n ≤ 6) (hm : m ≤ 5) {M : Mem} {R : Int32 → Mem → Prop} {e : Int32} (hw : okV e) (e5 : M 29 5 = nI n) (e6 : M 29 6 = nI m) (okd : okD (dM M) n m) (ho : vsF (fun j => M 32 (60 * k + i + j)) n m p = 0) (h : ∀ M', MF M M' → R (voA n (vsts (dM M) m (fun j => M 32 (60 * k + i + j)) p) e) M') : wp_Model_visitAll (nI (60 * k + i)) (nI p) e M R := by
  intro X hX
  have ix : ∀ j, nI (60 * k + i) + 2 * nI j = nI (60 * k + i + 2 * j) := fun j => by
    rw [← nI_add (60 * k + i), ← pk_mul]; rfl
  have hgood := vsF_good p ho
  have hok := vsts_ok (D := dM M) hn hm hgood
  have key : ∀ (d j : Nat), j + d = p → ∀ M1, MF M M1 → MV n (vsts (dM M) m (fun j => M 32 (60 * k + i + j)) j) M1 → X (nI (60 * k + i)) (nI p) e (vsts (dM M) m (fun j => M 32 (60 * k + i + j)) j).2.2 (nI j) M1 := by
    intro d
    induction d with
    | zero =>
      intro j hj M1 fr hv
      have : j = p := by omega
      subst this
      obtain ⟨v1, v2⟩ := hv
      have fin := h M1 fr
      unfold voA at fin
      have g5 : M1 29 5 = nI n := by rw [fr.2 5 (by decide)]; exact e5
      refine hX _ _ _ _ _ _ ⟨fun _ => ⟨fun c2 => ?_, fun c2 => ⟨fun c0 => ?_, fun c0 => ?_⟩⟩, fun q => absurd (Int32.le_refl _) q⟩
      · have c0 : ¬ e = 0 := fun z => by rw [z] at c2; exact absurd c2 (by decide)
        have c1 : ¬ e = 1 := fun z => by rw [z] at c2; exact absurd c2 (by decide)
        rw [if_neg c0, if_neg c1] at fin
        obtain ⟨w, hw6, ew⟩ : ∃ w, w < 6 ∧ e - 10 = nI w := by
          rcases hw with q | q | ⟨w, hw6, ee⟩
          · exact absurd q c0
          · exact absurd q c1
          · exact ⟨w, hw6, by rw [ee]; exact pk_sub (a := w + 10) (b := 10) (by omega)⟩
        rw [ew, nI_clamp (by omega)] at fin
        rw [ew, nI_clamp (by omega)]
        rcases Nat.lt_or_ge w n with hwn | hwn
        · rw [if_pos hwn] at fin
          refine ⟨fun q => absurd q (nI_pos (by omega)), fun _ => ⟨fun q => absurd q (by rw [g5]; exact nI_ge hwn (by omega)), fun _ => ⟨fun q => absurd q (by decide), fun _ => ⟨vp_in_nI hw6 (by omega), ?_⟩⟩⟩⟩
          rw [v1 w hwn]
          exact fin
        · rw [if_neg (by omega)] at fin
          exact ⟨fun q => absurd q (nI_pos (by omega)), fun _ => ⟨fun _ => ⟨fun _ => fin, fun q => absurd rfl q⟩, fun q => absurd (by rw [g5]; exact nI_le hwn (by omega)) q⟩⟩
      · have c1 : e = 1 := by
          rcases hw with q | q | ⟨w, hw6, ee⟩
          · exact absurd q c0
          · exact q
          · exfalso
            rw [ee] at c2
            exact c2 (nI_le (a := 2) (b := w + 10) (by omega) (by omega))
        rw [if_neg c0, if_pos c1] at fin
        exact fin
      · rw [if_pos c0] at fin
        rw [v2]
        exact fin
    | succ d ih =>
      intro j hj M1 fr hv
      obtain ⟨⟨a, ha, ea⟩, y, hy, ey⟩ := chk_good hn hm (hgood j (by omega))
      have ec : M1 32 = M 32 := fr.1 32 (by decide) (by decide) (by decide)
      have eD : dM M1 = dM M := fr.dM
      have i2 : 60 * k + i + 2 * j + 1 = 60 * k + i + (2 * j + 1) := by omega
      refine hX _ _ _ _ _ _ ⟨fun q => absurd q (nI_ge (by omega) (by omega)), fun _ => ?_⟩
      rw [ix, nI_1, nI_clamp (by omega), nI_clamp (by omega), ec, ea, i2, ey]
      refine ⟨vp_in_nI (by omega) (by omega), vp_in_nI (by omega) (by omega), D_visitS (n := n) (m := m) (p := j) hn hm ha hy (by rw [fr.2 6 (by decide)]; exact e6) (by rw [eD]; exact okd) (hok j (by omega)) hv (fun r M2 fr2 hv2 hl => ?_)⟩
      rw [eD] at hv2 hl
      have nx := ih (j + 1) (by omega) M2 (fr.tr fr2) (by
        rw [vsts_succ, ea, ey, nI_clamp (by omega), nI_clamp (by omega)]
        exact hv2)
      rw [vsts_succ, ea, ey, nI_clamp (by omega), nI_clamp (by omega), hl] at nx
      refine ⟨fun c1 => ?_, fun c1 => ⟨fun c2 => ?_, fun c2 => ?_⟩⟩
      · rw [if_neg c1] at nx
        intro w ew
        rw [ew, nI_1]
        exact nx
      · rw [if_pos c1, if_pos c2] at nx
        intro w ew
        rw [ew, nI_1]
        exact nx
      · rw [if_pos c1, if_neg c2] at nx
        intro w ew
        rw [ew, nI_1]
        exact nx
  refine D_begin hn hm e5 e6 (fun M1 f1 f2 f3 f4 => ?_)
  exact key p 0 (by omega) M1 f1 ⟨f2, f4⟩
theorem D_visits_y {k z i p n m : Nat} (hk : k < 4) (hz : z < 3) (hp : p < 21) {M : Mem} {R : Int32 → Mem → Prop} {e : Int32} (hw : okV e) (hf : agF (M 30 k) (M 31 k) (nI z) (nI i) (nI (2 * p)) = 0) (hip : i + 2 * p ≤ 60) (h0 : 0 < n) (hn : n ≤ 6) (hm : m ≤ 5) (e5 : M 29 5 = nI n) (e6 : M 29 6 = nI m) (okd : okD (dM M) n m) (ho : vsF (fun j => M 32 (60 * k + i + j)) n m p = 0) (h : ∀ M', SE (mset M 29 0 0) M' → R (voA n (vsts (dM M) m (fun j => M 32 (60 * k + i + j)) p) e) M') : wp_Model_visits (nI k) (nI z) (nI i) (nI p) e M R := by
  refine D_visits_b hk hz hp hw (fun X hX => D_ag hk ?_)
  rw [ag0]
  have ez : dM (mset M 29 0 0) = dM M := by
    funext j
    match j with
    | 0 => rfl
    | 1 => rfl
    | 2 => rfl
    | 3 => rfl
    | 4 => rfl
    | _ + 5 => rfl
  have f5 : mset M 29 0 0 29 5 = nI n := by rw [ms_s, up_n (by decide)]; exact e5
  have f6 : mset M 29 0 0 29 6 = nI m := by rw [ms_s, up_n (by decide)]; exact e6
  refine ⟨fun _ => ⟨fun _ => ?_, fun q => absurd (by rw [f5] at q; exact q) (nI_ne0 h0 (by omega))⟩, fun q => absurd hf q⟩
  intro x7 ex7
  rw [ex7, ix60]
  have e32 : mset M 29 0 0 32 = M 32 := ms_n (by omega)
  refine D_visits_103 (n := n) (m := m) hk hip hp hn hm f5 f6 X hX ?_ ?_
  · rw [e32]
    intro q
    exact absurd ho q
  · intro _
    refine D_visitAll (n := n) (m := m) hk hip hp hn hm hw f5 f6 (by rw [ez]; exact okd) (by rw [e32]; exact ho) (fun M' fr => ?_)
    rw [ez, e32]
    exact h M' fr.se
theorem vsF_cong {f f' : Nat → Int32} {n m : Nat} : ∀ p, (∀ j, j < 2 * p → f j = f' j) → vsF f n m p = vsF f' n m p := by
  intro p
  induction p with
  | zero => intro _; rfl
  | succ p ih =>
    intro h
    rw [vsF_succ, vsF_succ, ih (fun j hj => h j (by omega))]
    unfold chk
    rw [h (2 * p) (by omega), h (2 * p + 1) (by omega)]
theorem vsts_cong {D : Mem} {f f' : Nat → Int32} {m : Nat} : ∀ p, (∀ j, j < 2 * p → f j = f' j) → vsts D m f p = vsts D m f' p := by
  intro p
  induction p with
  | zero => intro _; rfl
  | succ p ih =>
    intro h
    rw [vsts_succ, vsts_succ, ih (fun j hj => h j (by omega)), h (2 * p) (by omega), h (2 * p + 1) (by omega)]
theorem st_visits : St_visits Inv := by
  intro a b c d e M h
  obtain ⟨⟨n, m, cc, hw, hr⟩, hf, hs⟩ := id h
  obtain ⟨h1, h2, h3, h4, h5, h6, h7, h8, h9, h10, h11, h12, h13, h14, h15, h16⟩ := id hw
  rcases sh_cl a with ⟨g1, g2⟩ | ⟨k, hk, rfl⟩
  · exact C_visits_n1 g1 (D_visits_n1 g2 ⟨rfl, h.flt 0⟩)
  rcases lane_cl b with ⟨g1, g2⟩ | ⟨z, hz, rfl⟩
  · exact C_visits_n2 hk (Or.inl g1) (D_visits_n2 hk (Or.inl g2) ⟨rfl, h.flt 0⟩)
  rcases num_cl d with ⟨g1, g2⟩ | ⟨p, hp, rfl, -, -⟩
  · exact C_visits_n2 hk (Or.inr ⟨⟨z, hz, rfl⟩, Or.inl g1⟩) (D_visits_n2 hk (Or.inr ⟨⟨z, hz, rfl⟩, Or.inl g2⟩) ⟨rfl, h.flt 0⟩)
  by_cases ow : okV e
  · obtain ⟨s1, ⟨le, hle, e1, e2⟩, s3⟩ := id (hs k hk)
    have hag := ft_ag (hs k hk) (nI z) c (nI (2 * p))
    have f30 : ∀ v, mset M 0 8 v 30 = M 30 := fun v => ms_n (by omega)
    have f31 : ∀ v, mset M 0 8 v 31 = M 31 := fun v => ms_n (by omega)
    by_cases cf : ftF (M (2 + k) 1) (M (2 + k) 2) (M (2 + k) 3) (nI z) c (nI (2 * p)) = 0
    · have cf' := cf
      rw [e1] at cf'
      obtain ⟨i, p2, rfl, ep2, hip, -, -⟩ := ft_zero hle cf'
      have hp2 : 2 * p = p2 := (nI_eq (by omega) (by omega)).mp ep2
      rcases Nat.eq_zero_or_pos n with hn0 | hn0
      · subst hn0
        exact C_visits_n4 hk hz hp ow cf h4 (D_visits_n4 hk hz hp ow (by rw [f30, f31, hag]; exact cf) h5 ⟨rfl, h.flt 0⟩)
      have hcell : ∀ j, j < 2 * p → M 32 (60 * k + i + j) = M (6 + k) (i + j) := by
        intro j hj
        rw [s1 (i + j) (by omega)]
        congr 1
        omega
      by_cases ho : vsF (fun j => M (6 + k) (i + j)) n m p = 0
      · refine C_visits_y hk hz hp ow cf (by omega) h1 hn0 h2 h4 h6 ho (fun M1 fr => ?_)
        have g30 : M1 30 = M 30 := by rw [fr.r (fun _ => rfl), ms_n (by decide)]
        have g31 : M1 31 = M 31 := by rw [fr.r (fun _ => rfl), ms_n (by decide)]
        have g32 : M1 32 = M 32 := by rw [fr.r (fun _ => rfl), ms_n (by decide)]
        have eD : dM M1 = dC M := by
          rw [fr.dM, ← dM_eq hw]
          funext j
          match j with
          | 0 => rfl
          | 1 => rfl
          | 2 => rfl
          | 3 => rfl
          | 4 => rfl
          | _ + 5 => rfl
        refine D_visits_y (n := n) (m := m) hk hz hp ow (by rw [g30, g31, hag]; exact cf) (by omega) hn0 h1 h2 ?_ ?_ (by rw [eD]; exact okD_of hw) ?_ (fun M2 fr2 => ⟨?_, h.end2 0 fr fr2⟩)
        · rw [fr 29 5 rfl, ms_n (by decide)]; exact h5
        · rw [fr 29 6 rfl, ms_n (by decide)]; exact h7
        · rw [g32, vsF_cong p hcell]; exact ho
        · rw [g32, eD, vsts_cong p hcell]
      · refine C_visits_n5 hk hz hp ow cf (by omega) h1 hn0 h2 h4 h6 ho (D_visits_n5 (n := n) (m := m) hk hz hp ow (by rw [f30, f31, hag]; exact cf) (by omega) hn0 h1 h2 h5 h7 ?_ ⟨?_, h.flt 0⟩)
        · rw [ms_n (show 32 ≠ 0 by omega), vsF_cong p hcell]; exact ho
        · rw [ms_n (show 32 ≠ 0 by omega), vsF_cong p hcell]
    · refine C_visits_n3 hk hz hp ow cf (D_visits_n3 hk hz hp ow (by rw [f30, f31, hag]; exact cf) ?_)
      rw [f30, f31, hag]
      exact ⟨rfl, h.flt _⟩
  · exact C_visits_n2 hk (Or.inr ⟨⟨z, hz, rfl⟩, Or.inr ⟨⟨p, hp, rfl⟩, ow⟩⟩) (D_visits_n2 hk (Or.inr ⟨⟨z, hz, rfl⟩, Or.inr ⟨⟨p, hp, rfl⟩, ow⟩⟩) ⟨rfl, h.flt 0⟩)
