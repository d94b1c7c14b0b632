def okV (e : Int32) : Prop := e = 0 ∨ e = 1 ∨ ∃ w, w < 6 ∧ e = nI (w + 10)
def voA (n : Nat) (s : (Nat → Int32) × Nat × Int32) (e : Int32) : Int32 := if e = 0 then nI s.2.1 else if e = 1 then s.2.2 else if (e - 10).toNatClampNeg < n then s.1 (e - 10).toNatClampNeg else -9
theorem num_cl (a : Int32) : ((a < 0 ∨ (¬ a < 0 ∧ 21 ≤ a)) ∧ (a < 0 ∨ (¬ a < 0 ∧ 20 < a))) ∨ ∃ k, k < 21 ∧ a = nI k ∧ ¬ nI k < 0 ∧ ¬ (20 : Int32) < nI k := by
  rcases cl (N := 21) (N1 := 20) (n := 21) (n1 := 20) rfl rfl rfl (by decide) a with q | ⟨q, q2, q3⟩ | ⟨k, hk, e, w1, w2, w3, -⟩
  · exact Or.inl ⟨Or.inl q, Or.inl q⟩
  · exact Or.inl ⟨Or.inr ⟨q, q2⟩, Or.inr ⟨q, q3⟩⟩
  · exact Or.inr ⟨k, hk, e, w1, w3⟩
theorem C_visits_n1 {M : Mem} {R : Int32 → Mem → Prop} {a b c d e : Int32} (ha : a < 0 ∨ (¬ a < 0 ∧ 4 ≤ a)) (h : R (-1) (mset M 0 8 0)) : wp_Main_visits a b c d e M R := by
  intro X hX M27 e27
  rw [e27, e_sheetOf_n ha]
  exact ⟨fun _ => h, fun q z => (by cases z)⟩
theorem C_visits_h {k : Nat} (hk : k < 4) {M : Mem} {R : Int32 → Mem → Prop} {b c d e : Int32} (h1 : okV e → ∀ X, (∀ (x3 : Int32) (x4 : Int32) (x5 : Int32) (u6 : Nat) (x10 : Int32) (M : Mem), wp_Main_visits_143 X R x3 x4 x5 u6 x10 M → X x3 x4 x5 u6 x10 M) → wp_Main_visits_48 X R b c d e k 1 (mset M 0 8 0)) (h2 : ¬ okV e → ∀ X, wp_Main_visits_48 X R b c d e k 0 (mset M 0 8 0)) : wp_Main_visits (nI k) b c d e M R := by
  intro X hX M27 e27
  rw [e27, e_sheetOf_y hk]
  refine ⟨fun z => (by cases z), fun q eq hq => ?_⟩
  obtain rfl := Option.some.inj eq
  refine ⟨fun e0 => ⟨hk, h1 (Or.inl e0) X hX⟩, fun e0 => ⟨fun e1 => ⟨hk, h1 (Or.inr (Or.inl e1)) X hX⟩, fun e1 => ?_⟩⟩
  rcases wh_cl (N := 6) (B := 6) (T := 15) rfl rfl (by omega) e with ⟨w, hw, ee, ew, -, -⟩ | ⟨g1, -, g3⟩
  · rw [ew, e_isBelow_y (N := 6) (n := 6) rfl hw (by omega)]
    exact ⟨fun z => absurd z (by decide), fun _ => ⟨hk, h1 (Or.inr (Or.inr ⟨w, hw, ee⟩)) X hX⟩⟩
  · rw [e_isBelow_n g1]
    refine ⟨fun _ => h2 (fun ok => ?_) X, fun z => absurd rfl z⟩
    rcases ok with ok | ok | ⟨w, hw, ee⟩
    · exact e0 ok
    · exact e1 ok
    · exact g3 w hw ee
theorem C_visits_n2 {k : Nat} (hk : k < 4) {M : Mem} {R : Int32 → Mem → Prop} {b c d e : Int32} (hb : (b < 0 ∨ (¬ b < 0 ∧ 3 ≤ b)) ∨ ((∃ z, z < 3 ∧ b = nI z) ∧ ((d < 0 ∨ (¬ d < 0 ∧ 21 ≤ d)) ∨ ((∃ p, p < 21 ∧ d = nI p) ∧ ¬ okV e)))) (h : R (-2) (mset M 0 8 0)) : wp_Main_visits (nI k) b c d e M R := by
  rcases hb with hb | ⟨⟨z, hz, rfl⟩, hd | ⟨⟨p, hp, rfl⟩, hw⟩⟩
  · refine C_visits_h hk (fun _ X hX => ⟨hk, ?_⟩) (fun _ X => ⟨hk, ?_⟩)
    · rw [e_isBelow_n hb]; exact ⟨fun _ => h, fun z => absurd rfl z⟩
    · rw [e_isBelow_n hb]; exact ⟨fun _ => h, fun z => absurd rfl z⟩
  · refine C_visits_h hk (fun _ X hX => ⟨hk, ?_⟩) (fun _ X => ⟨hk, ?_⟩)
    · rw [e_isBelow_y (N := 3) (n := 3) rfl hz (by omega)]
      refine ⟨fun z => absurd z (by decide), fun _ => ?_⟩
      rw [e_isBelow_n hd]; exact ⟨fun _ => h, fun z => absurd rfl z⟩
    · rw [e_isBelow_y (N := 3) (n := 3) rfl hz (by omega)]
      refine ⟨fun z => absurd z (by decide), fun _ => ?_⟩
      rw [e_isBelow_n hd]; exact ⟨fun _ => h, fun z => absurd rfl z⟩
  · refine C_visits_h hk (fun ok => absurd ok hw) (fun _ X => ⟨hk, ?_⟩)
    rw [e_isBelow_y (N := 3) (n := 3) rfl hz (by omega)]
    refine ⟨fun z => absurd z (by decide), fun _ => ?_⟩
    rw [e_isBelow_y (N := 21) (n := 21) rfl hp (by omega)]
    exact ⟨fun z => absurd z (by decide), fun _ => ⟨fun z => absurd rfl z, fun _ => h⟩⟩
theorem C_visits_b {k z p : Nat} (hk : k < 4) (hz : z < 3) (hp : p < 21) {M : Mem} {R : Int32 → Mem → Prop} {c e : Int32} (hw : okV e) (h : ∀ X, (∀ (x3 : Int32) (x4 : Int32) (x5 : Int32) (u6 : Nat) (x10 : Int32) (M : Mem), wp_Main_visits_143 X R x3 x4 x5 u6 x10 M → X x3 x4 x5 u6 x10 M) → wp_Sheet_faultOfTaking k (nI z) c (nI (2 * p)) (mset M 0 8 0) (fun r9 M8 => ((r9 = (0 : Int32) → (wp_Way_isTold M8 (fun r12 M11 => ((¬ r12 = (0 : Int32) → (wp_Main_refusalOfPairs k c (nI p) M11 (fun r15 M14 => ((r15 = (0 : Int32) → (wp_Walk_begin M14 (fun M17 => X c (nI p) e k (0 : Int32) M17))) ∧ (¬ (r15 = (0 : Int32)) → R r15 M14))))) ∧ (r12 = (0 : Int32) → (R (-3 : Int32) M11)))))) ∧ (¬ (r9 = (0 : Int32)) → (wp_Main_failed r9 M8 (fun r19 M18 => R r19 M18)))))) : wp_Main_visits (nI k) (nI z) c (nI p) e M R := by
  have e2 : (2 : Int32) * nI p = nI (2 * p) := pk_mul 2 p
  refine C_visits_h hk (fun _ X hX => ⟨hk, ?_⟩) (fun nw => absurd hw nw)
  rw [e_isBelow_y (N := 3) (n := 3) rfl hz (by omega)]
  refine ⟨fun z => absurd z (by decide), fun _ => ?_⟩
  rw [e_isBelow_y (N := 21) (n := 21) rfl hp (by omega)]
  refine ⟨fun z => absurd z (by decide), fun _ => ⟨fun _ => ?_, fun z => absurd z (by decide)⟩⟩
  rw [e2]
  exact h X hX
theorem C_visits_n3 {k z p : Nat} (hk : k < 4) (hz : z < 3) (hp : p < 21) {M : Mem} {R : Int32 → Mem → Prop} {c e : Int32} (hw : okV e) (hf : ¬ ftF (M (2 + k) 1) (M (2 + k) 2) (M (2 + k) 3) (nI z) c (nI (2 * p)) = 0) (h : R (-10 - ftF (M (2 + k) 1) (M (2 + k) 2) (M (2 + k) 3) (nI z) c (nI (2 * p))) (mset M 0 8 (ftF (M (2 + k) 1) (M (2 + k) 2) (M (2 + k) 3) (nI z) c (nI (2 * p))))) : wp_Main_visits (nI k) (nI z) c (nI p) e M R := by
  refine C_visits_b hk hz hp hw (fun X hX => C_ft ?_)
  rw [ft0]
  refine ⟨fun q => absurd q hf, fun _ => ?_⟩
  rw [e_failed]
  exact h
theorem C_visits_n4 {k z p : Nat} (hk : k < 4) (hz : z < 3) (hp : p < 21) {M : Mem} {R : Int32 → Mem → Prop} {c e : Int32} (hw : okV e) (hf : ftF (M (2 + k) 1) (M (2 + k) 2) (M (2 + k) 3) (nI z) c (nI (2 * p)) = 0) (e5 : M 12 5 = nI 0) (h : R (-3) (mset M 0 8 0)) : wp_Main_visits (nI k) (nI z) c (nI p) e M R := by
  refine C_visits_b hk hz hp hw (fun X hX => C_ft ?_)
  rw [ft0]
  exact ⟨fun _ => C_told0 e5 ⟨fun q => absurd rfl q, fun _ => h⟩, fun q => absurd hf q⟩
theorem C_visits_n5 {k z i p n m : Nat} (hk : k < 4) (hz : z < 3) (hp : p < 21) {M : Mem} {R : Int32 → Mem → Prop} {e : Int32} (hw : okV e) (hf : ftF (M (2 + k) 1) (M (2 + k) 2) (M (2 + k) 3) (nI z) (nI i) (nI (2 * p)) = 0) (hip : i + 2 * p ≤ 60) (hn : n ≤ 6) (h0 : 0 < n) (hm : m ≤ 5) (e5 : M 12 5 = nI n) (e6 : M 12 6 = nI m) (ho : ¬ vsF (fun j => M (6 + k) (i + j)) n m p = 0) (h : R (vsF (fun j => M (6 + k) (i + j)) n m p) (mset M 0 8 0)) : wp_Main_visits (nI k) (nI z) (nI i) (nI p) e M R := by
  refine C_visits_b hk hz hp hw (fun X hX => C_ft ?_)
  rw [ft0]
  refine ⟨fun _ => C_told1 hn h0 e5 ⟨fun _ => C_refusal (n := n) (m := m) hk hip hn hm e5 e6 ?_, fun q => absurd q (by decide)⟩, fun q => absurd hf q⟩
  rw [ms_n (show 6 + k ≠ 0 by omega)]
  exact ⟨fun q => absurd q ho, fun _ => h⟩
theorem vsts_ok {D : Mem} {n m : Nat} (hn : n ≤ 6) (hm : m ≤ 5) {f : Nat → Int32} {p : Nat} (hg : ∀ j, j < p → chk f n m j = 0) : ∀ j, j ≤ p → okS (vsts D m f j) := by
  intro j
  induction j with
  | zero => intro _; show 0 < 32; decide
  | succ j ih =>
    intro hj
    rw [vsts_succ]
    obtain ⟨⟨a, ha, ea⟩, z, hz, ez⟩ := chk_good hn hm (hg j (by omega))
    rw [ea, nI_clamp (by omega)]
    exact vst_ok ha (ih (by omega))
theorem C_visits_y {k z i p n m : Nat} (hk : k < 4) (hz : z < 3) (hp : p < 21) {M : Mem} {R : Int32 → Mem → Prop} {e : Int32} (hw : okV e) (hf : ftF (M (2 + k) 1) (M (2 + k) 2) (M (2 + k) 3) (nI z) (nI i) (nI (2 * p)) = 0) (hip : i + 2 * p ≤ 60) (hn : n ≤ 6) (h0 : 0 < n) (hm : m ≤ 5) (e5 : M 12 5 = nI n) (e6 : M 12 6 = nI m) (ho : vsF (fun j => M (6 + k) (i + j)) n m p = 0) (h : ∀ M', SE (mset M 0 8 0) M' → R (voA n (vsts (dC M) m (fun j => M (6 + k) (i + j)) p) e) M') : wp_Main_visits (nI k) (nI z) (nI i) (nI p) e M R := by
  refine C_visits_b hk hz hp hw (fun X hX => C_ft ?_)
  rw [ft0]
  have ez : dC (mset M 0 8 0) = dC M := by
    funext j
    match j with
    | 0 => rfl
    | 1 => rfl
    | 2 => rfl
    | 3 => rfl
    | 4 => rfl
    | _ + 5 => rfl
  have ix : ∀ j, nI i + 2 * nI j = nI (i + 2 * j) := fun j => by
    rw [← nI_add, ← pk_mul]; rfl
  have hgood := vsF_good p ho
  have hok := vsts_ok (D := dC M) hn hm hgood
  have key : ∀ (d j : Nat), j + d = p → ∀ M1, CF (mset M 0 8 0) M1 → CV n (vsts (dC M) m (fun j => M (6 + k) (i + j)) j) M1 → X (nI i) (nI p) e k (nI j) M1 := by
    intro d
    induction d with
    | zero =>
      intro j hj M1 fr hv
      have : j = p := by omega
      subst this
      obtain ⟨v1, v2, v3⟩ := hv
      have fin := h M1 fr.se
      unfold voA at fin
      refine hX _ _ _ _ _ _ ⟨hk, fun _ => ⟨fun c0 => ⟨fun c1 => ?_, fun c1 => ?_⟩, fun c0 => ?_⟩, fun q => absurd (Int32.le_refl _) q⟩
      · rw [if_neg c0, if_neg c1] at fin
        obtain ⟨w, hw6, ew⟩ : ∃ w, w < 6 ∧ e - 10 = nI w := by
          rcases hw with q | q | ⟨w, hw6, ee⟩
          · exact absurd q c0
          · exact absurd q c1
          · exact ⟨w, hw6, by rw [ee]; exact pk_sub (a := w + 10) (b := 10) (by omega)⟩
        rw [ew, nI_clamp (by omega)] at fin
        intro y ey
        rw [ew] at ey
        subst ey
        unfold wp_Way_hasHouse
        have g5 : M1 12 5 = nI n := by rw [fr 12 (by decide) (by decide) (by decide), ms_n (by decide)]; exact e5
        rw [g5, nI_clamp (by omega)]
        rcases Nat.lt_or_ge w n with hwn | hwn
        · rw [if_pos hwn] at fin
          rw [e_isBelow_y rfl hwn (by omega)]
          refine ⟨fun q => absurd q (by decide), fun _ => ⟨vp_in_nI hw6 (by omega), ?_⟩⟩
          rw [v1 w hwn]
          exact fin
        · rw [if_neg (by omega)] at fin
          rw [e_isBelow_n (Or.inr ⟨nI_pos (by omega), nI_le hwn (by omega)⟩)]
          exact ⟨fun _ => fin, fun q => absurd rfl q⟩
      · rw [if_neg c0, if_pos c1] at fin
        rw [v3]
        exact fin
      · rw [if_pos c0] at fin
        rw [v2]
        exact fin
    | succ d ih =>
      intro j hj M1 fr hv
      obtain ⟨⟨a, ha, ea⟩, y, hy, ey⟩ := chk_good hn hm (hgood j (by omega))
      have ec : M1 (6 + k) = M (6 + k) := by rw [fr (6 + k) (by omega) (by omega) (by omega), ms_n (by omega)]
      have eD : dC M1 = dC M := by rw [fr.dC, ez]
      have i2 : i + 2 * j + 1 = i + (2 * j + 1) := by omega
      refine hX _ _ _ _ _ _ ⟨hk, fun q => absurd q (nI_ge (by omega) (by omega)), fun _ => ?_⟩
      rw [ix, nI_1, nI_clamp (by omega), nI_clamp (by omega), ec, ea, i2, ey]
      refine ⟨vp_in_nI (by omega) (by omega), vp_in_nI (by omega) (by omega), C_visit (n := n) (m := m) hn hm ha hy ?_ (hok j (by omega)) hv (fun M2 fr2 hv2 => ?_)⟩
      · rw [fr 12 (by decide) (by decide) (by decide), ms_n (by decide)]; exact e6
      · intro w ew
        rw [ew, nI_1]
        refine ih (j + 1) (by omega) M2 (fr.tr fr2) ?_
        rw [vsts_succ, ea, ey, nI_clamp (by omega), nI_clamp (by omega)]
        rw [eD] at hv2
        exact hv2
  refine ⟨fun _ => C_told1 hn h0 e5 ⟨fun _ => C_refusal (n := n) (m := m) hk hip hn hm e5 e6 ?_, fun q => absurd q (by decide)⟩, fun q => absurd hf q⟩
  rw [ms_n (show 6 + k ≠ 0 by omega), ho]
  refine ⟨fun _ => C_begin (fun M1 f1 f2 f3 f4 f5 f6 => ?_), fun q => absurd rfl q⟩
  exact key p 0 (by omega) M1 f1 ⟨fun h hh => f2 h (by omega), f5, f6⟩
