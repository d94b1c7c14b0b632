def okW (N : Nat) (e : Int32) : Prop := e = 0 ∨ ∃ w, w < N ∧ e = nI (w + 10)
theorem C_going_n1 {M : Mem} {R : Int32 → Mem → Prop} {a b c d e : Int32} (ha : a < 0 ∨ (¬ a < 0 ∧ 4 ≤ a)) (h : R (-1) (mset M 0 8 0)) : wp_Main_going a b c d e M R := by
  intro X hX M23 e23
  rw [e23, e_sheetOf_n ha]
  exact ⟨fun _ => h, fun q z => (by cases z)⟩
/-- the head of going: which way it goes by the lane and by what is asked -/
theorem C_going_h {k : Nat} (hk : k < 4) {M : Mem} {R : Int32 → Mem → Prop} {b c d e : Int32} (h1 : okW 5 e → ∀ X, (∀ (x3 : Int32) (x4 : Int32) (x5 : Int32) (u6 : Nat) (x9 : Int32) (M : Mem), wp_Main_going_119 X R x3 x4 x5 u6 x9 M → X x3 x4 x5 u6 x9 M) → wp_Main_going_41 X R b c d e k 1 (mset M 0 8 0)) (h2 : ¬ okW 5 e → ∀ X, wp_Main_going_41 X R b c d e k 0 (mset M 0 8 0)) : wp_Main_going (nI k) b c d e M R := by
  intro X hX M23 e23
  rw [e23, e_sheetOf_y hk]
  refine ⟨fun z => (by cases z), fun q eq hq => ?_⟩
  obtain rfl := Option.some.inj eq
  refine ⟨fun e0 => ⟨hk, h1 (Or.inl e0) X hX⟩, fun e0 => ?_⟩
  rcases wh_cl (N := 5) (B := 5) (T := 14) rfl rfl (by omega) e with ⟨w, hw, ee, ew, -, -⟩ | ⟨g1, -, g3⟩
  · rw [ew, e_isBelow_y (N := 5) (n := 5) rfl hw (by omega)]
    exact ⟨fun z => absurd z (by decide), fun _ => ⟨hk, h1 (Or.inr ⟨w, hw, ee⟩) X hX⟩⟩
  · rw [e_isBelow_n g1]
    refine ⟨fun _ => h2 (fun ok => ?_) X, fun z => absurd rfl z⟩
    rcases ok with ok | ⟨w, hw, ee⟩
    · exact e0 ok
    · exact g3 w hw ee
theorem C_going_n2 {k : Nat} (hk : k < 4) {M : Mem} {R : Int32 → Mem → Prop} {b c d e : Int32} (hb : (b < 0 ∨ (¬ b < 0 ∧ 3 ≤ b)) ∨ ((∃ z, z < 3 ∧ b = nI z) ∧ ¬ okW 5 e)) (h : R (-2) (mset M 0 8 0)) : wp_Main_going (nI k) b c d e M R := by
  rcases hb with hb | ⟨⟨z, hz, rfl⟩, hw⟩
  · refine C_going_h hk (fun _ X hX => ⟨hk, ?_⟩) (fun _ X => ⟨hk, ?_⟩)
    · rw [e_isBelow_n hb]; exact ⟨fun _ => h, fun z => absurd rfl z⟩
    · rw [e_isBelow_n hb]; exact ⟨fun _ => h, fun z => absurd rfl z⟩
  · refine C_going_h hk (fun ok => absurd ok hw) (fun _ X => ⟨hk, ?_⟩)
    rw [e_isBelow_y (N := 3) (n := 3) rfl hz (by omega)]
    exact ⟨fun z => absurd z (by decide), fun _ => ⟨fun z => absurd rfl z, fun _ => h⟩⟩
theorem C_going_b {k z : Nat} (hk : k < 4) (hz : z < 3) {M : Mem} {R : Int32 → Mem → Prop} {c d e : Int32} (hw : okW 5 e) (h : ∀ X, (∀ (x3 : Int32) (x4 : Int32) (x5 : Int32) (u6 : Nat) (x9 : Int32) (M : Mem), wp_Main_going_119 X R x3 x4 x5 u6 x9 M → X x3 x4 x5 u6 x9 M) → wp_Sheet_faultOfTaking k (nI z) c d (mset M 0 8 0) (fun r6 M5 => ((r6 = (0 : Int32) → (wp_Way_isTold M5 (fun r9 M8 => ((¬ r9 = (0 : Int32) → (wp_Main_isOrder k c d M8 (fun r12 M11 => ((¬ r12 = (0 : Int32) → (wp_Walk_begin M11 (fun M14 => X c d e k (0 : Int32) M14))) ∧ (r12 = (0 : Int32) → (R (-1 : Int32) M11)))))) ∧ (r9 = (0 : Int32) → (R (-3 : Int32) M8)))))) ∧ (¬ (r6 = (0 : Int32)) → (wp_Main_failed r6 M5 (fun r16 M15 => R r16 M15)))))) : wp_Main_going (nI k) (nI z) c d e M R := by
  refine C_going_h hk (fun _ X hX => ⟨hk, ?_⟩) (fun nw => absurd hw nw)
  rw [e_isBelow_y (N := 3) (n := 3) rfl hz (by omega)]
  exact ⟨fun z => absurd z (by decide), fun _ => ⟨fun _ => h X hX, fun z => absurd z (by decide)⟩⟩
theorem ft0 {k : Nat} {M : Mem} {v a i n : Int32} : ftF (mset M 0 8 v (2 + k) 1) (mset M 0 8 v (2 + k) 2) (mset M 0 8 v (2 + k) 3) a i n = ftF (M (2 + k) 1) (M (2 + k) 2) (M (2 + k) 3) a i n := by rw [ms_n (show 2 + k ≠ 0 by omega)]
theorem C_going_n3 {k z : Nat} (hk : k < 4) (hz : z < 3) {M : Mem} {R : Int32 → Mem → Prop} {c d e : Int32} (hw : okW 5 e) (hf : ¬ ftF (M (2 + k) 1) (M (2 + k) 2) (M (2 + k) 3) (nI z) c d = 0) (h : R (-10 - ftF (M (2 + k) 1) (M (2 + k) 2) (M (2 + k) 3) (nI z) c d) (mset M 0 8 (ftF (M (2 + k) 1) (M (2 + k) 2) (M (2 + k) 3) (nI z) c d))) : wp_Main_going (nI k) (nI z) c d e M R := by
  refine C_going_b hk hz hw (fun X hX => C_ft ?_)
  rw [ft0]
  refine ⟨fun q => absurd q hf, fun _ => ?_⟩
  rw [e_failed]
  exact h
theorem C_going_n4 {k z : Nat} (hk : k < 4) (hz : z < 3) {M : Mem} {R : Int32 → Mem → Prop} {c d e : Int32} (hw : okW 5 e) (hf : ftF (M (2 + k) 1) (M (2 + k) 2) (M (2 + k) 3) (nI z) c d = 0) (e5 : M 12 5 = nI 0) (h : R (-3) (mset M 0 8 0)) : wp_Main_going (nI k) (nI z) c d e M R := by
  refine C_going_b hk hz hw (fun X hX => C_ft ?_)
  rw [ft0]
  exact ⟨fun _ => C_told0 e5 ⟨fun q => absurd rfl q, fun _ => h⟩, fun q => absurd hf q⟩
theorem C_going_n5 {k z i p n m : Nat} (hk : k < 4) (hz : z < 3) {M : Mem} {R : Int32 → Mem → Prop} {e : Int32} (hw : okW 5 e) (hf : ftF (M (2 + k) 1) (M (2 + k) 2) (M (2 + k) 3) (nI z) (nI i) (nI p) = 0) (hip : i + p ≤ 60) (hn : n ≤ 6) (h0 : 0 < n) (hm : m ≤ 5) (e5 : M 12 5 = nI n) (e6 : M 12 6 = nI m) (ho : ordF (fun j => M (6 + k) (i + j)) m p = none) (h : R (-1) (mset M 0 8 0)) : wp_Main_going (nI k) (nI z) (nI i) (nI p) e M R := by
  refine C_going_b hk hz hw (fun X hX => C_ft ?_)
  rw [ft0]
  refine ⟨fun _ => C_told1 hn h0 e5 ⟨fun _ => C_isOrder hk hip hm e6 ?_ ?_, fun q => absurd q (by decide)⟩, fun q => absurd hf q⟩
  · rw [ms_n (show 6 + k ≠ 0 by omega), ho]
    intro L hL
    cases hL
  · intro _
    exact ⟨fun q => absurd rfl q, fun _ => h⟩
theorem okW_vp {e : Int32} {N : Nat} (hN : N ≤ 6) (h : okW N e) (h0 : ¬ e = 0) : ∃ w, w < N ∧ e - 10 = nI w ∧ e = nI (w + 10) := by
  rcases h with h | ⟨w, hw, ee⟩
  · exact absurd h h0
  · refine ⟨w, hw, ?_, ee⟩
    rw [ee]
    exact pk_sub (a := w + 10) (b := 10) (by omega)
theorem C_going_y {k z i p n m : Nat} {L : List Nat} (hk : k < 4) (hz : z < 3) {M : Mem} {R : Int32 → Mem → Prop} {e : Int32} (hw : okW 5 e) (hf : ftF (M (2 + k) 1) (M (2 + k) 2) (M (2 + k) 3) (nI z) (nI i) (nI p) = 0) (hip : i + p ≤ 60) (hn : n ≤ 6) (h0 : 0 < n) (hm : m ≤ 5) (e5 : M 12 5 = nI n) (e6 : M 12 6 = nI m) (ho : ordF (fun j => M (6 + k) (i + j)) m p = some L) (h : ∀ M', SE (mset M 0 8 0) M' → R (goA (dC M) n m L e) M') : wp_Main_going (nI k) (nI z) (nI i) (nI p) e M R := by
  refine C_going_b hk hz hw (fun X hX => C_ft ?_)
  rw [ft0]
  have ez : dC (mset M 0 8 0) = dC M := by
    funext j
    match j with
    | 0 => rfl
    | 1 => rfl
    | 2 => rfl
    | 3 => rfl
    | 4 => rfl
    | _ + 5 => rfl
  have key : ∀ (d j : Nat), j + d = p → ∀ L0, ordF (fun j => M (6 + k) (i + j)) m j = some L0 → ∀ M1, CF (mset M 0 8 0) M1 → CR (dC M) n m L0 M1 → X (nI i) (nI p) e k (nI j) M1 := by
    intro d
    induction d with
    | zero =>
      intro j hj L0 hL0 M1 fr hr
      have : j = p := by omega
      subst this
      rw [ho] at hL0
      cases hL0
      obtain ⟨r1, r2, r3⟩ := hr
      have fin := h M1 fr.se
      unfold goA at fin
      refine hX _ _ _ _ _ _ ⟨hk, fun _ => ⟨fun c => ?_, fun c => ?_⟩, fun q => absurd (Int32.le_refl _) q⟩
      · rw [if_neg c] at fin
        obtain ⟨w, hw, ew, -⟩ := okW_vp (by omega) hw c
        rw [ew, nI_clamp (by omega)] at fin
        rw [ew, nI_clamp (by omega), r2 w hw]
        exact ⟨vp_in_nI hw (by omega), fin⟩
      · rw [if_pos c] at fin
        rw [r3]
        exact fin
    | succ d ih =>
      intro j hj L0 hL0 M1 fr hr
      obtain ⟨L1, hL1⟩ := ordF_some ho d (j + 1) (by omega)
      obtain ⟨L0', g, q1, q2, q3, q4, q5⟩ := ordF_pre hm hL1
      rw [hL0] at q1
      cases q1
      refine hX _ _ _ _ _ _ ⟨hk, fun q => absurd q (nI_ge (by omega) (by omega)), fun _ => ?_⟩
      have ec : M1 (6 + k) (i + j) = nI g := by rw [fr (6 + k) (by omega) (by omega) (by omega), ms_n (by omega)]; exact q3
      have eD : dC M1 = dC M := by rw [fr.dC, ez]
      rw [nI_add, nI_clamp (by omega), ec]
      refine ⟨vp_in_nI (by omega) (by omega), C_step (n := n) (m := m) (L := L0) (by omega) q4 hn hm ?_ ?_ (by rw [eD]; exact hr) (fun M2 fr2 hr2 => ?_)⟩
      · rw [fr 12 (by decide) (by decide) (by decide), ms_n (by decide)]; exact e5
      · rw [fr 12 (by decide) (by decide) (by decide), ms_n (by decide)]; exact e6
      · intro y ey
        rw [ey, nI_1]
        rw [eD] at hr2
        rw [q5] at hL1
        exact ih (j + 1) (by omega) _ hL1 M2 (fr.tr fr2) hr2
  refine ⟨fun _ => C_told1 hn h0 e5 ⟨fun _ => C_isOrder hk hip hm e6 ?_ ?_, fun q => absurd q (by decide)⟩, fun q => absurd hf q⟩
  · intro L1 _
    refine ⟨fun _ => C_begin (fun M1 f1 f2 f3 f4 _ _ => ?_), fun q => absurd q (by decide)⟩
    exact key p 0 (by omega) [] rfl M1 f1 (CR_nil hn f2 f3 f4)
  · rw [ms_n (show 6 + k ≠ 0 by omega), ho]
    intro hL
    cases hL
