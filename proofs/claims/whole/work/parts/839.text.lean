theorem D_guest {T : Nat → Int32} {L B x g : Nat} (hx : x < 100) (hg : g < 5) {M : Mem} {R : Int32 → Mem → Prop} (t : TM T L B M) (e : M 29 13 = nI (B + (x + 1))) (e15 : M 29 15 = nI g)
    (ky : gK T L x = 3 → ∀ M', HF M M' → M' 29 13 = nI (B + (x + 3)) → M' 29 14 = M 29 14 → M' 29 15 = nI (g + 1) → M' 38 = M 38 → M' 39 = upd (M 39) g ((10 : Int32) * (tcv T L (x + 1) - 48) + (tcv T L (x + 2) - 48)) → R 1 M')
    (kn : ¬ gK T L x = 3 → ∀ M', HF M M' → M' 29 13 = nI (B + (x + gK T L x)) → R 0 M') : wp_Model_readGuest (nI (B + L)) M R := by
  unfold gK at ky kn
  refine D_digit (N := 7) (by omega) (by omega) (by decide) (by omega) t e (fun d1 => ?_) (fun d1 => ?_)
  rotate_left
  · rw [if_pos d1] at kn
    exact ⟨fun z => absurd rfl z, fun _ => kn (by omega) M HF.rf e⟩
  rw [if_neg (by rw [d1]; decide)] at ky kn
  refine ⟨fun _ => ?_, fun z => absurd z (dig_ne (by omega) d1)⟩
  generalize e7 : mset M 29 13 (nI (B + (x + 1) + 1)) = M7
  have f7 : HF M M7 := by rw [← e7]; exact HF.s29 (Or.inl rfl)
  have g7 : M7 29 13 = nI (B + (x + 2)) := by rw [← e7, ms_s, up_s]; rfl
  have g15 : M7 29 15 = nI g := by rw [← e7, ms_s, up_n (by decide)]; exact e15
  have second : ∀ (N : Nat) (z6 : Int32), N = (if tcv T L (x + 1) = 54 then 4 else 10) → N ≤ 10 → 0 < N → (48 : Int32) + z6 = nI (47 + N) → wp_Model_readGuest_32 R (tcv T L (x + 1) - 48) (nI (B + L)) 0 z6 M7 := by
    intro N z6 eN hN h0 hz
    rw [← eN] at ky kn
    refine D_digit hN h0 hz (by omega) (t.of f7) g7 (fun d2 => ?_) (fun d2 => ?_)
    · rw [if_neg (by rw [d2]; decide)] at ky
      generalize e8 : mset M7 29 13 (nI (B + (x + 2) + 1)) = M8
      have f8 : HF M M8 := f7.tr (by rw [← e8]; exact HF.s29 (Or.inl rfl))
      have h15 : M8 29 15 = nI g := by rw [← e8, ms_s, up_n (by decide)]; exact g15
      rw [h15, nI_clamp (by omega)]
      refine ⟨vp_in_nI (by omega) (by omega), ?_⟩
      intro M4 e4 M5 e5
      have f5 : HF M M5 := f8.tr (by rw [e5, e4]; exact HF.s39.tr (HF.s29 (Or.inr (Or.inr rfl))))
      refine ⟨fun z => absurd z (dig_ne hN d2), fun _ => ky rfl M5 f5 ?_ ?_ ?_ ?_ ?_⟩
      · rw [e5, ms_s, up_n (by decide), e4, ms_n (by decide), ← e8, ms_s, up_s]
        rfl
      · rw [e5, ms_s, up_n (by decide), e4, ms_n (by decide), ← e8, ms_s, up_n (by decide), ← e7, ms_s, up_n (by decide)]
      · rw [e5, ms_s, up_s, e4, ms_n (by decide), h15, nI_1]
      · rw [e5, ms_n (by decide), e4, ms_n (by decide), ← e8, ms_n (by decide), ← e7, ms_n (by decide)]
      · rw [e5, ms_n (by decide), e4, ms_s, ← e8, ms_n (by decide), ← e7, ms_n (by decide)]
    · rw [if_pos d2] at kn
      rw [g15, nI_clamp (by omega)]
      refine ⟨vp_in_nI (by omega) (by omega), ?_⟩
      intro M4 e4 M5 e5
      have f5 : HF M M5 := f7.tr (by rw [e5, e4]; exact HF.s39.tr (HF.s29 (Or.inr (Or.inr rfl))))
      refine ⟨fun _ => kn (by omega) M5 f5 ?_, fun z => absurd rfl z⟩
      rw [e5, ms_s, up_n (by decide), e4, ms_n (by decide)]
      exact g7
  obtain ⟨a, ha, ea⟩ := dg_y d1
  have f2 := (dgF a ha 0 (by omega)).2.1
  have i6 : (tcv T L (x + 1) - 48 = 6) ↔ tcv T L (x + 1) = 54 := by
    rw [ea, m48, f2]
    exact nI_eq (b := 6) (by omega) (by omega)
  refine ⟨fun z => ?_, fun z => ?_⟩
  · exact second 10 9 (by rw [if_neg (fun q => z (i6.mpr q))]) (by omega) (by omega) (by decide)
  · exact second 4 3 (by rw [if_pos (i6.mp z)]) (by omega) (by omega) (by decide)
def HS (T : Nat → Int32) (L n : Nat) (M : Mem) : Prop := ∀ h, h < n → M 38 (4 * h) = kyF (tcv T L (1 + 5 * h + 1)) ∧ M 38 (4 * h + 1) = tcv T L (1 + 5 * h + 2) - 48 ∧ M 38 (4 * h + 2) = tcv T L (1 + 5 * h + 3) - 48 ∧ M 38 (4 * h + 3) = tcv T L (1 + 5 * h + 4) - 48
def GS (T : Nat → Int32) (L n m : Nat) (M : Mem) : Prop := ∀ g, g < m → M 39 g = (10 : Int32) * (tcv T L (1 + 5 * n + 3 * g + 1) - 48) + (tcv T L (1 + 5 * n + 3 * g + 2) - 48)
theorem D_rw {T : Nat → Int32} {L B : Nat} {M : Mem} {R : Int32 → Mem → Prop} (t : TM T L B M) (e : M 29 13 = nI B) (k : ∀ M', HF M M' → M' 29 13 = nI (B + (pA T L).2.1) → ((pA T L).1 = true → M' 29 14 = nI (pA T L).2.2.1 ∧ M' 29 15 = nI (pA T L).2.2.2 ∧ HS T L (pA T L).2.2.1 M' ∧ GS T L (pA T L).2.2.1 (pA T L).2.2.2 M') → R (if (pA T L).1 = true then 1 else 0) M') : wp_Model_readWay (nI (B + L)) M R := by
  intro X40 X89 h40 h89 M22 e22 M23 e23
  have t1 := t.1
  have t2 := t.2.1
  generalize hB : pA T L = P at k
  have bad : ∀ (x : Nat) (M1 : Mem), HF M M1 → M1 29 13 = nI (B + x) → (∃ n m, (false, x, n, m) = P) → R 0 M1 := by
    intro x M1 fr e1 hp
    obtain ⟨n, m, hp⟩ := hp
    have := k M1 fr (by rw [← hp]; exact e1) (fun z => by rw [← hp] at z; cases z)
    rw [← hp, if_neg (by simp)] at this
    exact this
  have fin : ∀ (n m : Nat) (M1 : Mem), n ≤ 6 → m ≤ 5 → 0 < m → HF M M1 → M1 29 13 = nI (B + (1 + 5 * n + 3 * m)) → M1 29 14 = nI n → M1 29 15 = nI m → HS T L n M1 → GS T L n m M1 → fnE L n m = P → wp_Model_readWay_117 X40 X89 R (nI (B + L)) M1 := by
    intro n m M1 hn hm m0 fr e1 e2 e3 hs gs hb
    unfold fnE at hb
    rw [if_neg (by omega)] at hb
    unfold wp_Model_readWay_117
    rw [e1]
    by_cases c2 : 1 + 5 * n + 3 * m = L
    · rw [if_pos c2] at hb
      have := k M1 fr (by rw [← hb]; exact e1) (fun _ => by rw [← hb]; exact ⟨e2, e3, hs, gs⟩)
      rw [← hb, if_pos rfl] at this
      exact ⟨fun z => absurd (by rw [c2]) z, fun _ => this⟩
    · rw [if_neg c2] at hb
      refine ⟨fun _ => bad _ M1 fr e1 ⟨_, _, hb⟩, fun z => absurd ?_ c2⟩
      have := (nI_eq (a := B + (1 + 5 * n + 3 * m)) (b := B + L) (by omega) (by omega)).mp z
      omega
  have guest : ∀ (n m d : Nat), n ≤ 6 → m + d + 1 = 5 → (∀ M1 : Mem, HF M M1 → M1 29 13 = nI (B + (1 + 5 * n + 3 * (m + 1))) → M1 29 14 = nI n → M1 29 15 = nI (m + 1) → HS T L n M1 → GS T L n (m + 1) M1 → pG T L n d (m + 1) = P → X89 (nI (B + L)) M1) → ∀ M1 : Mem, HF M M1 → M1 29 13 = nI (B + (1 + 5 * n + 3 * m) + 1) → M1 29 14 = nI n → M1 29 15 = nI m → HS T L n M1 → GS T L n m M1 → (if gK T L (1 + 5 * n + 3 * m) = 3 then pG T L n d (m + 1) else (false, 1 + 5 * n + 3 * m + gK T L (1 + 5 * n + 3 * m), n, m)) = P → wp_Model_readGuest (nI (B + L)) M1 (fun r19 M18 => ((¬ r19 = (0 : Int32) → X89 (nI (B + L)) M18) ∧ (r19 = (0 : Int32) → (R (0 : Int32) M18)))) := by
    intro n m d hn hm next M1 fr e1 e2 e3 hs gs hb
    refine D_guest (x := 1 + 5 * n + 3 * m) (g := m) (by omega) (by omega) (t.of fr) e1 e3 (fun q M2 f2 a1 a2 a3 a4 a5 => ⟨fun _ => ?_, fun z => absurd z (by decide)⟩) (fun q M2 f2 a1 => ⟨fun z => absurd rfl z, fun _ => ?_⟩)
    · rw [if_pos q] at hb
      refine next M2 (fr.tr f2) a1 (by rw [a2]; exact e2) a3 (fun h hh => by rw [a4]; exact hs h hh) ?_ hb
      intro g hg
      rw [a5]
      by_cases c : g = m
      · rw [c, up_s]
      · rw [up_n c]
        exact gs g (by omega)
    · rw [if_neg q] at hb
      exact bad _ M2 (fr.tr f2) a1 ⟨_, _, hb⟩
  have keyG : ∀ (n : Nat), n ≤ 6 → ∀ (d m : Nat), m + d = 5 → 0 < m → ∀ M1 : Mem, HF M M1 → M1 29 13 = nI (B + (1 + 5 * n + 3 * m)) → M1 29 14 = nI n → M1 29 15 = nI m → HS T L n M1 → GS T L n m M1 → pG T L n d m = P → X89 (nI (B + L)) M1 := by
    intro n hn d
    induction d with
    | zero =>
      intro m hm m0 M1 fr e1 e2 e3 hs gs hb
      refine h89 _ _ ⟨fun _ => fin n m M1 hn (by omega) m0 fr e1 e2 e3 hs gs hb, fun z => absurd ?_ z⟩
      rw [e3]
      exact nI_le (a := 5) (by omega) (by omega)
    | succ d ih =>
      intro m hm m0 M1 fr e1 e2 e3 hs gs hb
      rw [show pG T L n (d + 1) m = if tcv T L (1 + 5 * n + 3 * m) = 44 then (if gK T L (1 + 5 * n + 3 * m) = 3 then pG T L n d (m + 1) else (false, 1 + 5 * n + 3 * m + gK T L (1 + 5 * n + 3 * m), n, m)) else fnE L n m from rfl] at hb
      refine h89 _ _ ⟨fun z => absurd z ?_, fun _ => D_sign (by decide) (by omega) (t.of fr) e1 (fun q => ⟨fun z => absurd z (by decide), fun _ => ?_⟩) (fun q => ⟨fun _ => ?_, fun z => absurd rfl z⟩)⟩
      · rw [e3]
        exact nI_ge (b := 5) (by omega) (by omega)
      · rw [if_pos q] at hb
        refine guest n m d hn (by omega) (fun M2 => ih (m + 1) (by omega) (by omega) M2) _ (fr.tr (HF.s29 (Or.inl rfl))) ?_ ?_ ?_ ?_ ?_ hb
        · rw [ms_s, up_s]
        · rw [ms_s, up_n (by decide)]; exact e2
        · rw [ms_s, up_n (by decide)]; exact e3
        · intro h hh
          rw [ms_n (by decide)]
          exact hs h hh
        · intro g hg
          rw [ms_n (by decide)]
          exact gs g hg
      · rw [if_neg q] at hb
        exact fin n m M1 hn (by omega) m0 fr e1 e2 e3 hs gs hb
  have first : ∀ (n : Nat), n ≤ 6 → ∀ M1 : Mem, HF M M1 → M1 29 13 = nI (B + (1 + 5 * n)) → M1 29 14 = nI n → M1 29 15 = nI 0 → HS T L n M1 → pG T L n 5 0 = P → wp_Model_readWay_69 X40 X89 R (nI (B + L)) M1 := by
    intro n hn M1 fr e1 e2 e3 hs hb
    rw [show pG T L n 5 0 = if tcv T L (1 + 5 * n + 3 * 0) = 44 then (if gK T L (1 + 5 * n + 3 * 0) = 3 then pG T L n 4 (0 + 1) else (false, 1 + 5 * n + 3 * 0 + gK T L (1 + 5 * n + 3 * 0), n, 0)) else fnE L n 0 from rfl] at hb
    refine D_sign (x := 1 + 5 * n + 3 * 0) (by decide) (by omega) (t.of fr) e1 (fun q => ⟨fun z => absurd z (by decide), fun _ => ?_⟩) (fun q => ⟨fun _ => ?_, fun z => absurd rfl z⟩)
    · rw [if_pos q] at hb
      refine guest n 0 4 hn (by omega) (fun M2 => keyG n hn 4 1 (by omega) (by omega) M2) _ (fr.tr (HF.s29 (Or.inl rfl))) ?_ ?_ ?_ ?_ ?_ hb
      · rw [ms_s, up_s]
      · rw [ms_s, up_n (by decide)]; exact e2
      · rw [ms_s, up_n (by decide)]; exact e3
      · intro h hh
        rw [ms_n (by decide)]
        exact hs h hh
      · intro g hg
        omega
    · rw [if_neg q] at hb
      exact bad (1 + 5 * n + 3 * 0) M1 fr e1 ⟨n, 0, hb⟩
  have house : ∀ (n d : Nat), n + d + 1 = 6 → (∀ M1 : Mem, HF M M1 → M1 29 13 = nI (B + (1 + 5 * (n + 1))) → M1 29 14 = nI (n + 1) → M1 29 15 = nI 0 → HS T L (n + 1) M1 → pH T L d (n + 1) = P → X40 (nI (B + L)) M1) → ∀ M1 : Mem, HF M M1 → M1 29 13 = nI (B + (1 + 5 * n) + 1) → M1 29 14 = nI n → M1 29 15 = nI 0 → HS T L n M1 → (if hK T L (1 + 5 * n) = 5 then pH T L d (n + 1) else (false, 1 + 5 * n + hK T L (1 + 5 * n), n, 0)) = P → wp_Model_readOneHouse (nI (B + L)) M1 (fun r6 M5 => ((¬ r6 = (0 : Int32) → X40 (nI (B + L)) M5) ∧ (r6 = (0 : Int32) → (R (0 : Int32) M5)))) := by
    intro n d hn next M1 fr e1 e2 e3 hs hb
    refine D_house (x := 1 + 5 * n) (h := n) (by omega) (by omega) (t.of fr) e1 e2 (fun q M2 f2 a1 a2 a3 a4 b0 b1 b2 b3 => ⟨fun _ => ?_, fun z => absurd z (by decide)⟩) (fun q M2 f2 a1 => ⟨fun z => absurd rfl z, fun _ => ?_⟩)
    · rw [if_pos q] at hb
      refine next M2 (fr.tr f2) a1 a2 (by rw [a3]; exact e3) ?_ hb
      intro h hh
      by_cases c : h = n
      · rw [c]
        exact ⟨b0, b1, b2, b3⟩
      · rw [a4 _ (by omega), a4 _ (by omega), a4 _ (by omega), a4 _ (by omega)]
        exact hs h (by omega)
    · rw [if_neg q] at hb
      exact bad _ M2 (fr.tr f2) a1 ⟨_, _, hb⟩
  have keyH : ∀ (d n : Nat), n + d = 6 → 0 < n → ∀ M1 : Mem, HF M M1 → M1 29 13 = nI (B + (1 + 5 * n)) → M1 29 14 = nI n → M1 29 15 = nI 0 → HS T L n M1 → pH T L d n = P → X40 (nI (B + L)) M1 := by
    intro d
    induction d with
    | zero =>
      intro n hn n0 M1 fr e1 e2 e3 hs hb
      refine h40 _ _ ⟨fun _ => first n (by omega) M1 fr e1 e2 e3 hs hb, fun z => absurd ?_ z⟩
      rw [e2]
      exact nI_le (a := 6) (by omega) (by omega)
    | succ d ih =>
      intro n hn n0 M1 fr e1 e2 e3 hs hb
      rw [show pH T L (d + 1) n = if tcv T L (1 + 5 * n) = 59 then (if hK T L (1 + 5 * n) = 5 then pH T L d (n + 1) else (false, 1 + 5 * n + hK T L (1 + 5 * n), n, 0)) else if n = 0 then (false, 1, 0, 0) else pG T L n 5 0 from rfl, if_neg (show ¬ n = 0 by omega)] at hb
      refine h40 _ _ ⟨fun z => absurd z ?_, fun _ => D_sign (by decide) (by omega) (t.of fr) e1 (fun q => ⟨fun z => absurd z (by decide), fun _ => ?_⟩) (fun q => ⟨fun _ => ?_, fun z => absurd rfl z⟩)⟩
      · rw [e2]
        exact nI_ge (b := 6) (by omega) (by omega)
      · rw [if_pos q] at hb
        refine house n d (by omega) (fun M2 => ih (n + 1) (by omega) (by omega) M2) _ (fr.tr (HF.s29 (Or.inl rfl))) ?_ ?_ ?_ ?_ hb
        · rw [ms_s, up_s]
        · rw [ms_s, up_n (by decide)]; exact e2
        · rw [ms_s, up_n (by decide)]; exact e3
        · intro h hh
          rw [ms_n (by decide)]
          exact hs h hh
      · rw [if_neg q] at hb
        exact first n (by omega) M1 fr e1 e2 e3 hs hb
  have f23 : HF M M23 := by rw [e23, e22]; exact (HF.s29 (Or.inr (Or.inl rfl))).tr (HF.s29 (Or.inr (Or.inr rfl)))
  have g13 : M23 29 13 = nI (B + 0) := by rw [e23, ms_s, up_n (by decide), e22, ms_s, up_n (by decide)]; exact e
  have g14 : M23 29 14 = nI 0 := by rw [e23, ms_s, up_n (by decide), e22, ms_s, up_s]; rfl
  have g15 : M23 29 15 = nI 0 := by rw [e23, ms_s, up_s]; rfl
  unfold pA at hB
  refine D_sign (x := 0) (by decide) (by omega) (t.of f23) g13 (fun q => ⟨fun z => absurd z (by decide), fun _ => ?_⟩) (fun q => ⟨fun _ => ?_, fun z => absurd rfl z⟩)
  rotate_left
  · rw [if_neg q] at hB
    exact bad 0 M23 f23 g13 ⟨_, _, hB⟩
  rw [if_pos q] at hB
  generalize e24 : mset M23 29 13 (nI (B + 0 + 1)) = M24
  have f24 : HF M M24 := f23.tr (by rw [← e24]; exact HF.s29 (Or.inl rfl))
  have j13 : M24 29 13 = nI (B + (1 + 5 * 0)) := by rw [← e24, ms_s, up_s]
  have j14 : M24 29 14 = nI 0 := by rw [← e24, ms_s, up_n (by decide)]; exact g14
  have j15 : M24 29 15 = nI 0 := by rw [← e24, ms_s, up_n (by decide)]; exact g15
  rw [show pH T L 6 0 = if tcv T L (1 + 5 * 0) = 59 then (if hK T L (1 + 5 * 0) = 5 then pH T L 5 (0 + 1) else (false, 1 + 5 * 0 + hK T L (1 + 5 * 0), 0, 0)) else (false, 1, 0, 0) from rfl] at hB
  refine D_sign (x := 1 + 5 * 0) (by decide) (by omega) (t.of f24) j13 (fun q => ⟨fun z => absurd z (by decide), fun _ => ?_⟩) (fun q => ⟨fun _ => ?_, fun z => absurd rfl z⟩)
  · rw [if_pos q] at hB
    refine house 0 5 (by omega) (fun M2 => keyH 5 1 (by omega) (by omega) M2) _ (f24.tr (HF.s29 (Or.inl rfl))) ?_ ?_ ?_ ?_ hB
    · rw [ms_s, up_s]
    · rw [ms_s, up_n (by decide)]; exact j14
    · rw [ms_s, up_n (by decide)]; exact j15
    · intro h hh
      omega
  · rw [if_neg q] at hB
    exact bad 1 M24 f24 j13 ⟨_, _, hB⟩
