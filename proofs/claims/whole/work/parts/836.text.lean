/-! a text, read -/
def tcv (T : Nat → Int32) (L x : Nat) : Int32 := if x < L then T x else -1
def kyF (c : Int32) : Int32 := if c = 100 then 1 else if c = 104 then 0 else if c = 108 then 2 else -9
def dgB (N : Nat) (c : Int32) : Bool := (List.range N).any (fun a => c == nI (48 + a))
theorem dg_y {N : Nat} {c : Int32} (h : dgB N c = true) : ∃ a, a < N ∧ c = nI (48 + a) := by
  unfold dgB at h
  rw [List.any_eq_true] at h
  obtain ⟨a, ha, e⟩ := h
  exact ⟨a, by simpa using ha, eq_of_beq e⟩
theorem dg_t {N a : Nat} (h : a < N) : dgB N (nI (48 + a)) = true := by
  unfold dgB
  rw [List.any_eq_true]
  exact ⟨a, by simpa using h, by simp⟩
theorem m48 {a : Nat} : nI (48 + a) - 48 = nI a := by
  have := pk_sub (a := 48 + a) (b := 48) (by omega)
  rw [show 48 + a - 48 = a by omega] at this
  exact this
theorem dg_nb {N : Nat} (hN : N ≤ 10) {c : Int32} (h : dgB N c = false) : (c - 48 < 0 ∨ (¬ c - 48 < 0 ∧ nI N ≤ c - 48)) := by
  rcases cl0 (N := nI N) (n := N) rfl (by omega) (c - 48) with q | q | ⟨k, hk, e, -⟩
  · exact Or.inl q
  · exact Or.inr q
  · have : c = nI (48 + k) := by
      have e2 : c - 48 + 48 = nI k + 48 := by rw [e]
      rw [Int32.sub_add_cancel] at e2
      rw [e2]
      exact (nI_add k 48).trans (by rw [Nat.add_comm])
    rw [this, dg_t hk] at h
    cases h
theorem dg_nw {N : Nat} (hN : N ≤ 10) (h0 : 0 < N) {c : Int32} (h : dgB N c = false) : (c < 48 ∨ (¬ c < 48 ∧ nI (47 + N) < c)) := by
  by_cases c1 : c < 48
  · exact Or.inl c1
  · refine Or.inr ⟨c1, ?_⟩
    by_cases c2 : nI (47 + N) < c
    · exact c2
    · have q48 : (48 : Int32).toInt = 48 := by decide
      have a1 : ¬ c.toInt < (48 : Int32).toInt := fun z => c1 (Int32.lt_iff_toInt_lt.mpr z)
      have a2 : ¬ (nI (47 + N)).toInt < c.toInt := fun z => c2 (Int32.lt_iff_toInt_lt.mpr z)
      rw [q48] at a1
      rw [nI_toInt (by omega)] at a2
      have : c = nI (48 + (c.toInt.toNat - 48)) := by
        apply Int32.toInt_inj.mp
        rw [nI_toInt (by omega)]
        omega
      rw [this, dg_t (by omega)] at h
      cases h
def hK (T : Nat → Int32) (L x : Nat) : Nat := if kyF (tcv T L (x + 1)) = -9 then 1 else if dgB 6 (tcv T L (x + 2)) = false then 2 else if dgB 6 (tcv T L (x + 3)) = false then 3 else if dgB 7 (tcv T L (x + 4)) = false then 4 else 5
def gK (T : Nat → Int32) (L x : Nat) : Nat := if dgB 7 (tcv T L (x + 1)) = false then 1 else if dgB (if tcv T L (x + 1) = 54 then 4 else 10) (tcv T L (x + 2)) = false then 2 else 3
def TX (T : Nat → Int32) (L : Nat) (M : Mem) : Prop := L ≤ 60 ∧ M 10 1 = nI L ∧ ∀ j, j < L → M 11 j = T j
theorem C_code {T : Nat → Int32} {L x : Nat} (hx : x < 1000) {M : Mem} {R : Int32 → Mem → Prop} (t : TX T L M) (k : R (tcv T L x) M) : wp_Text_codeAt (nI x) M R := by
  obtain ⟨t1, t2, t3⟩ := t
  unfold wp_Text_codeAt
  unfold tcv at k
  by_cases c : x < L
  · rw [if_pos c] at k
    rw [e_isBelow_y t2 c (by omega)]
    refine ⟨fun z => absurd z (by decide), fun _ => ⟨vp_in_nI (by omega) (by omega), ?_⟩⟩
    rw [nI_clamp (by omega), t3 x c]
    exact k
  · rw [if_neg c] at k
    rw [t2, e_isBelow_n (Or.inr ⟨nI_pos (by omega), nI_le (by omega) (by omega)⟩)]
    exact ⟨fun _ => k, fun z => absurd rfl z⟩
theorem C_kind {T : Nat → Int32} {L x : Nat} (hx : x < 1000) {M : Mem} {R : Int32 → Mem → Prop} (t : TX T L M) (k : R (kyF (tcv T L x)) M) : wp_Text_kindAt (nI x) M R := by
  unfold wp_Text_kindAt
  refine C_code hx t ?_
  unfold kyF at k
  refine ⟨fun z => ?_, fun z => ⟨fun z2 => ?_, fun z2 => ⟨fun z3 => ?_, fun z3 => ?_⟩⟩⟩
  · rw [if_pos z] at k; exact k
  · rw [if_neg z, if_pos z2] at k; exact k
  · rw [if_neg z, if_neg z2, if_pos z3] at k; exact k
  · rw [if_neg z, if_neg z2, if_neg z3] at k; exact k
theorem C_digit {T : Nat → Int32} {L x : Nat} (hx : x < 1000) {M : Mem} {R : Int32 → Mem → Prop} (t : TX T L M) (k : R (tcv T L x - 48) M) : wp_Text_digitAt (nI x) M R := by
  unfold wp_Text_digitAt
  exact C_code hx t k
theorem C_below {N : Nat} (hN : N ≤ 10) {c : Int32} {M : Mem} {R : Int32 → Mem → Prop} (k : R (if dgB N c = false then 0 else 1) M) : wp_Main_isBelow (c - 48) (nI N) M R := by
  cases h : dgB N c with
  | false =>
    rw [h, if_pos rfl] at k
    rw [e_isBelow_n (dg_nb hN h)]
    exact k
  | true =>
    rw [h, if_neg (by decide)] at k
    obtain ⟨a, ha, e⟩ := dg_y h
    rw [e, m48, e_isBelow_y (n := N) rfl ha (by omega)]
    exact k
theorem C_goodHouse {T : Nat → Int32} {L x : Nat} (hx : x < 900) {M : Mem} {R : Int32 → Mem → Prop} (t : TX T L M) (k : R (nI (hK T L x)) M) : wp_Text_goodOfHouse (nI x) M R := by
  have e1 : nI x + (1 : Int32) = nI (x + 1) := nI_add x 1
  have e2 : nI x + (2 : Int32) = nI (x + 2) := nI_add x 2
  have e3 : nI x + (3 : Int32) = nI (x + 3) := nI_add x 3
  have e4 : nI x + (4 : Int32) = nI (x + 4) := nI_add x 4
  unfold wp_Text_goodOfHouse
  rw [e1, e2, e3, e4]
  unfold hK at k
  refine C_kind (by omega) t ⟨fun z => ?_, fun z => ?_⟩
  rotate_left
  · rw [if_pos z] at k; exact k
  rw [if_neg z] at k
  refine C_digit (by omega) t (C_below (N := 6) (by omega) ⟨fun z2 => ?_, fun z2 => ?_⟩)
  rotate_left
  · have c : dgB 6 (tcv T L (x + 2)) = false := by
      cases h : dgB 6 (tcv T L (x + 2)) with
      | false => rfl
      | true => rw [h, if_neg (by decide)] at z2; exact absurd z2 (by decide)
    rw [if_pos c] at k; exact k
  have c : ¬ dgB 6 (tcv T L (x + 2)) = false := fun h => by rw [if_pos h] at z2; exact z2 rfl
  rw [if_neg c] at k
  refine C_digit (by omega) t (C_below (N := 6) (by omega) ⟨fun z3 => ?_, fun z3 => ?_⟩)
  rotate_left
  · have c : dgB 6 (tcv T L (x + 3)) = false := by
      cases h : dgB 6 (tcv T L (x + 3)) with
      | false => rfl
      | true => rw [h, if_neg (by decide)] at z3; exact absurd z3 (by decide)
    rw [if_pos c] at k; exact k
  have c2 : ¬ dgB 6 (tcv T L (x + 3)) = false := fun h => by rw [if_pos h] at z3; exact z3 rfl
  rw [if_neg c2] at k
  refine C_digit (by omega) t (C_below (N := 7) (by omega) ⟨fun z4 => ?_, fun z4 => ?_⟩)
  · have c : dgB 7 (tcv T L (x + 4)) = false := by
      cases h : dgB 7 (tcv T L (x + 4)) with
      | false => rfl
      | true => rw [h, if_neg (by decide)] at z4; exact absurd z4 (by decide)
    rw [if_pos c] at k; exact k
  have c3 : ¬ dgB 7 (tcv T L (x + 4)) = false := fun h => by rw [if_pos h] at z4; exact z4 rfl
  rw [if_neg c3] at k; exact k
theorem dgF : ∀ a, a < 7 → ∀ b, b < 10 → (((64 : Int32) ≤ (10 : Int32) * nI a + nI b) ↔ (a = 6 ∧ 4 ≤ b)) ∧ (nI (48 + a) = 54 ↔ a = 6) ∧ (dgB 4 (nI (48 + b)) = decide (b < 4)) := by decide +kernel
theorem dg_mono {c : Int32} (h : dgB 10 c = false) : dgB 4 c = false := by
  cases e : dgB 4 c with
  | false => rfl
  | true =>
    obtain ⟨a, ha, e2⟩ := dg_y e
    rw [e2, dg_t (by omega)] at h
    cases h
theorem C_goodGuest {T : Nat → Int32} {L x : Nat} (hx : x < 900) {M : Mem} {R : Int32 → Mem → Prop} (t : TX T L M) (k : R (nI (gK T L x)) M) : wp_Text_goodOfGuest (nI x) M R := by
  have e1 : nI x + (1 : Int32) = nI (x + 1) := nI_add x 1
  have e2 : nI x + (2 : Int32) = nI (x + 2) := nI_add x 2
  unfold wp_Text_goodOfGuest
  rw [e1, e2]
  unfold gK at k
  refine C_digit (by omega) t (C_digit (by omega) t (C_below (N := 7) (by omega) ?_))
  cases h : dgB 7 (tcv T L (x + 1)) with
  | false =>
    rw [if_pos h] at k
    rw [if_pos rfl]
    exact ⟨fun z => absurd rfl z, fun _ => k⟩
  | true =>
    rw [if_neg (by rw [h]; decide)] at k
    rw [if_neg (by decide)]
    obtain ⟨a, ha, ea⟩ := dg_y h
    refine ⟨fun _ => C_below (N := 10) (by omega) ?_, fun z => absurd z (by decide)⟩
    cases h2 : dgB 10 (tcv T L (x + 2)) with
    | false =>
      have : dgB (if tcv T L (x + 1) = 54 then 4 else 10) (tcv T L (x + 2)) = false := by
        by_cases c : tcv T L (x + 1) = 54
        · rw [if_pos c]; exact dg_mono h2
        · rw [if_neg c]; exact h2
      rw [if_pos this] at k
      rw [if_pos rfl]
      exact ⟨fun _ => k, fun z => absurd rfl z⟩
    | true =>
      rw [if_neg (by decide)]
      obtain ⟨b, hb, eb⟩ := dg_y h2
      obtain ⟨f1, f2, f3⟩ := dgF a ha b hb
      refine ⟨fun z => absurd z (by decide), fun _ => ?_⟩
      rw [ea, eb, m48, m48]
      rw [ea, eb] at k
      refine ⟨fun z => ?_, fun z => ?_⟩
      · obtain ⟨g1, g2⟩ := f1.mp z
        rw [if_pos (f2.mpr g1), f3, if_pos (by simp; omega)] at k
        exact k
      · by_cases c : a = 6
        · rw [if_pos (f2.mpr c), f3, if_neg (by
            have : b < 4 := by
              rcases Nat.lt_or_ge b 4 with q | q
              · exact q
              · exact absurd (f1.mpr ⟨c, q⟩) z
            simp [this])] at k
          exact k
        · rw [if_neg (fun q => c (f2.mp q)), dg_t hb, if_neg (by decide)] at k
          exact k
