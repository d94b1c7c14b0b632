def fnE (L n m : Nat) : Bool × Nat × Nat × Nat := if m = 0 then (false, 1 + 5 * n + 3 * m, n, m) else if 1 + 5 * n + 3 * m = L then (true, 1 + 5 * n + 3 * m, n, m) else (false, 1 + 5 * n + 3 * m, n, m)
def pG (T : Nat → Int32) (L n : Nat) : Nat → Nat → Bool × Nat × Nat × Nat
  | 0, m => fnE L n m
  | d + 1, m => if tcv T L (1 + 5 * n + 3 * m) = 44 then (if gK T L (1 + 5 * n + 3 * m) = 3 then pG T L n d (m + 1) else (false, 1 + 5 * n + 3 * m + gK T L (1 + 5 * n + 3 * m), n, m)) else fnE L n m
def pH (T : Nat → Int32) (L : Nat) : Nat → Nat → Bool × Nat × Nat × Nat
  | 0, n => pG T L n 5 0
  | d + 1, n => if tcv T L (1 + 5 * n) = 59 then (if hK T L (1 + 5 * n) = 5 then pH T L d (n + 1) else (false, 1 + 5 * n + hK T L (1 + 5 * n), n, 0)) else if n = 0 then (false, 1, 0, 0) else pG T L n 5 0
def pA (T : Nat → Int32) (L : Nat) : Bool × Nat × Nat × Nat := if tcv T L 0 = 120 then pH T L 6 0 else (false, 0, 0, 0)
theorem hK_le (T : Nat → Int32) (L x : Nat) : 1 ≤ hK T L x ∧ hK T L x ≤ 5 := by
  unfold hK
  repeat' split
  all_goals omega
theorem gK_le (T : Nat → Int32) (L x : Nat) : 1 ≤ gK T L x ∧ gK T L x ≤ 3 := by
  unfold gK
  repeat' split
  all_goals omega
theorem C_ff {T : Nat → Int32} {L : Nat} {M : Mem} {R : Int32 → Mem → Prop} (t : TX T L M) (k : ∀ M', (∀ q, q ≠ 10 → M' q = M q) → M' 10 1 = nI L → ((pA T L).1 = true → M' 10 2 = nI (pA T L).2.2.1 ∧ M' 10 3 = nI (pA T L).2.2.2) → R (if (pA T L).1 = true then -9 else nI (pA T L).2.1) M') : wp_Text_firstFault M R := by
  intro X24 X83 h24 h83 M22 e22 M23 e23
  obtain ⟨t1, t2, t3⟩ := t
  generalize hB : pA T L = B at k
  have TXof : ∀ M1 : Mem, (∀ q, q ≠ 10 → M1 q = M q) → M1 10 1 = nI L → TX T L M1 := fun M1 fr e1 => ⟨t1, e1, fun j hj => by rw [fr 11 (by decide)]; exact t3 j hj⟩
  have fin : ∀ (n m : Nat) (M1 : Mem), n ≤ 6 → m ≤ 5 → (∀ q, q ≠ 10 → M1 q = M q) → M1 10 1 = nI L → M1 10 2 = nI n → M1 10 3 = nI m → fnE L n m = B → wp_Text_firstFault_132 X24 X83 R (nI (1 + 5 * n + 3 * m)) M1 := by
    intro n m M1 hn hm fr e1 e2 e3 hb
    unfold fnE at hb
    unfold wp_Text_firstFault_132
    rw [e3, e1]
    by_cases c : m = 0
    · rw [if_pos c] at hb
      have := k M1 fr e1 (fun z => by rw [← hb] at z; cases z)
      rw [← hb, if_neg (by simp)] at this
      exact ⟨fun _ => this, fun z => absurd (by rw [c]; decide) z⟩
    · rw [if_neg c] at hb
      refine ⟨fun z => absurd z (nI_nle (by omega) (by omega)), fun _ => ?_⟩
      by_cases c2 : 1 + 5 * n + 3 * m = L
      · rw [if_pos c2] at hb
        have := k M1 fr e1 (fun _ => by rw [← hb]; exact ⟨e2, e3⟩)
        rw [← hb, if_pos rfl] at this
        exact ⟨fun z => absurd (by rw [c2]) z, fun _ => this⟩
      · rw [if_neg c2] at hb
        have := k M1 fr e1 (fun z => by rw [← hb] at z; cases z)
        rw [← hb, if_neg (by simp)] at this
        exact ⟨fun _ => this, fun z => absurd ((nI_eq (by omega) (by omega)).mp z) c2⟩
  have keyG : ∀ (n : Nat), n ≤ 6 → ∀ (d m : Nat), m + d = 5 → ∀ M1 : Mem, (∀ q, q ≠ 10 → M1 q = M q) → M1 10 1 = nI L → M1 10 2 = nI n → M1 10 3 = nI m → pG T L n d m = B → X83 (nI (1 + 5 * n + 3 * m)) M1 := by
    intro n hn d
    induction d with
    | zero =>
      intro m hm M1 fr e1 e2 e3 hb
      refine h83 _ _ ⟨fun _ => fin n m M1 hn (by omega) fr e1 e2 e3 hb, fun z => absurd ?_ z⟩
      rw [e3]
      exact nI_le (a := 5) (by omega) (by omega)
    | succ d ih =>
      intro m hm M1 fr e1 e2 e3 hb
      rw [show pG T L n (d + 1) m = if tcv T L (1 + 5 * n + 3 * m) = 44 then (if gK T L (1 + 5 * n + 3 * m) = 3 then pG T L n d (m + 1) else (false, 1 + 5 * n + 3 * m + gK T L (1 + 5 * n + 3 * m), n, m)) else fnE L n m from rfl] at hb
      have tx := TXof M1 fr e1
      refine h83 _ _ ⟨fun z => absurd z ?_, fun _ => C_code (by omega) tx ⟨fun z => ?_, fun z => ?_⟩⟩
      · rw [e3]
        exact nI_ge (b := 5) (by omega) (by omega)
      · rw [if_neg z] at hb
        exact fin n m M1 hn (by omega) fr e1 e2 e3 hb
      · rw [if_pos z] at hb
        obtain ⟨g1, g2⟩ := gK_le T L (1 + 5 * n + 3 * m)
        refine C_goodGuest (by omega) tx ?_
        have i3 : ((3 : Int32) ≤ nI (gK T L (1 + 5 * n + 3 * m))) ↔ 3 ≤ gK T L (1 + 5 * n + 3 * m) := le_nI (a := 3) (by omega) (by omega)
        refine ⟨fun z2 => ?_, fun z2 => ?_⟩
        · have z3 := i3.mp z2
          rw [if_pos (by omega)] at hb
          intro M8 e8 y ey
          rw [ey, show nI (1 + 5 * n + 3 * m) + (3 : Int32) = nI (1 + 5 * n + 3 * (m + 1)) from (nI_add _ 3)]
          refine ih (m + 1) (by omega) M8 (fun q hq => by rw [e8, ms_n hq]; exact fr q hq) ?_ ?_ ?_ hb
          · rw [e8, ms_s, up_n (by decide)]; exact e1
          · rw [e8, ms_s, up_n (by decide)]; exact e2
          · rw [e8, ms_s, up_s, e3, nI_1]
        · have z3 : ¬ 3 ≤ gK T L (1 + 5 * n + 3 * m) := fun q => z2 (i3.mpr q)
          rw [if_neg (by omega)] at hb
          have := k M1 fr e1 (fun z => by rw [← hb] at z; cases z)
          rw [← hb, if_neg (by simp)] at this
          rw [nI_add]
          exact this
  have keyH : ∀ (d n : Nat), n + d = 6 → ∀ M1 : Mem, (∀ q, q ≠ 10 → M1 q = M q) → M1 10 1 = nI L → M1 10 2 = nI n → M1 10 3 = nI 0 → pH T L d n = B → X24 (nI (1 + 5 * n)) M1 := by
    intro d
    induction d with
    | zero =>
      intro n hn M1 fr e1 e2 e3 hb
      refine h24 _ _ ⟨fun _ => ⟨fun _ => keyG n (by omega) 5 0 (by omega) M1 fr e1 e2 e3 hb, fun z => absurd z ?_⟩, fun z => absurd ?_ z⟩
      · rw [e2]
        exact nI_ne0 (by omega) (by omega)
      · rw [e2]
        exact nI_le (a := 6) (by omega) (by omega)
    | succ d ih =>
      intro n hn M1 fr e1 e2 e3 hb
      rw [show pH T L (d + 1) n = if tcv T L (1 + 5 * n) = 59 then (if hK T L (1 + 5 * n) = 5 then pH T L d (n + 1) else (false, 1 + 5 * n + hK T L (1 + 5 * n), n, 0)) else if n = 0 then (false, 1, 0, 0) else pG T L n 5 0 from rfl] at hb
      have tx := TXof M1 fr e1
      refine h24 _ _ ⟨fun z => absurd z ?_, fun _ => C_code (by omega) tx ⟨fun z => ?_, fun z => ?_⟩⟩
      · rw [e2]
        exact nI_ge (b := 6) (by omega) (by omega)
      · rw [if_neg z] at hb
        by_cases c : n = 0
        · rw [if_pos c] at hb
          have := k M1 fr e1 (fun z => by rw [← hb] at z; cases z)
          rw [← hb, if_neg (by simp)] at this
          subst c
          exact ⟨fun z => absurd (by rw [e2]; rfl) z, fun _ => this⟩
        · rw [if_neg c] at hb
          exact ⟨fun _ => keyG n (by omega) 5 0 (by omega) M1 fr e1 e2 e3 hb, fun z => absurd z (by rw [e2]; exact nI_ne0 (by omega) (by omega))⟩
      · rw [if_pos z] at hb
        obtain ⟨g1, g2⟩ := hK_le T L (1 + 5 * n)
        refine C_goodHouse (by omega) tx ?_
        have i3 : ((5 : Int32) ≤ nI (hK T L (1 + 5 * n))) ↔ 5 ≤ hK T L (1 + 5 * n) := le_nI (a := 5) (by omega) (by omega)
        refine ⟨fun z2 => ?_, fun z2 => ?_⟩
        · have z3 := i3.mp z2
          rw [if_pos (by omega)] at hb
          intro M8 e8 y ey
          rw [ey, show nI (1 + 5 * n) + (5 : Int32) = nI (1 + 5 * (n + 1)) from (nI_add _ 5)]
          refine ih (n + 1) (by omega) M8 (fun q hq => by rw [e8, ms_n hq]; exact fr q hq) ?_ ?_ ?_ hb
          · rw [e8, ms_s, up_n (by decide)]; exact e1
          · rw [e8, ms_s, up_s, e2, nI_1]
          · rw [e8, ms_s, up_n (by decide)]; exact e3
        · have z3 : ¬ 5 ≤ hK T L (1 + 5 * n) := fun q => z2 (i3.mpr q)
          rw [if_neg (by omega)] at hb
          have := k M1 fr e1 (fun z => by rw [← hb] at z; cases z)
          rw [← hb, if_neg (by simp)] at this
          rw [nI_add]
          exact this
  have fr : ∀ q, q ≠ 10 → M23 q = M q := fun q hq => by rw [e23, ms_n hq, e22, ms_n hq]
  have g1 : M23 10 1 = nI L := by rw [e23, ms_s, up_n (by decide), e22, ms_s, up_n (by decide)]; exact t2
  have g2 : M23 10 2 = nI 0 := by rw [e23, ms_s, up_n (by decide), e22, ms_s, up_s]; rfl
  have g3 : M23 10 3 = nI 0 := by rw [e23, ms_s, up_s]; rfl
  unfold pA at hB
  refine C_code (x := 0) (by omega) (TXof M23 fr g1) ⟨fun z => ?_, fun z => ?_⟩
  · rw [if_pos z] at hB
    exact keyH 6 0 (by omega) M23 fr g1 g2 g3 hB
  · rw [if_neg z] at hB
    have := k M23 fr g1 (fun z => by rw [← hB] at z; cases z)
    rw [← hB, if_neg (by simp)] at this
    exact this
