theorem fnE_ok {L n m : Nat} (hm : m ≤ 5) : (fnE L n m).2.1 = 1 + 5 * n + 3 * m ∧ ((fnE L n m).1 = true → (fnE L n m).2.2.1 = n ∧ (fnE L n m).2.2.2 = m ∧ 0 < m) := by
  unfold fnE
  by_cases c : m = 0
  · rw [if_pos c]
    exact ⟨rfl, fun z => by cases z⟩
  · rw [if_neg c]
    by_cases c2 : 1 + 5 * n + 3 * m = L
    · rw [if_pos c2]
      exact ⟨rfl, fun _ => ⟨rfl, rfl, by omega⟩⟩
    · rw [if_neg c2]
      exact ⟨rfl, fun z => by cases z⟩
theorem pG_ok {T : Nat → Int32} {L n : Nat} (hn : n ≤ 6) : ∀ (d m : Nat), m + d = 5 → (∀ g, g < m → gK T L (1 + 5 * n + 3 * g) = 3) → (pG T L n d m).2.1 < 100 ∧ ((pG T L n d m).1 = true → (pG T L n d m).2.2.1 = n ∧ 0 < (pG T L n d m).2.2.2 ∧ (pG T L n d m).2.2.2 ≤ 5 ∧ ∀ g, g < (pG T L n d m).2.2.2 → gK T L (1 + 5 * n + 3 * g) = 3) := by
  intro d
  induction d with
  | zero =>
    intro m hm hg
    obtain ⟨f1, f2⟩ := fnE_ok (L := L) (n := n) (m := m) (by omega)
    refine ⟨by show (fnE L n m).2.1 < 100; omega, fun z => ?_⟩
    obtain ⟨a1, a2, a3⟩ := f2 z
    show (fnE L n m).2.2.1 = n ∧ 0 < (fnE L n m).2.2.2 ∧ (fnE L n m).2.2.2 ≤ 5 ∧ ∀ g, g < (fnE L n m).2.2.2 → gK T L (1 + 5 * n + 3 * g) = 3
    rw [a2]
    exact ⟨a1, a3, by omega, hg⟩
  | succ d ih =>
    intro m hm hg
    rw [show pG T L n (d + 1) m = if tcv T L (1 + 5 * n + 3 * m) = 44 then (if gK T L (1 + 5 * n + 3 * m) = 3 then pG T L n d (m + 1) else (false, 1 + 5 * n + 3 * m + gK T L (1 + 5 * n + 3 * m), n, m)) else fnE L n m from rfl]
    by_cases c : tcv T L (1 + 5 * n + 3 * m) = 44
    · rw [if_pos c]
      by_cases c2 : gK T L (1 + 5 * n + 3 * m) = 3
      · rw [if_pos c2]
        refine ih (m + 1) (by omega) (fun g h => ?_)
        by_cases e : g = m
        · rw [e]; exact c2
        · exact hg g (by omega)
      · rw [if_neg c2]
        have := (gK_le T L (1 + 5 * n + 3 * m)).2
        exact ⟨by dsimp only; omega, fun z => by cases z⟩
    · rw [if_neg c]
      obtain ⟨f1, f2⟩ := fnE_ok (L := L) (n := n) (m := m) (by omega)
      refine ⟨by omega, fun z => ?_⟩
      obtain ⟨a1, a2, a3⟩ := f2 z
      rw [a2]
      exact ⟨a1, a3, by omega, hg⟩
theorem pH_ok {T : Nat → Int32} {L : Nat} : ∀ (d n : Nat), n + d = 6 → (∀ h, h < n → hK T L (1 + 5 * h) = 5) → (pH T L d n).2.1 < 100 ∧ ((pH T L d n).1 = true → (0 < (pH T L d n).2.2.1 ∧ (pH T L d n).2.2.1 ≤ 6 ∧ 0 < (pH T L d n).2.2.2 ∧ (pH T L d n).2.2.2 ≤ 5) ∧ (∀ h, h < (pH T L d n).2.2.1 → hK T L (1 + 5 * h) = 5) ∧ ∀ g, g < (pH T L d n).2.2.2 → gK T L (1 + 5 * (pH T L d n).2.2.1 + 3 * g) = 3) := by
  have go : ∀ n, n ≤ 6 → 0 < n → (∀ h, h < n → hK T L (1 + 5 * h) = 5) → (pG T L n 5 0).2.1 < 100 ∧ ((pG T L n 5 0).1 = true → (0 < (pG T L n 5 0).2.2.1 ∧ (pG T L n 5 0).2.2.1 ≤ 6 ∧ 0 < (pG T L n 5 0).2.2.2 ∧ (pG T L n 5 0).2.2.2 ≤ 5) ∧ (∀ h, h < (pG T L n 5 0).2.2.1 → hK T L (1 + 5 * h) = 5) ∧ ∀ g, g < (pG T L n 5 0).2.2.2 → gK T L (1 + 5 * (pG T L n 5 0).2.2.1 + 3 * g) = 3) := by
    intro n hn h0 hh
    obtain ⟨f1, f2⟩ := pG_ok (T := T) (L := L) hn 5 0 (by omega) (fun g h => by omega)
    refine ⟨f1, fun z => ?_⟩
    obtain ⟨a1, a2, a3, a4⟩ := f2 z
    rw [a1]
    exact ⟨⟨h0, hn, a2, a3⟩, hh, a4⟩
  intro d
  induction d with
  | zero =>
    intro n hn hh
    exact go n (by omega) (by omega) hh
  | succ d ih =>
    intro n hn hh
    rw [show pH T L (d + 1) n = if tcv T L (1 + 5 * n) = 59 then (if hK T L (1 + 5 * n) = 5 then pH T L d (n + 1) else (false, 1 + 5 * n + hK T L (1 + 5 * n), n, 0)) else if n = 0 then (false, 1, 0, 0) else pG T L n 5 0 from rfl]
    by_cases c : tcv T L (1 + 5 * n) = 59
    · rw [if_pos c]
      by_cases c2 : hK T L (1 + 5 * n) = 5
      · rw [if_pos c2]
        refine ih (n + 1) (by omega) (fun g h => ?_)
        by_cases e : g = n
        · rw [e]; exact c2
        · exact hh g (by omega)
      · rw [if_neg c2]
        have := (hK_le T L (1 + 5 * n)).2
        exact ⟨by dsimp only; omega, fun z => by cases z⟩
    · rw [if_neg c]
      by_cases c2 : n = 0
      · rw [if_pos c2]
        exact ⟨by dsimp only; omega, fun z => by cases z⟩
      · rw [if_neg c2]
        exact go n (by omega) (by omega) hh
theorem pA_ok (T : Nat → Int32) (L : Nat) : (pA T L).2.1 < 100 ∧ ((pA T L).1 = true → (0 < (pA T L).2.2.1 ∧ (pA T L).2.2.1 ≤ 6 ∧ 0 < (pA T L).2.2.2 ∧ (pA T L).2.2.2 ≤ 5) ∧ (∀ h, h < (pA T L).2.2.1 → hK T L (1 + 5 * h) = 5) ∧ ∀ g, g < (pA T L).2.2.2 → gK T L (1 + 5 * (pA T L).2.2.1 + 3 * g) = 3) := by
  unfold pA
  by_cases c : tcv T L 0 = 120
  · rw [if_pos c]
    exact pH_ok 6 0 (by omega) (fun h hh => by omega)
  · rw [if_neg c]
    exact ⟨by dsimp only; omega, fun z => by cases z⟩
theorem hK_vals {T : Nat → Int32} {L h : Nat} (e : hK T L (1 + 5 * h) = 5) : (∃ a, a < 3 ∧ vK T L h = nI a) ∧ (∃ a, a < 6 ∧ vD T L 2 h = nI a) ∧ (∃ a, a < 6 ∧ vD T L 3 h = nI a) ∧ ∃ a, a < 7 ∧ vD T L 4 h = nI a := by
  unfold hK at e
  by_cases c1 : kyF (tcv T L (1 + 5 * h + 1)) = -9
  · rw [if_pos c1] at e; omega
  rw [if_neg c1] at e
  by_cases c2 : dgB 6 (tcv T L (1 + 5 * h + 2)) = false
  · rw [if_pos c2] at e; omega
  rw [if_neg c2] at e
  by_cases c3 : dgB 6 (tcv T L (1 + 5 * h + 3)) = false
  · rw [if_pos c3] at e; omega
  rw [if_neg c3] at e
  by_cases c4 : dgB 7 (tcv T L (1 + 5 * h + 4)) = false
  · rw [if_pos c4] at e; omega
  have vd : ∀ (N c : Nat), ¬ dgB N (tcv T L (1 + 5 * h + c)) = false → ∃ a, a < N ∧ vD T L c h = nI a := by
    intro N c hc
    obtain ⟨a, ha, ea⟩ := dg_y (N := N) (c := tcv T L (1 + 5 * h + c)) (by
      cases q : dgB N (tcv T L (1 + 5 * h + c)) with
      | false => exact absurd q hc
      | true => rfl)
    refine ⟨a, ha, ?_⟩
    unfold vD
    rw [ea, m48]
  refine ⟨?_, vd 6 2 c2, vd 6 3 c3, vd 7 4 c4⟩
  unfold vK
  unfold kyF at c1 ⊢
  by_cases k1 : tcv T L (1 + 5 * h + 1) = 100
  · rw [if_pos k1]; exact ⟨1, by omega, rfl⟩
  rw [if_neg k1] at c1 ⊢
  by_cases k2 : tcv T L (1 + 5 * h + 1) = 104
  · rw [if_pos k2]; exact ⟨0, by omega, rfl⟩
  rw [if_neg k2] at c1 ⊢
  by_cases k3 : tcv T L (1 + 5 * h + 1) = 108
  · rw [if_pos k3]; exact ⟨2, by omega, rfl⟩
  rw [if_neg k3] at c1
  exact absurd rfl c1
theorem gK_vals {T : Nat → Int32} {L n g : Nat} (e : gK T L (1 + 5 * n + 3 * g) = 3) : ∃ a, a < 64 ∧ vG T L n g = nI a := by
  unfold gK at e
  by_cases c1 : dgB 7 (tcv T L (1 + 5 * n + 3 * g + 1)) = false
  · rw [if_pos c1] at e; omega
  rw [if_neg c1] at e
  by_cases c2 : dgB (if tcv T L (1 + 5 * n + 3 * g + 1) = 54 then 4 else 10) (tcv T L (1 + 5 * n + 3 * g + 2)) = false
  · rw [if_pos c2] at e; omega
  obtain ⟨a, ha, ea⟩ := dg_y (N := 7) (c := tcv T L (1 + 5 * n + 3 * g + 1)) (by
    cases q : dgB 7 (tcv T L (1 + 5 * n + 3 * g + 1)) with
    | false => exact absurd q c1
    | true => rfl)
  obtain ⟨b, hb, eb⟩ := dg_y (N := if tcv T L (1 + 5 * n + 3 * g + 1) = 54 then 4 else 10) (c := tcv T L (1 + 5 * n + 3 * g + 2)) (by
    cases q : dgB (if tcv T L (1 + 5 * n + 3 * g + 1) = 54 then 4 else 10) (tcv T L (1 + 5 * n + 3 * g + 2)) with
    | false => exact absurd q c2
    | true => rfl)
  have f2 := (dgF a ha 0 (by omega)).2.1
  refine ⟨10 * a + b, ?_, ?_⟩
  · by_cases c : a = 6
    · rw [if_pos (by rw [ea]; exact f2.mpr c)] at hb
      omega
    · rw [if_neg (by rw [ea]; exact fun z => c (f2.mp z))] at hb
      omega
  · unfold vG
    rw [ea, eb, m48, m48, show (10 : Int32) * nI a = nI (10 * a) from pk_mul 10 a]
    exact nI_add _ _
