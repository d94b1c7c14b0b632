theorem lay_in {i h : Nat} {v f : Nat → Int32} (c : h < i) : lay i v f h = v h := by
  unfold lay
  rw [if_pos c]
theorem st_way : St_way Inv := by
  intro a b i L M h
  obtain ⟨⟨n, m, cc, hw, hr⟩, hf, hs⟩ := id h
  obtain ⟨h1, h2, h3, h4, h5, h6, h7, h8, h9, h10, h11, h12, h13, h14, h15, h16⟩ := id hw
  intro M1 e1
  have f1 : ∀ q, q ≠ 0 → M1 q = M q := fun q hq => by rw [e1, ms_n hq]
  have inv1 : Inv (mset M1 29 0 0) := by rw [e1]; exact h.flt 0
  rcases sh_cl a with ⟨g1, g2⟩ | ⟨k, hk, rfl⟩
  · rw [e_sheetOf_n g1]
    refine ⟨fun _ => ?_, fun q e => by cases e⟩
    intro X Y hX hY M21 e21
    rw [e_isSheet_n g2, e21]
    exact ⟨fun z => absurd rfl z, fun _ => ⟨rfl, inv1⟩⟩
  rw [e_sheetOf_y hk]
  refine ⟨fun e => (by cases e), fun q3 e hq => ?_⟩
  cases e
  rcases lane_cl b with ⟨g1, g2⟩ | ⟨c, hc, rfl⟩
  · rw [e_isBelow_n g1]
    refine ⟨fun z => absurd rfl z, fun _ => ?_⟩
    intro X Y hX hY M21 e21
    rw [e_isSheet_y hk]
    refine ⟨fun _ => ?_, fun z => absurd z (by decide)⟩
    rw [e_isSort_n g2, e21]
    exact ⟨fun z => absurd rfl z, fun _ => ⟨rfl, inv1⟩⟩
  rw [e_isBelow_y (N := 3) (n := 3) rfl hc (by omega)]
  refine ⟨fun _ => ?_, fun z => absurd z (by decide)⟩
  have sk := hs k hk
  have ag := ft_ag sk (nI c) i L
  refine C_ft ?_
  rw [f1 (2 + k) (by omega)]
  by_cases ft : ftF (M (2 + k) 1) (M (2 + k) 2) (M (2 + k) 3) (nI c) i L = 0
  rotate_left
  · refine ⟨fun z => absurd z ft, fun _ => ?_⟩
    generalize ftF (M (2 + k) 1) (M (2 + k) 2) (M (2 + k) 3) (nI c) i L = v at *
    intro M17 e17
    rw [e1, mm] at e17
    have f17 : ∀ q, q ≠ 0 → M17 q = M q := fun q hq => by rw [e17, ms_n hq]
    intro X Y hX hY M21 e21
    rw [e_isSheet_y hk]
    refine ⟨fun _ => ?_, fun z => absurd z (by decide)⟩
    rw [e_isSort_y hc]
    refine ⟨fun _ => ?_, fun z => absurd z (by decide)⟩
    refine D_ag hk ?_
    rw [show M21 30 = M 30 by rw [e21, ms_n (by decide)]; exact f17 30 (by decide), show M21 31 = M 31 by rw [e21, ms_n (by decide)]; exact f17 31 (by decide), ag]
    refine ⟨fun z => absurd z ft, fun _ => ?_⟩
    intro M38 e38
    rw [e21, mm, e17] at e38
    exact ⟨rfl, by rw [e38]; exact h.flt v⟩
  refine ⟨fun _ => ?_, fun z => absurd ft z⟩
  obtain ⟨s1, ⟨le, hle, s2, s3⟩, s4⟩ := id sk
  rw [s2] at ft
  obtain ⟨ii, nn, rfl, rfl, hlen, -, -⟩ := ft_zero hle ft
  rw [s2, ft] at ag
  have hT1 : ∀ j, j < nn → M1 (6 + k) (ii + j) = (fun j => M (6 + k) (ii + j)) j := fun j hj => by rw [f1 (6 + k) (by omega)]
  have hT2 : ∀ j, j < nn → M 32 (60 * k + ii + j) = (fun j => M (6 + k) (ii + j)) j := fun j hj => by
    show _ = M (6 + k) (ii + j)
    rw [s1 (ii + j) (by omega), Nat.add_assoc]
  generalize hTT : (fun j => M (6 + k) (ii + j)) = T at hT1 hT2
  refine C_way0 (R := fun r M1 => wp_Model_way (nI k) (nI c) (nI ii) (nI nn) M1 (fun r2 M2 => r = r2 ∧ Inv M2)) hk (by omega) hT1 (fun bad M2 fr => ?_) (fun ok M2 fr c5 c6 c7 c26 c13 c14 c15 c16 c17 => ?_)
  · have o : ∀ q, (∀ j, scr q j = false) → q ≠ 0 → M2 q = M q := fun q hq q0 => by rw [fr.r hq]; exact f1 q q0
    refine D_way hk hc (by omega) (by rw [o 30 (fun _ => rfl) (by decide), o 31 (fun _ => rfl) (by decide)]; exact ag) (fun j hj => by rw [o 32 (fun _ => rfl) (by decide)]; exact hT2 j hj) (fun _ M3 fr3 => ⟨rfl, ?_⟩) (fun ok => absurd ok bad)
    exact h.end2 0 (by rw [← e1]; exact fr) fr3
  · obtain ⟨-, a2⟩ := pA_ok T nn
    obtain ⟨⟨b1, b2, b3, b4⟩, b5, b6⟩ := a2 ok
    have o : ∀ q, ¬ (10 ≤ q ∧ q ≤ 17) → q ≠ 26 → q ≠ 0 → M2 q = M q := fun q h1 h2 h0 => by rw [fr q h1 h2]; exact f1 q h0
    refine D_way hk hc (by omega) (by rw [o 30 (by omega) (by decide) (by decide), o 31 (by omega) (by decide) (by decide)]; exact ag) (fun j hj => by rw [o 32 (by omega) (by decide) (by decide)]; exact hT2 j hj) (fun bad => absurd ok bad) (fun _ M3 fr3 z0 z1 z12 d5 d6 d23 d13 d14 d15 d16 d17 => ⟨rfl, ?_⟩)
    have p : ∀ q, q ≠ 29 → ¬ (33 ≤ q ∧ q ≤ 39) → M3 q = M2 q := fr3
    have pp : ∀ q, q ≠ 29 → ¬ (33 ≤ q ∧ q ≤ 39) → ¬ (10 ≤ q ∧ q ≤ 17) → q ≠ 26 → q ≠ 0 → M3 q = M q := fun q x1 x2 x3 x4 x5 => (fr3 q x1 x2).trans (o q x3 x4 x5)
    generalize (pA T nn).2.2.1 = n' at *
    generalize (pA T nn).2.2.2 = m' at *
    have q12 : M3 12 = M2 12 := p 12 (by decide) (by omega)
    obtain ⟨r1, r2, r3, r4, r5, r6⟩ := hr
    have w13 : M3 13 = lay n' (vK T nn) (M1 13) := by rw [p 13 (by decide) (by omega)]; exact c13
    have w14 : M3 14 = lay n' (vD T nn 2) (M1 14) := by rw [p 14 (by decide) (by omega)]; exact c14
    have w15 : M3 15 = lay n' (vD T nn 3) (M1 15) := by rw [p 15 (by decide) (by omega)]; exact c15
    have w16 : M3 16 = lay n' (vD T nn 4) (M1 16) := by rw [p 16 (by decide) (by omega)]; exact c16
    have w17 : M3 17 = lay m' (vG T nn n') (M1 17) := by rw [p 17 (by decide) (by omega)]; exact c17
    refine ⟨⟨n', m', 0, ⟨b2, b4, by omega, by rw [q12]; exact c5, d5, by rw [q12]; exact c6, d6, ?_, ?_, ?_, ?_, ?_, ?_, ?_, ?_, ?_⟩, ⟨by omega, ?_, ?_, ?_, ?_, fun r hr => by omega⟩⟩, ⟨?_, ?_⟩, ?_⟩
    · rw [q12, c7, f1 12 (by decide)]; exact h8
    · rw [z12, o 29 (by omega) (by decide) (by decide)]; exact h9
    · rw [d13, w13, o 33 (by omega) (by decide) (by decide), f1 13 (by decide), h10]
    · rw [d14, w14, o 34 (by omega) (by decide) (by decide), f1 14 (by decide), h11]
    · rw [d15, w15, o 35 (by omega) (by decide) (by decide), f1 15 (by decide), h12]
    · rw [d16, w16, o 36 (by omega) (by decide) (by decide), f1 16 (by decide), h13]
    · rw [d17, w17, o 37 (by omega) (by decide) (by decide), f1 17 (by decide), h14]
    · intro x hx
      rw [w13, w14, w15, w16, lay_in hx, lay_in hx, lay_in hx, lay_in hx]
      exact hK_vals (b5 x hx)
    · intro x hx
      rw [w17, lay_in hx]
      exact gK_vals (b6 x hx)
    · rw [p 26 (by decide) (by omega)]; exact c26
    · exact d23
    · rw [pp 44 (by decide) (by omega) (by omega) (by decide) (by decide), pp 27 (by decide) (by omega) (by omega) (by decide) (by decide)]; exact r4
    · rw [pp 45 (by decide) (by omega) (by omega) (by decide) (by decide), pp 28 (by decide) (by omega) (by omega) (by decide) (by decide)]; exact r5
    · rw [z1, o 29 (by omega) (by decide) (by decide), p 0 (by decide) (by omega), fr 0 (by omega) (by decide), e1, ms_s, up_n (by decide)]
      exact hf.1
    · rw [z0, p 0 (by decide) (by omega), fr 0 (by omega) (by decide), e1, ms_s, up_s]
    · intro q hq
      have u2 : M3 (2 + q) = M (2 + q) := pp _ (by omega) (by omega) (by omega) (by omega) (by omega)
      have u6 : M3 (6 + q) = M (6 + q) := pp _ (by omega) (by omega) (by omega) (by omega) (by omega)
      have u30 : M3 30 = M 30 := pp _ (by omega) (by omega) (by omega) (by omega) (by omega)
      have u31 : M3 31 = M 31 := pp _ (by omega) (by omega) (by omega) (by omega) (by omega)
      have u32 : M3 32 = M 32 := pp _ (by omega) (by omega) (by omega) (by omega) (by omega)
      unfold ShS
      rw [u2, u6, u30, u31, u32]
      exact hs q hq
theorem st_all : StAll Inv := ⟨st_way, st_ofHouse, st_gear, st_give, st_bar, st_passes, st_visits, st_going, st_least, st_hard, st_best, st_twos, st_gift, st_worst, st_reading, st_back, st_had, st_kinds, st_odds, st_sheet, st_lose, st_put, st_cell, st_copy, st_tell, st_knock, st_as, st_trace, st_fault, st_many⟩
