def gfI (D : Mem) (n m g : Nat) (s : Nat × Int32) : Nat → Nat × Int32
  | 0 => s
  | k + 1 => if (gfI D n m g s k).1 < cnt m (resN (wG D g (D 4 g ||| bit (nI k))) n m) then (cnt m (resN (wG D g (D 4 g ||| bit (nI k))) n m), (10 : Int32) * nI g + nI k) else gfI D n m g s k
def gfO (D : Mem) (n m : Nat) : Nat → Nat × Int32
  | 0 => (cnt m (resN D n m), -9)
  | g + 1 => gfI D n m g (gfO D n m g) 6
theorem gfI_succ (D : Mem) (n m g : Nat) (s : Nat × Int32) (k : Nat) : gfI D n m g s (k + 1) = if (gfI D n m g s k).1 < cnt m (resN (wG D g (D 4 g ||| bit (nI k))) n m) then (cnt m (resN (wG D g (D 4 g ||| bit (nI k))) n m), (10 : Int32) * nI g + nI k) else gfI D n m g s k := rfl
theorem gfO_succ (D : Mem) (n m g : Nat) : gfO D n m (g + 1) = gfI D n m g (gfO D n m g) 6 := rfl
theorem gfI_le {D : Mem} {n m g : Nat} {s : Nat × Int32} (hm : m ≤ 5) (hs : s.1 ≤ 5) : ∀ k, (gfI D n m g s k).1 ≤ 5 := by
  intro k
  induction k with
  | zero => exact hs
  | succ k ih =>
    rw [gfI_succ]
    have := cnt_le (f := resN (wG D g (D 4 g ||| bit (nI k))) n m) hm
    split
    · exact this
    · exact ih
theorem gfO_le {D : Mem} {n m : Nat} (hm : m ≤ 5) : ∀ g, (gfO D n m g).1 ≤ 5 := by
  intro g
  induction g with
  | zero => exact cnt_le hm
  | succ g ih => rw [gfO_succ]; exact gfI_le hm ih 6
theorem C_gift {n m : Nat} (hn : n ≤ 6) (hm : m ≤ 5) {M : Mem} {R : Mem → Prop} (e5 : M 12 5 = nI n) (e6 : M 12 6 = nI m) (k : ∀ M', SE M M' → M' 25 3 = nI (gfO (dC M) n m m).1 → M' 25 2 = (gfO (dC M) n m m).2 → R M') : wp_Trials_findGift M R := by
  intro X19 X42 hX19 hX42 M16 e16
  have fr16 : SE M M16 := by rw [e16]; exact SE.rf.set rfl _
  have key : ∀ (d g : Nat), g + d = m → ∀ M1 : Mem, SE M M1 → M1 25 3 = nI (gfO (dC M) n m g).1 → M1 25 2 = (gfO (dC M) n m g).2 → X19 (nI g) M1 := by
    intro d
    induction d with
    | zero =>
      intro g hg M1 fr g3 g2
      have : g = m := by omega
      subst this
      exact hX19 _ _ ⟨fun _ => k M1 fr g3 g2, fun z => absurd (by rw [fr 12 6 rfl, e6]; exact Int32.le_refl _) z⟩
    | succ d ih =>
      intro g hg M1 fr g3 g2
      have hin : vp_in (nI g) 5 := vp_in_nI (by omega) (by omega)
      have hc : (nI g).toNatClampNeg = g := nI_clamp (by omega)
      refine hX19 _ _ ⟨fun z => absurd z (by rw [fr 12 6 rfl, e6]; exact nI_ge (by omega) (by omega)), fun _ => ⟨hin, ?_⟩⟩
      intro x2 ex2
      rw [hc, fr 17 g rfl] at ex2
      have inner : ∀ (d2 z : Nat), z + d2 = 6 → ∀ (M2 : Mem) (v : Int32), SE (mset M 17 g v) M2 → M2 25 3 = nI (gfI (dC M) n m g (gfO (dC M) n m g) z).1 → M2 25 2 = (gfI (dC M) n m g (gfO (dC M) n m g) z).2 → X42 (nI g) x2 (nI z) M2 := by
        intro d2
        induction d2 with
        | zero =>
          intro z hz M2 v fr2 q3 q2
          have : z = 6 := by omega
          subst this
          refine hX42 _ _ _ _ ⟨fun _ => ⟨hin, ?_⟩, fun q => absurd (by decide) q⟩
          intro M6 e6' y ey
          rw [ey, nI_1]
          rw [hc] at e6'
          refine ih (g + 1) (by omega) M6 ?_ ?_ ?_
          · have := fr2.put 17 g x2
            rw [mm, ms_self ex2] at this
            rw [e6']
            exact this
          · rw [e6', ms_n (by decide), q3]; rfl
          · rw [e6', ms_n (by decide), q2]; rfl
        | succ d2 ih2 =>
          intro z hz M2 v fr2 q3 q2
          refine hX42 _ _ _ _ ⟨fun q => absurd q (nI_ge (b := 6) (by omega) (by omega)), fun _ => ⟨hin, ?_⟩⟩
          intro M9 e9
          rw [hc] at e9
          have fr9 : SE (mset M 17 g (x2 ||| bit (nI z))) M9 := by
            have := fr2.put 17 g (x2 ||| bit (nI z))
            rw [mm] at this
            rw [e9]
            exact this
          have eD : dC M9 = wG (dC M) g (dC M 4 g ||| bit (nI z)) := by
            rw [fr9.dC, dC_G, ex2]
            rfl
          have q3' : M9 25 3 = nI (gfI (dC M) n m g (gfO (dC M) n m g) z).1 := by rw [e9, ms_n (by decide), q3]
          have q2' : M9 25 2 = (gfI (dC M) n m g (gfO (dC M) n m g) z).2 := by rw [e9, ms_n (by decide), q2]
          refine C_byNumbers hn hm (by rw [fr9 12 5 rfl]; exact e5) (by rw [fr9 12 6 rfl]; exact e6) (fun M10 f1 f2 => ?_)
          rw [eD]
          have p3 : M10 25 3 = nI (gfI (dC M) n m g (gfO (dC M) n m g) z).1 := by rw [f1 25 (by decide) (by decide) (by decide)]; exact q3'
          have p2 : M10 25 2 = (gfI (dC M) n m g (gfO (dC M) n m g) z).2 := by rw [f1 25 (by decide) (by decide) (by decide)]; exact q2'
          have fr10 := fr9.tr f1.se
          have hle := gfI_le (D := dC M) (n := n) (g := g) (s := gfO (dC M) n m g) hm (gfO_le hm g) z
          have hcn := cnt_le (f := resN (wG (dC M) g (dC M 4 g ||| bit (nI z))) n m) hm
          rw [p3]
          refine ⟨fun c => ?_, fun c => ?_⟩
          · have c' : ¬ (gfI (dC M) n m g (gfO (dC M) n m g) z).1 < cnt m (resN (wG (dC M) g (dC M 4 g ||| bit (nI z))) n m) := fun q => absurd c (nI_ge q (by omega))
            intro y ey
            rw [ey, nI_1]
            refine ih2 (z + 1) (by omega) M10 _ fr10 ?_ ?_
            · rw [gfI_succ, if_neg c']; exact p3
            · rw [gfI_succ, if_neg c']; exact p2
          · have c' : (gfI (dC M) n m g (gfO (dC M) n m g) z).1 < cnt m (resN (wG (dC M) g (dC M 4 g ||| bit (nI z))) n m) := by
              rcases Nat.lt_or_ge (gfI (dC M) n m g (gfO (dC M) n m g) z).1 (cnt m (resN (wG (dC M) g (dC M 4 g ||| bit (nI z))) n m)) with q | q
              · exact q
              · exact absurd (nI_le q (by omega)) c
            intro M13 e13 M14 e14 y ey
            rw [ey, nI_1]
            refine ih2 (z + 1) (by omega) M14 (x2 ||| bit (nI z)) ?_ ?_ ?_
            · rw [e14, e13]
              exact (fr10.set rfl _).set rfl _
            · rw [gfI_succ, if_pos c', e14, ms_s, up_n (by decide), e13, ms_s, up_s]
            · rw [gfI_succ, if_pos c', e14, ms_s, up_s]
      refine inner 6 0 (by omega) M1 x2 ?_ g3 g2
      rw [ms_self ex2]
      exact fr
  refine C_byNumbers hn hm (by rw [fr16 12 5 rfl]; exact e5) (by rw [fr16 12 6 rfl]; exact e6) (fun M17 f1 f2 => ?_)
  intro M19 e19
  rw [fr16.dC] at e19
  refine key m 0 (by omega) M19 ?_ ?_ ?_
  · rw [e19]
    exact (fr16.tr f1.se).set rfl _
  · rw [e19, ms_s, up_s]; rfl
  · rw [e19, ms_s, up_n (by decide), f1 25 (by decide) (by decide) (by decide), e16, ms_s, up_s]; rfl
theorem gear_or {a z : Nat} (ha : a < 64) (hz : z < 6) : ∃ y, y < 64 ∧ nI a ||| bit (nI z) = nI y := by
  rw [bit_pow z hz, fa_or]
  refine ⟨a ||| 2 ^ z, Nat.or_lt_two_pow (n := 6) ha ?_, rfl⟩
  exact Nat.pow_lt_pow_right (n := 6) (a := 2) (by omega) hz
theorem D_gift {n m : Nat} (hn : n ≤ 6) (h0 : 0 < n) (hm : m ≤ 5) {a : Int32} (ha : ¬ a < 0 ∧ ¬ 1 < a) {M : Mem} {R : Int32 → Mem → Prop} (e5 : M 29 5 = nI n) (e6 : M 29 6 = nI m) (ok : okD (dM M) n m) (k : ∀ M', SE M M' → (a = 0 → R (gfO (dM M) n m m).2 M') ∧ (¬ a = 0 → R (nI (gfO (dM M) n m m).1) M')) : wp_Model_gift a M R := by
  intro X37 X58 hX37 hX58
  rw [e_within_y ha.1 ha.2]
  refine ⟨fun _ => ⟨fun _ => ?_, fun z => absurd (by rw [e5] at z; exact z) (nI_ne0 h0 (by omega))⟩, fun z => absurd z (by decide)⟩
  have key : ∀ (d g : Nat), g + d = m → ∀ M1 : Mem, SE M M1 → X37 a (nI (gfO (dM M) n m g).1) (gfO (dM M) n m g).2 (nI g) M1 := by
    intro d
    induction d with
    | zero =>
      intro g hg M1 fr
      have : g = m := by omega
      subst this
      have fin := k M1 fr
      exact hX37 _ _ _ _ _ ⟨fun _ => ⟨fin.2, fin.1⟩, fun z => absurd (by rw [fr 29 6 rfl, e6]; exact Int32.le_refl _) z⟩
    | succ d ih =>
      intro g hg M1 fr
      have hin : vp_in (nI g) 5 := vp_in_nI (by omega) (by omega)
      have hc : (nI g).toNatClampNeg = g := nI_clamp (by omega)
      refine hX37 _ _ _ _ _ ⟨fun z => absurd z (by rw [fr 29 6 rfl, e6]; exact nI_ge (by omega) (by omega)), fun _ => ⟨hin, ?_⟩⟩
      intro x2 ex2
      rw [hc, fr 37 g rfl] at ex2
      obtain ⟨own, hown, eown⟩ := ok.2 g (by omega)
      have inner : ∀ (d2 z : Nat), z + d2 = 6 → ∀ (M2 : Mem) (v : Int32), SE (mset M 37 g v) M2 → X58 a (nI (gfI (dM M) n m g (gfO (dM M) n m g) z).1) (gfI (dM M) n m g (gfO (dM M) n m g) z).2 (nI g) x2 (nI z) M2 := by
        intro d2
        induction d2 with
        | zero =>
          intro z hz M2 v fr2
          have : z = 6 := by omega
          subst this
          refine hX58 _ _ _ _ _ _ _ ⟨fun _ => ⟨hin, ?_⟩, fun q => absurd (by decide) q⟩
          intro M6 e6' y ey
          rw [ey, nI_1]
          rw [hc] at e6'
          refine ih (g + 1) (by omega) M6 ?_
          have := fr2.put 37 g x2
          rw [mm, ms_self ex2] at this
          rw [e6']
          exact this
        | succ d2 ih2 =>
          intro z hz M2 v fr2
          refine hX58 _ _ _ _ _ _ _ ⟨fun q => absurd q (nI_ge (b := 6) (by omega) (by omega)), fun _ => ⟨hin, ?_⟩⟩
          intro M9 e9
          rw [hc] at e9
          have fr9 : SE (mset M 37 g (x2 ||| bit (nI z))) M9 := by
            have := fr2.put 37 g (x2 ||| bit (nI z))
            rw [mm] at this
            rw [e9]
            exact this
          have eD : dM M9 = wG (dM M) g (dM M 4 g ||| bit (nI z)) := by
            rw [fr9.dM, dM_G, ex2]
            rfl
          have okG : okD (wG (dM M) g (dM M 4 g ||| bit (nI z))) n m := by
            rw [eown]
            obtain ⟨y, hy, e⟩ := gear_or hown (show z < 6 by omega)
            rw [e]
            exact ok.G g y hy
          have g6 : M9 29 6 = nI m := by rw [fr9 29 6 rfl]; exact e6
          refine D_goAll hn hm (by rw [fr9 29 5 rfl]; exact e5) g6 (by rw [eD]; exact okG) (fun M10 f1 f2 f3 => ?_)
          rw [eD] at f3
          have fr10 := fr9.tr f1.se
          have hle := gfI_le (D := dM M) (n := n) (g := g) (s := gfO (dM M) n m g) hm (gfO_le hm g) z
          have hcn := cnt_le (f := resN (wG (dM M) g (dM M 4 g ||| bit (nI z))) n m) hm
          have g6' : M10 29 6 = nI m := by rw [f1.2 6 (by decide)]; exact g6
          refine D_through (f := resN (wG (dM M) g (dM M 4 g ||| bit (nI z))) n m) hm (fun g hg => resN_out hg) g6' f3 ⟨fun c => ?_, fun c => D_through (f := resN (wG (dM M) g (dM M 4 g ||| bit (nI z))) n m) hm (fun g hg => resN_out hg) g6' f3 ?_⟩
          · have c' : ¬ (gfI (dM M) n m g (gfO (dM M) n m g) z).1 < cnt m (resN (wG (dM M) g (dM M 4 g ||| bit (nI z))) n m) := fun q => absurd c (nI_ge q (by omega))
            intro y ey
            rw [ey, nI_1]
            have := ih2 (z + 1) (by omega) M10 _ fr10
            rw [gfI_succ, if_neg c'] at this
            exact this
          · have c' : (gfI (dM M) n m g (gfO (dM M) n m g) z).1 < cnt m (resN (wG (dM M) g (dM M 4 g ||| bit (nI z))) n m) := by
              rcases Nat.lt_or_ge (gfI (dM M) n m g (gfO (dM M) n m g) z).1 (cnt m (resN (wG (dM M) g (dM M 4 g ||| bit (nI z))) n m)) with q | q
              · exact q
              · exact absurd (nI_le q (by omega)) c
            intro x3 ex3 y ey
            rw [ey, nI_1, ex3]
            have := ih2 (z + 1) (by omega) M10 _ fr10
            rw [gfI_succ, if_pos c'] at this
            exact this
      refine inner 6 0 (by omega) M1 x2 ?_
      rw [ms_self ex2]
      exact fr
  refine D_goAll hn hm e5 e6 ok (fun M23 f1 f2 f3 => D_through hm (fun g hg => resN_out hg) (by rw [f1.2 6 (by decide)]; exact e6) f3 ?_)
  exact key m 0 (by omega) M23 f1.se
theorem st_gift : St_gift Inv := by
  intro a M h
  obtain ⟨⟨n, m, cc, hw, hr⟩, hf, hs⟩ := id h
  obtain ⟨h1, h2, h3, h4, h5, h6, h7, h8, h9, h10, h11, h12, h13, h14, h15, h16⟩ := id hw
  unfold wp_Main_gift
  rcases what_cl a with ⟨g1, g2⟩ | ⟨z, hz, rfl, w1, w2⟩
  · rw [e_isBelow_n g1]
    refine ⟨fun q => absurd rfl q, fun _ => ?_⟩
    intro X Y hX hY
    rw [e_within_n g2]
    exact ⟨fun q => absurd rfl q, fun _ => ⟨rfl, h⟩⟩
  rw [e_isBelow_y (N := 2) (n := 2) rfl hz (by omega)]
  refine ⟨fun _ => ?_, fun q => absurd q (by decide)⟩
  rcases Nat.eq_zero_or_pos n with h0 | h0
  · subst h0
    refine C_told0 h4 ⟨fun q => absurd rfl q, fun _ => ?_⟩
    intro X Y hX hY
    rw [e_within_y w1 w2]
    exact ⟨fun _ => ⟨fun q => absurd h5 q, fun _ => ⟨rfl, h⟩⟩, fun q => absurd q (by decide)⟩
  refine C_told1 h1 h0 h4 ⟨fun _ => C_gift h1 h2 h4 h6 (fun M1 fr g3 g2 => ?_), fun q => absurd q (by decide)⟩
  have hw1 := hw.se fr
  have h' := h.se fr
  obtain ⟨-, -, -, -, k5, -, k7, -, k9, -⟩ := id hw1
  have eD : dM M1 = dC M := by rw [dM_eq hw1, fr.dC]
  refine ⟨fun q => D_gift h1 h0 h2 ⟨w1, w2⟩ k5 k7 (by rw [eD]; exact okD_of hw) (fun M' fr' => ⟨fun z => absurd z q, fun _ => ⟨?_, h'.se fr'⟩⟩), fun q => D_gift h1 h0 h2 ⟨w1, w2⟩ k5 k7 (by rw [eD]; exact okD_of hw) (fun M' fr' => ⟨fun _ => ⟨?_, h'.se fr'⟩, fun z => absurd q z⟩)⟩
  · rw [g3, eD]
  · rw [g2, eD]
