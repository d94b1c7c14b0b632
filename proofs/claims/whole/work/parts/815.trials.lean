theorem SE.put {A M : Mem} (h : SE A M) (k j : Nat) (v : Int32) : SE (mset A k j v) (mset M k j v) := by
  intro q i e
  by_cases hq : q = k
  · subst hq
    rw [ms_s, ms_s]
    by_cases hi : i = j
    · rw [hi, up_s, up_s]
    · rw [up_n hi, up_n hi]
      exact h q i e
  · rw [ms_n hq, ms_n hq]
    exact h q i e
theorem ms_self {M : Mem} {k j : Nat} {v : Int32} (h : v = M k j) : mset M k j v = M := by
  funext q
  by_cases hq : q = k
  · subst hq
    rw [ms_s, h]
    funext i
    unfold upd
    by_cases hi : i = j
    · rw [if_pos hi, hi]
    · rw [if_neg hi]
  · rw [ms_n hq]
theorem SE.dC {A M : Mem} (h : SE A M) : dC M = dC A := by
  funext i
  match i with
  | 0 => exact h.r (fun _ => rfl)
  | 1 => exact h.r (fun _ => rfl)
  | 2 => exact h.r (fun _ => rfl)
  | 3 => exact h.r (fun _ => rfl)
  | 4 => exact h.r (fun _ => rfl)
  | _ + 5 => show (fun _ => M 12 7) = fun _ => A 12 7; rw [h 12 7 rfl]
theorem SE.dM {A M : Mem} (h : SE A M) : dM M = dM A := by
  funext i
  match i with
  | 0 => exact h.r (fun _ => rfl)
  | 1 => exact h.r (fun _ => rfl)
  | 2 => exact h.r (fun _ => rfl)
  | 3 => exact h.r (fun _ => rfl)
  | 4 => exact h.r (fun _ => rfl)
  | _ + 5 => show (fun _ => M 29 12) = fun _ => A 29 12; rw [h 29 12 rfl]
/-- the way with another number that all bar; with another gear of one; with another kind of one house -/
def wB (D : Mem) (k : Int32) : Mem := fun i => match i with
  | 0 => D 0 | 1 => D 1 | 2 => D 2 | 3 => D 3 | 4 => D 4 | _ => fun _ => k
def wG (D : Mem) (g : Nat) (v : Int32) : Mem := fun i => match i with
  | 0 => D 0 | 1 => D 1 | 2 => D 2 | 3 => D 3 | 4 => upd (D 4) g v | i + 5 => D (i + 5)
def wKd (D : Mem) (h : Nat) (v : Int32) : Mem := fun i => match i with
  | 0 => upd (D 0) h v | i + 1 => D (i + 1)
theorem dC_B (M : Mem) (k : Int32) : dC (mset M 12 7 k) = wB (dC M) k := by
  funext i
  match i with
  | 0 => rfl
  | 1 => rfl
  | 2 => rfl
  | 3 => rfl
  | 4 => rfl
  | _ + 5 => rfl
theorem dM_B (M : Mem) (k : Int32) : dM (mset M 29 12 k) = wB (dM M) k := by
  funext i
  match i with
  | 0 => rfl
  | 1 => rfl
  | 2 => rfl
  | 3 => rfl
  | 4 => rfl
  | _ + 5 => rfl
theorem dC_G (M : Mem) (g : Nat) (v : Int32) : dC (mset M 17 g v) = wG (dC M) g v := by
  funext i
  match i with
  | 0 => rfl
  | 1 => rfl
  | 2 => rfl
  | 3 => rfl
  | 4 => rfl
  | _ + 5 => rfl
theorem dM_G (M : Mem) (g : Nat) (v : Int32) : dM (mset M 37 g v) = wG (dM M) g v := by
  funext i
  match i with
  | 0 => rfl
  | 1 => rfl
  | 2 => rfl
  | 3 => rfl
  | 4 => rfl
  | _ + 5 => rfl
theorem dC_K (M : Mem) (h : Nat) (v : Int32) : dC (mset M 13 h v) = wKd (dC M) h v := by
  funext i
  match i with
  | 0 => rfl
  | 1 => rfl
  | 2 => rfl
  | 3 => rfl
  | 4 => rfl
  | _ + 5 => rfl
theorem dM_K (M : Mem) (h : Nat) (v : Int32) : dM (mset M 33 h v) = wKd (dM M) h v := by
  funext i
  match i with
  | 0 => rfl
  | 1 => rfl
  | 2 => rfl
  | 3 => rfl
  | 4 => rfl
  | _ + 5 => rfl
theorem okD.B {D : Mem} {n m : Nat} (h : okD D n m) (k : Int32) : okD (wB D k) n m := h
theorem okD.K {D : Mem} {n m : Nat} (h : okD D n m) (z : Nat) (k : Int32) : okD (wKd D z k) n m := h
theorem okD.G {D : Mem} {n m : Nat} (h : okD D n m) (g a : Nat) (ha : a < 64) : okD (wG D g (nI a)) n m := by
  refine ⟨h.1, fun x hx => ?_⟩
  by_cases c : x = g
  · exact ⟨a, ha, by rw [c]; exact up_s⟩
  · obtain ⟨z, hz, e⟩ := h.2 x hx
    exact ⟨z, hz, by rw [← e]; exact up_n c⟩
def wsF (D : Mem) (n m : Nat) : Nat → Nat × Int32
  | 0 => (6, -9)
  | k + 1 => if cnt m (resN (wB D (nI k)) n m) < (wsF D n m k).1 then (cnt m (resN (wB D (nI k)) n m), nI k) else wsF D n m k
theorem wsF_succ (D : Mem) (n m k : Nat) : wsF D n m (k + 1) = if cnt m (resN (wB D (nI k)) n m) < (wsF D n m k).1 then (cnt m (resN (wB D (nI k)) n m), nI k) else wsF D n m k := rfl
theorem wsF_le {D : Mem} {n m : Nat} (hm : m ≤ 5) : ∀ k, (wsF D n m k).1 ≤ 6 := by
  intro k
  induction k with
  | zero => exact Nat.le_refl 6
  | succ k ih =>
    rw [wsF_succ]
    have := cnt_le (f := resN (wB D (nI k)) n m) hm
    split
    · show cnt m _ ≤ 6
      omega
    · exact ih
theorem C_worst {n m : Nat} (hn : n ≤ 6) (hm : m ≤ 5) {M : Mem} {R : Mem → Prop} (e5 : M 12 5 = nI n) (e6 : M 12 6 = nI m) (e7 : M 12 7 = 6) (k : ∀ M', SE M M' → M' 25 3 = nI (wsF (dC M) n m 6).1 → M' 25 2 = (wsF (dC M) n m 6).2 → R M') : wp_Trials_findWorst M R := by
  intro X hX M10 e10 M11 e11
  have key : ∀ (d z : Nat), z + d = 6 → ∀ (M1 : Mem) (v : Int32), SE (mset M 12 7 v) M1 → M1 25 3 = nI (wsF (dC M) n m z).1 → M1 25 2 = (wsF (dC M) n m z).2 → X (nI z) M1 := by
    intro d
    induction d with
    | zero =>
      intro z hz M1 v fr g3 g2
      have : z = 6 := by omega
      subst this
      refine hX _ _ ⟨fun _ => ?_, fun q => absurd (by decide) q⟩
      intro M2 e2
      refine k M2 ?_ ?_ ?_
      · have := fr.put 12 7 6
        rw [mm, ms_self e7.symm] at this
        rw [e2]
        exact this
      · rw [e2, ms_n (by decide), g3]
      · rw [e2, ms_n (by decide), g2]
    | succ d ih =>
      intro z hz M1 v fr g3 g2
      refine hX _ _ ⟨fun q => absurd q (nI_ge (b := 6) (by omega) (by omega)), fun _ => ?_⟩
      intro M3 e3
      have fr3 : SE (mset M 12 7 (nI z)) M3 := by
        have := fr.put 12 7 (nI z)
        rw [mm] at this
        rw [e3]
        exact this
      have eD : dC M3 = wB (dC M) (nI z) := by rw [fr3.dC, dC_B]
      have g3' : M3 25 3 = nI (wsF (dC M) n m z).1 := by rw [e3, ms_n (by decide), g3]
      have g2' : M3 25 2 = (wsF (dC M) n m z).2 := by rw [e3, ms_n (by decide), g2]
      refine C_byNumbers hn hm (by rw [fr3 12 5 rfl]; exact e5) (by rw [fr3 12 6 rfl]; exact e6) (fun M4 f1 f2 => ?_)
      rw [eD]
      have h1 : M4 25 3 = nI (wsF (dC M) n m z).1 := by rw [f1 25 (by decide) (by decide) (by decide)]; exact g3'
      have h2 : M4 25 2 = (wsF (dC M) n m z).2 := by rw [f1 25 (by decide) (by decide) (by decide)]; exact g2'
      have fr4 := fr3.tr f1.se
      have hle := wsF_le (D := dC M) (n := n) hm z
      have hc := cnt_le (f := resN (wB (dC M) (nI z)) n m) hm
      rw [h1]
      refine ⟨fun c => ?_, fun c => ?_⟩
      · have c' : ¬ cnt m (resN (wB (dC M) (nI z)) n m) < (wsF (dC M) n m z).1 := fun q => absurd c (nI_ge q (by omega))
        intro y ey
        rw [ey, nI_1]
        refine ih (z + 1) (by omega) M4 (nI z) fr4 ?_ ?_
        · rw [wsF_succ, if_neg c']; exact h1
        · rw [wsF_succ, if_neg c']; exact h2
      · have c' : cnt m (resN (wB (dC M) (nI z)) n m) < (wsF (dC M) n m z).1 := by
          rcases Nat.lt_or_ge (cnt m (resN (wB (dC M) (nI z)) n m)) (wsF (dC M) n m z).1 with q | q
          · exact q
          · exact absurd (nI_le q (by omega)) c
        intro M7 e7' M8 e8 y ey
        rw [ey, nI_1]
        refine ih (z + 1) (by omega) M8 (nI z) ?_ ?_ ?_
        · rw [e8, e7']
          exact (fr4.set rfl _).set rfl _
        · rw [wsF_succ, if_pos c', e8, ms_s, up_n (by decide), e7', ms_s, up_s]
        · rw [wsF_succ, if_pos c', e8, ms_s, up_s]
  refine key 6 0 (by omega) M11 6 ?_ ?_ ?_
  · rw [ms_self e7.symm, e11, e10]
    exact (SE.rf.set rfl _).set rfl _
  · rw [e11, ms_s, up_s]; rfl
  · rw [e11, ms_s, up_n (by decide), e10, ms_s, up_s]; rfl
theorem D_worst {n m : Nat} (hn : n ≤ 6) (h0 : 0 < n) (hm : m ≤ 5) {a : Int32} (ha : ¬ a < 0 ∧ ¬ 1 < a) {M : Mem} {R : Int32 → Mem → Prop} (e5 : M 29 5 = nI n) (e6 : M 29 6 = nI m) (e12 : M 29 12 = 6) (ok : okD (dM M) n m) (k : ∀ M', SE M M' → (a = 0 → R (wsF (dM M) n m 6).2 M') ∧ (¬ a = 0 → R (nI (wsF (dM M) n m 6).1) M')) : wp_Model_worst a M R := by
  intro X hX
  rw [e_within_y ha.1 ha.2]
  refine ⟨fun _ => ⟨fun _ => ?_, fun z => absurd (by rw [e5] at z; exact z) (nI_ne0 h0 (by omega))⟩, fun z => absurd z (by decide)⟩
  have key : ∀ (d z : Nat), z + d = 6 → ∀ (M1 : Mem) (v : Int32), SE (mset M 29 12 v) M1 → X a (nI (wsF (dM M) n m z).1) (wsF (dM M) n m z).2 (nI z) M1 := by
    intro d
    induction d with
    | zero =>
      intro z hz M1 v fr
      have : z = 6 := by omega
      subst this
      refine hX _ _ _ _ _ ⟨fun _ => ?_, fun q => absurd (by decide) q⟩
      intro M2 e2
      have fin := k M2 (by
        have := fr.put 29 12 6
        rw [mm, ms_self e12.symm] at this
        rw [e2]
        exact this)
      exact ⟨fin.2, fin.1⟩
    | succ d ih =>
      intro z hz M1 v fr
      refine hX _ _ _ _ _ ⟨fun q => absurd q (nI_ge (b := 6) (by omega) (by omega)), fun _ => ?_⟩
      intro M3 e3
      have fr3 : SE (mset M 29 12 (nI z)) M3 := by
        have := fr.put 29 12 (nI z)
        rw [mm] at this
        rw [e3]
        exact this
      have eD : dM M3 = wB (dM M) (nI z) := by rw [fr3.dM, dM_B]
      have g6 : M3 29 6 = nI m := by rw [fr3 29 6 rfl]; exact e6
      refine D_goAll hn hm (by rw [fr3 29 5 rfl]; exact e5) g6 (by rw [eD]; exact ok.B _) (fun M4 f1 f2 f3 => ?_)
      rw [eD] at f3
      have fr4 := fr3.tr f1.se
      have hle := wsF_le (D := dM M) (n := n) hm z
      have hc := cnt_le (f := resN (wB (dM M) (nI z)) n m) hm
      have g6' : M4 29 6 = nI m := by rw [f1.2 6 (by decide)]; exact g6
      refine D_through hm (fun g hg => resN_out hg) g6' f3 ⟨fun c => ?_, fun c => D_through hm (fun g hg => resN_out hg) g6' f3 ?_⟩
      · have c' : ¬ cnt m (resN (wB (dM M) (nI z)) n m) < (wsF (dM M) n m z).1 := fun q => absurd c (nI_ge q (by omega))
        intro y ey
        rw [ey, nI_1]
        have := ih (z + 1) (by omega) M4 (nI z) fr4
        rw [wsF_succ, if_neg c'] at this
        exact this
      · have c' : cnt m (resN (wB (dM M) (nI z)) n m) < (wsF (dM M) n m z).1 := by
          rcases Nat.lt_or_ge (cnt m (resN (wB (dM M) (nI z)) n m)) (wsF (dM M) n m z).1 with q | q
          · exact q
          · exact absurd (nI_le q (by omega)) c
        intro y ey
        rw [ey, nI_1]
        have := ih (z + 1) (by omega) M4 (nI z) fr4
        rw [wsF_succ, if_pos c'] at this
        exact this
  refine key 6 0 (by omega) M 6 ?_
  rw [ms_self e12.symm]
  exact SE.rf
theorem what_cl (a : Int32) : ((a < 0 ∨ (¬ a < 0 ∧ 2 ≤ a)) ∧ (a < 0 ∨ (¬ a < 0 ∧ 1 < a))) ∨ ∃ k, k < 2 ∧ a = nI k ∧ ¬ nI k < 0 ∧ ¬ (1 : Int32) < nI k := by
  rcases cl (N := 2) (N1 := 1) (n := 2) (n1 := 1) rfl rfl rfl (by decide) a with q | ⟨q, q2, q3⟩ | ⟨k, hk, e, w1, w2, w3, -⟩
  · exact Or.inl ⟨Or.inl q, Or.inl q⟩
  · exact Or.inl ⟨Or.inr ⟨q, q2⟩, Or.inr ⟨q, q3⟩⟩
  · exact Or.inr ⟨k, hk, e, w1, w3⟩
theorem st_worst : St_worst Inv := by
  intro a M h
  obtain ⟨⟨n, m, cc, hw, hr⟩, hf, hs⟩ := id h
  obtain ⟨h1, h2, h3, h4, h5, h6, h7, h8, h9, h10, h11, h12, h13, h14, h15, h16⟩ := id hw
  unfold wp_Main_worst
  rcases what_cl a with ⟨g1, g2⟩ | ⟨z, hz, rfl, w1, w2⟩
  · rw [e_isBelow_n g1]
    refine ⟨fun q => absurd rfl q, fun _ => ?_⟩
    intro X hX
    rw [e_within_n g2]
    exact ⟨fun q => absurd rfl q, fun _ => ⟨rfl, h⟩⟩
  rw [e_isBelow_y (N := 2) (n := 2) rfl hz (by omega)]
  refine ⟨fun _ => ?_, fun q => absurd q (by decide)⟩
  rcases Nat.eq_zero_or_pos n with h0 | h0
  · subst h0
    refine C_told0 h4 ⟨fun q => absurd rfl q, fun _ => ?_⟩
    intro X hX
    rw [e_within_y w1 w2]
    exact ⟨fun _ => ⟨fun q => absurd h5 q, fun _ => ⟨rfl, h⟩⟩, fun q => absurd q (by decide)⟩
  refine C_told1 h1 h0 h4 ⟨fun _ => C_worst h1 h2 h4 h6 h8 (fun M1 fr g3 g2 => ?_), fun q => absurd q (by decide)⟩
  have hw1 := hw.se fr
  have h' := h.se fr
  obtain ⟨-, -, -, -, k5, -, k7, -, k9, -⟩ := id hw1
  have eD : dM M1 = dC M := by rw [dM_eq hw1, fr.dC]
  refine ⟨fun q => D_worst h1 h0 h2 ⟨w1, w2⟩ k5 k7 k9 (by rw [eD]; exact okD_of hw) (fun M' fr' => ⟨fun z => absurd z q, fun _ => ⟨?_, h'.se fr'⟩⟩), fun q => D_worst h1 h0 h2 ⟨w1, w2⟩ k5 k7 k9 (by rw [eD]; exact okD_of hw) (fun M' fr' => ⟨fun _ => ⟨?_, h'.se fr'⟩, fun z => absurd q z⟩)⟩
  · rw [g3, eD]
  · rw [g2, eD]
