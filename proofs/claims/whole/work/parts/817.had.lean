def soB (gr hr res : Nat → Int32) : Nat → Bool
  | 0 => true
  | r + 1 => soB gr hr res r && decide (res (gr r).toNatClampNeg = hr r)
theorem soB_iff (gr hr res : Nat → Int32) : ∀ c, soB gr hr res c = true ↔ ∀ r, r < c → res (gr r).toNatClampNeg = hr r := by
  intro c
  induction c with
  | zero => exact ⟨fun _ r hr => by omega, fun _ => rfl⟩
  | succ c ih =>
    unfold soB
    rw [Bool.and_eq_true, ih, decide_eq_true_eq]
    refine ⟨fun h r hr => ?_, fun h => ⟨fun r hr => h r (by omega), h c (by omega)⟩⟩
    by_cases e : r = c
    · rw [e]; exact h.2
    · exact h.1 r (by omega)
theorem C_allSo {m c : Nat} (hc : c ≤ 8) (hm : m ≤ 5) {res : Nat → Int32} {M : Mem} {R : Int32 → Mem → Prop} (e4 : M 26 4 = nI c) (hg : ∀ r, r < c → ∃ g, g < m ∧ M 27 r = nI g) (h20 : ∀ g, g < 5 → M 20 g = res g) (k : R (if soB (M 27) (M 28) res c = true then 1 else 0) M) : wp_Readings_allAreSo M R := by
  intro X hX
  have key : ∀ (d r : Nat), r + d = c → (∀ i, i < r → res (M 27 i).toNatClampNeg = M 28 i) → X (nI r) M := by
    intro d
    induction d with
    | zero =>
      intro r hr ho
      have : r = c := by omega
      subst this
      rw [if_pos ((soB_iff _ _ _ _).mpr ho)] at k
      exact hX _ _ ⟨fun _ => k, fun z => absurd (by rw [e4]; exact Int32.le_refl _) z⟩
    | succ d ih =>
      intro r hr ho
      obtain ⟨g, hg1, eg⟩ := hg r (by omega)
      have hin : vp_in (nI r) 8 := vp_in_nI (by omega) (by omega)
      have hcl : (nI r).toNatClampNeg = r := nI_clamp (by omega)
      have hgc : (nI g).toNatClampNeg = g := nI_clamp (by omega)
      refine hX _ _ ⟨fun z => absurd z (by rw [e4]; exact nI_ge (by omega) (by omega)), fun _ => ?_⟩
      rw [hcl, eg, hgc]
      refine ⟨hin, vp_in_nI (by omega) (by omega), hin, fun cc => ?_, fun cc => ?_⟩
      · intro y ey
        rw [ey, nI_1]
        refine ih (r + 1) (by omega) (fun i hi => ?_)
        by_cases e : i = r
        · rw [e, eg, hgc, ← h20 g (by omega)]; exact cc
        · exact ho i (by omega)
      · have nb : ¬ soB (M 27) (M 28) res c = true := by
          intro z
          have := (soB_iff _ _ _ _).mp z r (by omega)
          rw [eg, hgc, ← h20 g (by omega)] at this
          exact cc this
        rw [if_neg nb] at k
        exact k
  exact key c 0 (by omega) (fun i hi => by omega)
theorem D_areSo {n m c : Nat} (hn : n ≤ 6) (hc : c ≤ 8) (hm : m ≤ 5) {M : Mem} {R : Int32 → Mem → Prop} (e5 : M 29 5 = nI n) (e6 : M 29 6 = nI m) (e23 : M 29 23 = nI c) (ok : okD (dM M) n m) (hg : ∀ r, r < c → ∃ g, g < m ∧ M 44 r = nI g) (k : ∀ M', MF M M' → R (if soB (M 44) (M 45) (resN (dM M) n m) c = true then 1 else 0) M') : wp_Model_areSo M R := by
  intro X hX
  refine D_goAll hn hm e5 e6 ok (fun M1 f1 f2 f3 => ?_)
  have k := k M1 f1
  have a44 : M1 44 = M 44 := f1.1 44 (by decide) (by decide) (by decide)
  have a45 : M1 45 = M 45 := f1.1 45 (by decide) (by decide) (by decide)
  have a23 : M1 29 23 = nI c := by rw [f1.2 23 (by decide)]; exact e23
  have key : ∀ (d r : Nat), r + d = c → (∀ i, i < r → resN (dM M) n m (M 44 i).toNatClampNeg = M 45 i) → X (nI r) M1 := by
    intro d
    induction d with
    | zero =>
      intro r hr ho
      have : r = c := by omega
      subst this
      rw [if_pos ((soB_iff _ _ _ _).mpr ho)] at k
      exact hX _ _ ⟨fun _ => k, fun z => absurd (by rw [a23]; exact Int32.le_refl _) z⟩
    | succ d ih =>
      intro r hr ho
      obtain ⟨g, hg1, eg⟩ := hg r (by omega)
      have hin : vp_in (nI r) 8 := vp_in_nI (by omega) (by omega)
      have hcl : (nI r).toNatClampNeg = r := nI_clamp (by omega)
      have hgc : (nI g).toNatClampNeg = g := nI_clamp (by omega)
      refine hX _ _ ⟨fun z => absurd z (by rw [a23]; exact nI_ge (by omega) (by omega)), fun _ => ?_⟩
      rw [hcl, a44, a45, eg, hgc]
      refine ⟨hin, vp_in_nI (by omega) (by omega), hin, fun cc => ?_, fun cc => ?_⟩
      · intro y ey
        rw [ey, nI_1]
        refine ih (r + 1) (by omega) (fun i hi => ?_)
        by_cases e : i = r
        · rw [e, eg, hgc, ← f2 g hg1]; exact cc
        · exact ho i (by omega)
      · have nb : ¬ soB (M 44) (M 45) (resN (dM M) n m) c = true := by
          intro z
          have := (soB_iff _ _ _ _).mp z r (by omega)
          rw [eg, hgc, ← f2 g hg1] at this
          exact cc this
        rw [if_neg nb] at k
        exact k
  exact key c 0 (by omega) (fun i hi => by omega)
def hdF (D : Mem) (n m g c : Nat) (gr hr : Nat → Int32) : Nat → Nat × Int32
  | 0 => (0, -9)
  | s + 1 => if soB gr hr (resN (wG D g (nI s)) n m) c = true then ((hdF D n m g c gr hr s).1 + 1, if (hdF D n m g c gr hr s).1 = 0 then nI s else (hdF D n m g c gr hr s).2) else hdF D n m g c gr hr s
theorem hdF_succ (D : Mem) (n m g c : Nat) (gr hr : Nat → Int32) (s : Nat) : hdF D n m g c gr hr (s + 1) = if soB gr hr (resN (wG D g (nI s)) n m) c = true then ((hdF D n m g c gr hr s).1 + 1, if (hdF D n m g c gr hr s).1 = 0 then nI s else (hdF D n m g c gr hr s).2) else hdF D n m g c gr hr s := rfl
theorem hdF_ok {D : Mem} {n m g c : Nat} {gr hr : Nat → Int32} : ∀ s, s ≤ 64 → (hdF D n m g c gr hr s).1 ≤ s ∧ ((hdF D n m g c gr hr s).2 = -9 ↔ (hdF D n m g c gr hr s).1 = 0) := by
  intro s
  induction s with
  | zero => intro _; exact ⟨Nat.le_refl 0, ⟨fun _ => rfl, fun _ => rfl⟩⟩
  | succ s ih =>
    intro hs
    obtain ⟨h1, h2⟩ := ih (by omega)
    rw [hdF_succ]
    split
    · refine ⟨by show _ + 1 ≤ s + 1; omega, ?_⟩
      show (if (hdF D n m g c gr hr s).1 = 0 then nI s else (hdF D n m g c gr hr s).2) = -9 ↔ (hdF D n m g c gr hr s).1 + 1 = 0
      refine ⟨fun z => ?_, fun z => by omega⟩
      by_cases e : (hdF D n m g c gr hr s).1 = 0
      · rw [if_pos e] at z
        exact absurd z (op9 (by omega))
      · rw [if_neg e] at z
        exact absurd (h2.mp z) e
    · exact ⟨by omega, h2⟩
theorem C_had {n m c g : Nat} (hn : n ≤ 6) (hm : m ≤ 5) (hc : c ≤ 8) (hg : g < m) {M : Mem} {R : Mem → Prop} (e5 : M 12 5 = nI n) (e6 : M 12 6 = nI m) (e4 : M 26 4 = nI c) (hgr : ∀ r, r < c → ∃ g, g < m ∧ M 27 r = nI g) (k : ∀ M', SE M M' → M' 26 5 = nI (hdF (dC M) n m g c (M 27) (M 28) 64).1 → M' 26 6 = (hdF (dC M) n m g c (M 27) (M 28) 64).2 → R M') : wp_Readings_findHad (nI g) M R := by
  intro X hX
  have hin : vp_in (nI g) 5 := vp_in_nI (by omega) (by omega)
  have hcl : (nI g).toNatClampNeg = g := nI_clamp (by omega)
  refine ⟨hin, ?_⟩
  intro x2 ex2 M17 e17 M18 e18
  rw [hcl] at ex2
  have key : ∀ (d s : Nat), s + d = 64 → ∀ (M1 : Mem) (v : Int32), SE (mset M 17 g v) M1 → M1 26 5 = nI (hdF (dC M) n m g c (M 27) (M 28) s).1 → M1 26 6 = (hdF (dC M) n m g c (M 27) (M 28) s).2 → X (nI g) x2 (nI s) M1 := by
    intro d
    induction d with
    | zero =>
      intro s hs M1 v fr q5 q6
      have : s = 64 := by omega
      subst this
      refine hX _ _ _ _ ⟨fun _ => ⟨hin, ?_⟩, fun q => absurd (by decide) q⟩
      intro M3 e3
      rw [hcl] at e3
      refine k M3 ?_ ?_ ?_
      · have := fr.put 17 g x2
        rw [mm, ms_self ex2] at this
        rw [e3]
        exact this
      · rw [e3, ms_n (by decide), q5]
      · rw [e3, ms_n (by decide), q6]
    | succ d ih =>
      intro s hs M1 v fr q5 q6
      refine hX _ _ _ _ ⟨fun q => absurd q (nI_ge (b := 64) (by omega) (by omega)), fun _ => ⟨hin, ?_⟩⟩
      intro M5 e5'
      rw [hcl] at e5'
      have fr5 : SE (mset M 17 g (nI s)) M5 := by
        have := fr.put 17 g (nI s)
        rw [mm] at this
        rw [e5']
        exact this
      have eD : dC M5 = wG (dC M) g (nI s) := by rw [fr5.dC, dC_G]
      refine C_byNumbers hn hm (by rw [fr5 12 5 rfl]; exact e5) (by rw [fr5 12 6 rfl]; exact e6) (fun M6 f1 f2 => ?_)
      rw [eD] at f2
      have fr6 := fr5.tr f1.se
      have a27 : M6 27 = M 27 := by rw [fr6.r (fun _ => rfl), ms_n (by decide)]
      have a28 : M6 28 = M 28 := by rw [fr6.r (fun _ => rfl), ms_n (by decide)]
      have p5 : M6 26 5 = nI (hdF (dC M) n m g c (M 27) (M 28) s).1 := by rw [f1 26 (by decide) (by decide) (by decide), e5', ms_n (by decide), q5]
      have p6 : M6 26 6 = (hdF (dC M) n m g c (M 27) (M 28) s).2 := by rw [f1 26 (by decide) (by decide) (by decide), e5', ms_n (by decide), q6]
      obtain ⟨hle, hz⟩ := hdF_ok (D := dC M) (n := n) (m := m) (g := g) (c := c) (gr := M 27) (hr := M 28) s (by omega)
      refine C_allSo (m := m) (c := c) (res := resN (wG (dC M) g (nI s)) n m) hc hm (by rw [fr6 26 4 rfl]; exact e4) (by rw [a27]; exact hgr) f2 ?_
      rw [a27, a28]
      by_cases so : soB (M 27) (M 28) (resN (wG (dC M) g (nI s)) n m) c = true
      · rw [if_pos so]
        refine ⟨fun q => absurd q (by decide), fun _ => ?_⟩
        intro M11 e11
        have r6 : M11 26 6 = (hdF (dC M) n m g c (M 27) (M 28) s).2 := by rw [e11, ms_s, up_n (by decide), p6]
        have r5 : M11 26 5 = nI ((hdF (dC M) n m g c (M 27) (M 28) s).1 + 1) := by rw [e11, ms_s, up_s, p5, nI_1]
        have fr11 : SE (mset M 17 g (nI s)) M11 := by rw [e11]; exact fr6.set rfl _
        refine ⟨fun c1 => ?_, fun c1 => ?_⟩
        · intro M13 e13 y ey
          rw [ey, nI_1]
          rw [r6] at c1
          have c1' : ¬ (hdF (dC M) n m g c (M 27) (M 28) s).1 = 0 := fun z => c1 (hz.mpr z)
          refine ih (s + 1) (by omega) M13 (nI s) (by rw [e13]; exact fr11.set rfl _) ?_ ?_
          · rw [hdF_succ, if_pos so, e13, ms_s, up_n (by decide), r5]
          · rw [hdF_succ, if_pos so, e13, ms_s, up_s, r6]
            show _ = if _ then _ else _
            rw [if_neg c1']
        · intro M13 e13 y ey
          rw [ey, nI_1]
          rw [r6] at c1
          have c1' := hz.mp c1
          refine ih (s + 1) (by omega) M13 (nI s) (by rw [e13]; exact fr11.set rfl _) ?_ ?_
          · rw [hdF_succ, if_pos so, e13, ms_s, up_n (by decide), r5]
          · rw [hdF_succ, if_pos so, e13, ms_s, up_s]
            show _ = if _ then _ else _
            rw [if_pos c1']
      · rw [if_neg so]
        refine ⟨fun _ => ?_, fun q => absurd rfl q⟩
        intro y ey
        rw [ey, nI_1]
        refine ih (s + 1) (by omega) M6 (nI s) fr6 ?_ ?_
        · rw [hdF_succ, if_neg so]; exact p5
        · rw [hdF_succ, if_neg so]; exact p6
  refine key 64 0 (by omega) M18 x2 ?_ ?_ ?_
  · rw [ms_self ex2, e18, e17]
    exact (SE.rf.set rfl _).set rfl _
  · rw [e18, ms_s, up_n (by decide), e17, ms_s, up_s]; rfl
  · rw [e18, ms_s, up_s]; rfl
theorem D_had {n m c g : Nat} (hn : n ≤ 6) (hm : m ≤ 5) (hc : c ≤ 8) (hg : g < m) {a : Int32} (ha : ¬ a < 0 ∧ ¬ 1 < a) {M : Mem} {R : Int32 → Mem → Prop} (e5 : M 29 5 = nI n) (e6 : M 29 6 = nI m) (e23 : M 29 23 = nI c) (ok : okD (dM M) n m) (hgr : ∀ r, r < c → ∃ g, g < m ∧ M 44 r = nI g) (k : ∀ M', SE M M' → (a = 0 → R (nI (hdF (dM M) n m g c (M 44) (M 45) 64).1) M') ∧ (¬ a = 0 → R (hdF (dM M) n m g c (M 44) (M 45) 64).2 M')) : wp_Model_had (nI g) a M R := by
  intro X hX
  have hin : vp_in (nI g) 5 := vp_in_nI (by omega) (by omega)
  have hcl : (nI g).toNatClampNeg = g := nI_clamp (by omega)
  refine ⟨fun z => absurd z (nI_pos (by omega)), fun _ => ⟨fun z => absurd z (by rw [e6]; exact nI_ge hg (by omega)), fun _ => ⟨fun _ => ?_, fun z => absurd z (by decide)⟩⟩⟩
  rw [e_within_y ha.1 ha.2]
  refine ⟨fun _ => ⟨hin, ?_⟩, fun z => absurd z (by decide)⟩
  intro x3 ex3
  rw [hcl] at ex3
  have key : ∀ (d s : Nat), s + d = 64 → ∀ (M1 : Mem) (v : Int32), SE (mset M 37 g v) M1 → X (nI g) a x3 (nI (hdF (dM M) n m g c (M 44) (M 45) s).1) (hdF (dM M) n m g c (M 44) (M 45) s).2 (nI s) M1 := by
    intro d
    induction d with
    | zero =>
      intro s hs M1 v fr
      have : s = 64 := by omega
      subst this
      refine hX _ _ _ _ _ _ _ ⟨fun _ => ⟨hin, ?_⟩, fun q => absurd (by decide) q⟩
      intro M3 e3
      rw [hcl] at e3
      have fin := k M3 (by
        have := fr.put 37 g x3
        rw [mm, ms_self ex3] at this
        rw [e3]
        exact this)
      exact ⟨fin.2, fin.1⟩
    | succ d ih =>
      intro s hs M1 v fr
      refine hX _ _ _ _ _ _ _ ⟨fun q => absurd q (nI_nlt (a := 63) (b := s) (by omega) (by omega)), fun _ => ⟨hin, ?_⟩⟩
      intro M5 e5'
      rw [hcl] at e5'
      have fr5 : SE (mset M 37 g (nI s)) M5 := by
        have := fr.put 37 g (nI s)
        rw [mm] at this
        rw [e5']
        exact this
      have eD : dM M5 = wG (dM M) g (nI s) := by rw [fr5.dM, dM_G]
      have a44 : M5 44 = M 44 := by rw [fr5.r (fun _ => rfl), ms_n (by decide)]
      have a45 : M5 45 = M 45 := by rw [fr5.r (fun _ => rfl), ms_n (by decide)]
      obtain ⟨hle, hz⟩ := hdF_ok (D := dM M) (n := n) (m := m) (g := g) (c := c) (gr := M 44) (hr := M 45) s (by omega)
      refine D_areSo (c := c) hn hc hm (by rw [fr5 29 5 rfl]; exact e5) (by rw [fr5 29 6 rfl]; exact e6) (by rw [fr5 29 23 rfl]; exact e23) (by rw [eD]; exact ok.G g s (by omega)) (by rw [a44]; exact hgr) (fun M6 f1 => ?_)
      rw [eD, a44, a45]
      have fr6 := fr5.tr f1.se
      have nx := ih (s + 1) (by omega) M6 (nI s) fr6
      rw [hdF_succ] at nx
      by_cases so : soB (M 44) (M 45) (resN (wG (dM M) g (nI s)) n m) c = true
      · rw [if_pos so] at nx ⊢
        dsimp only at nx
        refine ⟨fun q => absurd q (by decide), fun _ => ⟨fun c1 => ?_, fun c1 => ?_⟩⟩
        · have c1' : ¬ (hdF (dM M) n m g c (M 44) (M 45) s).1 = 0 := fun z => c1 (by rw [z]; rfl)
          rw [if_neg c1'] at nx
          intro x4 ex4 y ey
          rw [ex4, ey, nI_1, nI_1]
          exact nx
        · have c1' : (hdF (dM M) n m g c (M 44) (M 45) s).1 = 0 := by
            rcases Nat.eq_zero_or_pos (hdF (dM M) n m g c (M 44) (M 45) s).1 with q | q
            · exact q
            · exact absurd c1 (nI_ne0 q (by omega))
          rw [if_pos c1'] at nx
          intro x4 ex4 y ey
          rw [ex4, ey, nI_1, nI_1]
          exact nx
      · rw [if_neg so] at nx ⊢
        refine ⟨fun _ => ?_, fun q => absurd rfl q⟩
        intro y ey
        rw [ey, nI_1]
        exact nx
  refine key 64 0 (by omega) M x3 ?_
  rw [ms_self ex3]
  exact SE.rf
theorem st_had : St_had Inv := by
  intro a b M h
  obtain ⟨⟨n, m, c, hw, hr⟩, hf, hs⟩ := id h
  obtain ⟨h1, h2, h3, h4, h5, h6, h7, h8, h9, h10, h11, h12, h13, h14, h15, h16⟩ := id hw
  obtain ⟨r1, r2, r3, r4, r5, r6⟩ := id hr
  unfold wp_Main_had wp_Way_hasGuest
  rw [h6]
  rcases cl0 (N := nI m) rfl (by omega) a with q | ⟨q, q2⟩ | ⟨g, hg, rfl, q1, q2, q3⟩
  · rw [e_isBelow_n (Or.inl q)]
    refine ⟨fun z => absurd rfl z, fun _ => ?_⟩
    intro X hX
    exact ⟨fun _ => ⟨fun z => absurd rfl z, fun _ => ⟨rfl, h⟩⟩, fun z => absurd q z⟩
  · rw [e_isBelow_n (Or.inr ⟨q, q2⟩)]
    refine ⟨fun z => absurd rfl z, fun _ => ?_⟩
    intro X hX
    exact ⟨fun z => absurd z q, fun _ => ⟨fun _ => ⟨fun z => absurd rfl z, fun _ => ⟨rfl, h⟩⟩, fun z => absurd (by rw [h7]; exact q2) z⟩⟩
  rw [e_isBelow_y rfl hg (by omega)]
  refine ⟨fun _ => ?_, fun z => absurd z (by decide)⟩
  rcases what_cl b with ⟨g1, g2⟩ | ⟨z, hz, rfl, w1, w2⟩
  · rw [e_isBelow_n g1]
    refine ⟨fun z => absurd rfl z, fun _ => ?_⟩
    intro X hX
    refine ⟨fun z => absurd z q1, fun _ => ⟨fun z => absurd (by rw [h7] at z; exact z) q2, fun _ => ⟨fun _ => ?_, fun z => absurd z (by decide)⟩⟩⟩
    rw [e_within_n g2]
    exact ⟨fun z => absurd rfl z, fun _ => ⟨rfl, h⟩⟩
  rw [e_isBelow_y (N := 2) (n := 2) rfl hz (by omega)]
  refine ⟨fun _ => C_had h1 h2 r1 hg h4 h6 r2 r6 (fun M1 fr g5 g6 => ?_), fun q => absurd q (by decide)⟩
  have hw1 := hw.se fr
  have hr1 := hr.se fr
  have h' := h.se fr
  obtain ⟨-, -, -, -, k5, -, k7, -⟩ := id hw1
  obtain ⟨-, -, s3, s4, s5, s6⟩ := id hr1
  have eD : dM M1 = dC M := by rw [dM_eq hw1, fr.dC]
  have a27 : M1 27 = M 27 := fr.r (fun _ => rfl)
  have a28 : M1 28 = M 28 := fr.r (fun _ => rfl)
  rw [← s4] at s6
  refine ⟨fun q => D_had h1 h2 r1 hg ⟨w1, w2⟩ k5 k7 s3 (by rw [eD]; exact okD_of hw) s6 (fun M' fr' => ⟨fun z => absurd z q, fun _ => ⟨?_, h'.se fr'⟩⟩), fun q => D_had h1 h2 r1 hg ⟨w1, w2⟩ k5 k7 s3 (by rw [eD]; exact okD_of hw) s6 (fun M' fr' => ⟨fun _ => ⟨?_, h'.se fr'⟩, fun z => absurd q z⟩)⟩
  · rw [g6, eD, s4, s5, a27, a28]
  · rw [g5, eD, s4, s5, a27, a28]
