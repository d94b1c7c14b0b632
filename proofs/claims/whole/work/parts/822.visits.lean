theorem and_all {x e : Int32} (h : x &&& (e ^^^ (-1 : Int32)) = 0) : x &&& e = x := by
  apply Int32.toBitVec_inj.1
  have h1 := congrArg Int32.toBitVec h
  have h2 : x.toBitVec &&& ~~~ e.toBitVec = 0#32 := by
    rw [← BitVec.xor_allOnes]
    exact h1
  show x.toBitVec &&& e.toBitVec = x.toBitVec
  apply BitVec.eq_of_getLsbD_eq
  intro i hi
  have h3 := congrArg (fun b => b.getLsbD i) h2
  simp [hi] at h3 ⊢
  exact h3
theorem ev_pow : ∀ m, m < 6 → (1 : Int32) <<< (nI m &&& (31 : Int32)) - (1 : Int32) = nI (2 ^ m - 1) := by decide +kernel
theorem ev_tn : ∀ m, m < 6 → (nI (2 ^ m - 1)).toBitVec.toNat = 2 ^ m - 1 := by decide +kernel
theorem ev_in : ∀ m, m < 6 → ∀ a, a < 2 ^ m → nI a &&& (nI (2 ^ m - 1) ^^^ (-1 : Int32)) = 0 := by decide +kernel
theorem pty_cl {m : Nat} (hm : m ≤ 5) (x : Int32) : (∃ a, a < 2 ^ m ∧ x = nI a ∧ x &&& (nI (2 ^ m - 1) ^^^ (-1 : Int32)) = 0 ∧ ¬ x < 0 ∧ ¬ nI (2 ^ m - 1) < x) ∨ (¬ x &&& (nI (2 ^ m - 1) ^^^ (-1 : Int32)) = 0 ∧ (x < 0 ∨ (¬ x < 0 ∧ nI (2 ^ m - 1) < x))) := by
  have hp : 2 ^ m ≤ 32 := Nat.pow_le_pow_right (n := 2) (by omega) (show m ≤ 5 from hm)
  have h1 : 0 < 2 ^ m := Nat.two_pow_pos m
  by_cases c : x &&& (nI (2 ^ m - 1) ^^^ (-1 : Int32)) = 0
  · have e := and_all c
    rw [pk_and x m (ev_tn m (by omega))] at e
    have hlt : x.toBitVec.toNat % 2 ^ m < 2 ^ m := Nat.mod_lt _ h1
    refine Or.inl ⟨x.toBitVec.toNat % 2 ^ m, hlt, e.symm, c, ?_, ?_⟩
    · rw [← e]; exact nI_pos (by omega)
    · rw [← e]; exact nI_nlt (by omega) (by omega)
  · refine Or.inr ⟨c, ?_⟩
    by_cases c1 : x < 0
    · exact Or.inl c1
    · refine Or.inr ⟨c1, ?_⟩
      by_cases c2 : nI (2 ^ m - 1) < x
      · exact c2
      · exfalso
        obtain ⟨z, hz, rfl⟩ := nI_of2 (M := nI (2 ^ m - 1)) (n := 2 ^ m - 1) (nI_toInt (by omega)) c1 (Int32.not_lt.mp c2)
        exact c (ev_in m (by omega) z (by omega))
/-- what the pairs are refused by, 0: by nothing -/
def chk (f : Nat → Int32) (n m p : Nat) : Int32 := if f (2 * p) &&& (nI (2 ^ m - 1) ^^^ (-1 : Int32)) = 0 then (if f (2 * p + 1) < 0 then -1 else if nI n ≤ f (2 * p + 1) then -1 else 0) else -2
def vsF (f : Nat → Int32) (n m : Nat) : Nat → Int32
  | 0 => 0
  | p + 1 => if vsF f n m p = 0 then chk f n m p else vsF f n m p
theorem vsF_succ (f : Nat → Int32) (n m p : Nat) : vsF f n m (p + 1) = if vsF f n m p = 0 then chk f n m p else vsF f n m p := rfl
theorem vsF_bad {f : Nat → Int32} {n m p : Nat} {v : Int32} (h : vsF f n m p = v) (hv : ¬ v = 0) : ∀ d, vsF f n m (p + d) = v := by
  intro d
  induction d with
  | zero => exact h
  | succ d ih => rw [← Nat.add_assoc, vsF_succ, ih, if_neg hv]
theorem vsF_good {f : Nat → Int32} {n m : Nat} : ∀ p, vsF f n m p = 0 → ∀ j, j < p → chk f n m j = 0 := by
  intro p
  induction p with
  | zero => intro _ j hj; omega
  | succ p ih =>
    intro h j hj
    rw [vsF_succ] at h
    by_cases c : vsF f n m p = 0
    · rw [if_pos c] at h
      by_cases e : j = p
      · rw [e]; exact h
      · exact ih c j (by omega)
    · rw [if_neg c] at h
      exact absurd h c
theorem chk_good {f : Nat → Int32} {n m p : Nat} (hn : n ≤ 6) (hm : m ≤ 5) (h : chk f n m p = 0) : (∃ a, a < 32 ∧ f (2 * p) = nI a) ∧ ∃ z, z < n ∧ f (2 * p + 1) = nI z := by
  unfold chk at h
  have hp : 2 ^ m ≤ 32 := Nat.pow_le_pow_right (n := 2) (by omega) (show m ≤ 5 from hm)
  rcases pty_cl hm (f (2 * p)) with ⟨a, ha, ea, c, -, -⟩ | ⟨c, -⟩
  · rw [if_pos c] at h
    refine ⟨⟨a, by omega, ea⟩, ?_⟩
    rcases cl0 (N := nI n) rfl (by omega) (f (2 * p + 1)) with q | ⟨q, q2⟩ | ⟨z, hz, ez, -, -, -⟩
    · rw [if_pos q] at h; exact absurd h (by decide)
    · rw [if_neg q, if_pos q2] at h; exact absurd h (by decide)
    · exact ⟨z, hz, ez⟩
  · rw [if_neg c] at h
    exact absurd h (by decide)
theorem C_refusal {k i p n m : Nat} (hk : k < 4) (hip : i + 2 * p ≤ 60) (hn : n ≤ 6) (hm : m ≤ 5) {M : Mem} {R : Int32 → Mem → Prop} (e5 : M 12 5 = nI n) (e6 : M 12 6 = nI m) (h : R (vsF (fun j => M (6 + k) (i + j)) n m p) M) : wp_Main_refusalOfPairs k (nI i) (nI p) M R := by
  intro X hX
  have ix : ∀ j, nI i + 2 * nI j = nI (i + 2 * j) := fun j => by
    rw [← nI_add, ← pk_mul]; rfl
  have key : ∀ (d j : Nat), j + d = p → vsF (fun j => M (6 + k) (i + j)) n m j = 0 → X k (nI i) (nI p) (nI j) M := by
    intro d
    induction d with
    | zero =>
      intro j hj hv
      have : j = p := by omega
      subst this
      rw [hv] at h
      exact hX _ _ _ _ _ ⟨hk, fun _ => h, fun q => absurd (Int32.le_refl _) q⟩
    | succ d ih =>
      intro j hj hv
      have hs := vsF_succ (fun j => M (6 + k) (i + j)) n m j
      rw [if_pos hv] at hs
      have bad : ∀ v, vsF (fun j => M (6 + k) (i + j)) n m (j + 1) = v → ¬ v = 0 → R v M := by
        intro v hv hv0
        have := vsF_bad hv hv0 d
        have e : j + 1 + d = p := by omega
        rw [e] at this
        rw [this] at h
        exact h
      unfold chk at hs
      dsimp only at hs
      have i2 : i + (2 * j + 1) = i + 2 * j + 1 := by omega
      simp only [i2] at hs
      refine hX _ _ _ _ _ ⟨hk, fun q => absurd q (nI_ge (by omega) (by omega)), fun _ => ?_⟩
      unfold wp_Way_everyone
      rw [ix, nI_1, nI_clamp (by omega), nI_clamp (by omega), e6, ev_pow m (by omega)]
      refine ⟨vp_in_nI (by omega) (by omega), fun c => ⟨vp_in_nI (by omega) (by omega), ?_⟩, fun c => ?_⟩
      · rw [if_pos c] at hs
        unfold wp_Way_hasHouse
        rw [e5]
        rcases cl0 (N := nI n) rfl (by omega) (M (6 + k) (i + 2 * j + 1)) with q | ⟨q, q2⟩ | ⟨z, hz, ez, w1, w2, -⟩
        · rw [if_pos q] at hs
          rw [e_isBelow_n (Or.inl q)]
          exact ⟨fun q => absurd rfl q, fun _ => bad _ hs (by decide)⟩
        · rw [if_neg q, if_pos q2] at hs
          rw [e_isBelow_n (Or.inr ⟨q, q2⟩)]
          exact ⟨fun q => absurd rfl q, fun _ => bad _ hs (by decide)⟩
        · rw [ez] at hs ⊢
          rw [if_neg w1, if_neg w2] at hs
          rw [e_isBelow_y rfl hz (by omega)]
          refine ⟨fun _ => ?_, fun q => absurd q (by decide)⟩
          intro y ey
          rw [ey, nI_1]
          exact ih (j + 1) (by omega) hs
      · rw [if_neg c] at hs
        exact bad _ hs (by decide)
  exact key p 0 (by omega) rfl
/-- one visit: what hosts know, who is lost, the first loss -/
def vst (D : Mem) (m p a h : Nat) (s : (Nat → Int32) × Nat × Int32) : (Nat → Int32) × Nat × Int32 := if a &&& (31 ^^^ s.2.1) = 0 then s else if usD D h (grD D (a &&& (31 ^^^ s.2.1)) m) (s.1 h) = -9 then (s.1, s.2.1 ||| (a &&& (31 ^^^ s.2.1)), if s.2.2 = -9 then nI p else s.2.2) else (lrn D h (usD D h (grD D (a &&& (31 ^^^ s.2.1)) m) (s.1 h)) s.1, s.2.1, s.2.2)
def vsts (D : Mem) (m : Nat) (f : Nat → Int32) : Nat → (Nat → Int32) × Nat × Int32
  | 0 => (fun _ => 0, 0, -9)
  | p + 1 => vst D m p (f (2 * p)).toNatClampNeg (f (2 * p + 1)).toNatClampNeg (vsts D m f p)
theorem vsts_succ (D : Mem) (m : Nat) (f : Nat → Int32) (p : Nat) : vsts D m f (p + 1) = vst D m p (f (2 * p)).toNatClampNeg (f (2 * p + 1)).toNatClampNeg (vsts D m f p) := rfl
def okS (s : (Nat → Int32) × Nat × Int32) : Prop := s.2.1 < 32
theorem vst_ok {D : Mem} {m p a h : Nat} {s : (Nat → Int32) × Nat × Int32} (ha : a < 32) (hs : okS s) : okS (vst D m p a h s) := by
  unfold vst
  split
  · exact hs
  · split
    · exact Nat.or_lt_two_pow (n := 5) hs (Nat.lt_of_le_of_lt Nat.and_le_left ha)
    · exact hs
def CV (n : Nat) (s : (Nat → Int32) × Nat × Int32) (M : Mem) : Prop := (∀ h, h < n → M 19 h = s.1 h) ∧ M 18 4 = nI s.2.1 ∧ M 18 5 = s.2.2
def MV (n : Nat) (s : (Nat → Int32) × Nat × Int32) (M : Mem) : Prop := (∀ h, h < n → M 41 h = s.1 h) ∧ M 29 18 = nI s.2.1
theorem C_visit {n m p a h : Nat} (hn : n ≤ 6) (hm : m ≤ 5) (ha : a < 32) (hh : h < n) {M : Mem} {R : Mem → Prop} {s : (Nat → Int32) × Nat × Int32} (e6 : M 12 6 = nI m) (ok : okS s) (hv : CV n s M) (k : ∀ M', CF M M' → CV n (vst (dC M) m p a h s) M' → R M') : wp_Walk_visit (nI p) (nI a) (nI h) M R := by
  obtain ⟨v1, v2, v3⟩ := hv
  unfold vst at k
  intro y ey
  rw [v2, P3 a ha _ ok] at ey
  subst ey
  have hl : a &&& (31 ^^^ s.2.1) < 32 := Nat.lt_of_le_of_lt Nat.and_le_left ha
  generalize a &&& (31 ^^^ s.2.1) = c at *
  rcases Nat.eq_zero_or_pos c with c0 | c0
  · rw [if_pos c0] at k
    rw [c0]
    exact ⟨fun _ => k M CF.rf ⟨v1, v2, v3⟩, fun q => absurd rfl q⟩
  · rw [if_neg (by omega)] at k
    refine ⟨fun q => absurd q (nI_ne0 c0 (by omega)), fun _ => C_gear hl hm e6 (C_enter (by omega) ?_)⟩
    rw [v1 h hh]
    by_cases c1 : usD (dC M) h (grD (dC M) c m) (s.1 h) = -9
    · rw [if_pos c1] at k
      rw [if_pos c1, if_pos c1, mr_self rfl]
      refine ⟨fun _ => ?_, fun q => absurd rfl q⟩
      intro M8 e8
      have f18 : M8 18 4 = nI (s.2.1 ||| c) := by rw [e8, ms_s, up_s, v2, fa_or]
      have f5 : M8 18 5 = s.2.2 := by rw [e8, ms_s, up_n (by decide), v3]
      have f19 : M8 19 = M 19 := by rw [e8, ms_n (by decide)]
      have fr8 : CF M M8 := fun q q1 _ _ => by rw [e8, ms_n q1]
      refine ⟨fun c2 => ?_, fun c2 => ?_⟩
      · rw [f5] at c2
        rw [if_neg c2] at k
        exact k M8 fr8 ⟨fun h hh => by rw [f19]; exact v1 h hh, f18, f5⟩
      · rw [f5] at c2
        rw [if_pos c2] at k
        intro M10 e10
        refine k M10 (fun q q1 q2 q3 => by rw [e10, ms_n q1]; exact fr8 q q1 q2 q3) ⟨fun h hh => by rw [e10, ms_n (by decide), f19]; exact v1 h hh, ?_, ?_⟩
        · rw [e10, ms_s, up_n (by decide), f18]
        · rw [e10, ms_s, up_s]
    · rw [if_neg c1] at k
      rw [if_neg c1, if_neg c1]
      refine ⟨fun q => absurd q (by decide), fun _ => k _ CF.row ⟨fun z hz => ?_, ?_, ?_⟩⟩
      · rw [mr_s]
        exact lrn_cong hh v1 z hz
      · rw [mr_n (by decide)]; exact v2
      · rw [mr_n (by decide)]; exact v3
theorem D_visitS {n m p a h : Nat} (hn : n ≤ 6) (hm : m ≤ 5) (ha : a < 32) (hh : h < n) {M : Mem} {R : Int32 → Mem → Prop} {s : (Nat → Int32) × Nat × Int32} (e6 : M 29 6 = nI m) (okd : okD (dM M) n m) (ok : okS s) (hv : MV n s M) (k : ∀ r M', MF M M' → MV n (vst (dM M) m p a h s) M' → (vst (dM M) m p a h s).2.2 = (if s.2.2 = -9 then (if r = 0 then s.2.2 else nI p) else s.2.2) → R r M') : wp_Model_visit (nI a) (nI h) M R := by
  obtain ⟨v1, v2⟩ := hv
  have hl : a &&& (31 ^^^ s.2.1) < 32 := Nat.lt_of_le_of_lt Nat.and_le_left ha
  rcases Nat.eq_zero_or_pos (a &&& (31 ^^^ s.2.1)) with c0 | c0
  · refine D_visit0 ha ok c0 v2 (k 0 M MF.rf ?_ ?_)
    · unfold vst; rw [if_pos c0]; exact ⟨v1, v2⟩
    · unfold vst
      rw [if_pos c0, if_pos rfl]
      split <;> rfl
  · refine D_visit (n := n) (m := m) ha ok (by omega) hn hh hm e6 v2 okd ?_ ?_
    · rw [v1 h hh]
      intro c1
      refine k 0 _ ⟨fun q _ _ q3 => mr_n q3, fun j _ => by rw [mr_n (by decide)]⟩ ?_ ?_
      · unfold vst
        rw [if_neg (by omega), if_neg c1]
        refine ⟨fun z hz => ?_, ?_⟩
        · rw [mr_s]
          exact lrn_cong hh v1 z hz
        · rw [mr_n (by decide)]; exact v2
      · unfold vst
        rw [if_neg (by omega), if_neg c1, if_pos rfl]
        split <;> rfl
    · rw [v1 h hh]
      intro c1 M' g1 g2 g3 g4
      refine k 1 M' ⟨fun q q1 q2 _ => g1 q q1 q2, g2⟩ ?_ ?_
      · unfold vst
        rw [if_neg (by omega), if_pos c1]
        exact ⟨fun z hz => by rw [g1 41 (by decide) (by decide)]; exact v1 z hz, g3⟩
      · unfold vst
        rw [if_neg (by omega), if_pos c1, if_neg (show ¬ (1 : Int32) = 0 by decide)]
