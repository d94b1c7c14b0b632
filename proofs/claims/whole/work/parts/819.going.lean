theorem e_within_n2 {a b c : Int32} (h : a < b ∨ (¬ a < b ∧ c < a)) {M : Mem} {R : Int32 → Mem → Prop} : wp_Model_within a b c M R = R 0 M := by
  rcases h with h | ⟨h, h2⟩
  · simp [wp_Model_within, h]
  · simp [wp_Model_within, h, h2]
theorem sub10 (e : Int32) : e = (e - 10) + 10 := by
  apply Int32.toBitVec_inj.1
  show e.toBitVec = (e.toBitVec - 10#32) + 10#32
  exact (BitVec.sub_add_cancel _ _).symm
theorem wh_cl {N : Nat} {B T : Int32} (hB : B = nI N) (hT : T = nI (N + 9)) (hN : N ≤ 6) (e : Int32) : (∃ w, w < N ∧ e = nI (w + 10) ∧ e - 10 = nI w ∧ ¬ e < 10 ∧ ¬ T < e) ∨ ((e - 10 < 0 ∨ (¬ e - 10 < 0 ∧ B ≤ e - 10)) ∧ (e < 10 ∨ (¬ e < 10 ∧ T < e)) ∧ ∀ w, w < N → ¬ e = nI (w + 10)) := by
  have hback : ∀ w, w < N → e = nI (w + 10) → e - 10 = nI w := by
    intro w hw ee
    rw [ee]
    have := pk_sub (a := w + 10) (b := 10) (by omega)
    exact this
  have hno : (e - 10 < 0 ∨ (¬ e - 10 < 0 ∧ B ≤ e - 10)) → ∀ w, w < N → ¬ e = nI (w + 10) := by
    intro h w hw ee
    rw [hback w hw ee] at h
    rcases h with h | ⟨-, h⟩
    · exact absurd h (nI_pos (by omega))
    · rw [hB] at h
      exact absurd h (nI_ge hw (by omega))
  have out : (e - 10 < 0 ∨ (¬ e - 10 < 0 ∧ B ≤ e - 10)) → (e < 10 ∨ (¬ e < 10 ∧ T < e)) := by
    intro h
    by_cases c1 : e < 10
    · exact Or.inl c1
    · refine Or.inr ⟨c1, ?_⟩
      rcases fa3 T e with q | q | q
      · exact q
      · exfalso
        rw [hT] at q
        exact hno h (N - 1) (by
          rcases Nat.eq_zero_or_pos N with z | z
          · exfalso
            rw [z] at q
            rw [← q] at c1
            exact c1 (by decide)
          · omega) (by rw [← q]; congr 1; rcases Nat.eq_zero_or_pos N with z | z
                       · exfalso
                         rw [z] at q
                         rw [← q] at c1
                         exact c1 (by decide)
                       · omega)
      · exfalso
        have c2 : ¬ e < 0 := fun z => c1 (by
          have z1 := Int32.lt_iff_toInt_lt.mp z
          rw [Int32.lt_iff_toInt_lt]
          have e0 : (0 : Int32).toInt = 0 := rfl
          have e10 : (10 : Int32).toInt = 10 := rfl
          omega)
        obtain ⟨z, hz, rfl⟩ := nI_of2 (M := T) (n := N + 9) (by rw [hT]; exact nI_toInt (by omega)) c2 (Int32.le_of_lt q)
        have hz10 : 10 ≤ z := by
          rcases Nat.lt_or_ge z 10 with w | w
          · exact absurd (nI_lt (b := 10) w (by omega)) c1
          · exact w
        exact hno h (z - 10) (by omega) (by congr 1; omega)
  rcases cl0 hB (by omega) (e - 10) with q | ⟨q, q2⟩ | ⟨w, hw, ew, -, -, -⟩
  · exact Or.inr ⟨Or.inl q, out (Or.inl q), hno (Or.inl q)⟩
  · exact Or.inr ⟨Or.inr ⟨q, q2⟩, out (Or.inr ⟨q, q2⟩), hno (Or.inr ⟨q, q2⟩)⟩
  · have ee : e = nI (w + 10) := by
      rw [sub10 e, ew]
      exact nI_add w 10
    refine Or.inl ⟨w, hw, ee, ew, ?_, ?_⟩
    · rw [ee]; exact nI_nlt (a := w + 10) (b := 10) (by omega) (by omega)
    · rw [ee, hT]; exact nI_nlt (by omega) (by omega)
/-- an order that is told in cells -/
def ordF (f : Nat → Int32) (m : Nat) : Nat → Option (List Nat)
  | 0 => some []
  | p + 1 => match ordF f m p with
    | none => none
    | some L => if f p < 0 then none else if nI m ≤ f p then none else if L.contains (f p).toNatClampNeg then none else some (L ++ [(f p).toNatClampNeg])
theorem ordF_succ (f : Nat → Int32) (m p : Nat) : ordF f m (p + 1) = match ordF f m p with
    | none => none
    | some L => if f p < 0 then none else if nI m ≤ f p then none else if L.contains (f p).toNatClampNeg then none else some (L ++ [(f p).toNatClampNeg]) := rfl
theorem ordF_none {f : Nat → Int32} {m : Nat} {p : Nat} (h : ordF f m p = none) : ∀ d, ordF f m (p + d) = none := by
  intro d
  induction d with
  | zero => exact h
  | succ d ih => rw [← Nat.add_assoc, ordF_succ, ih]
theorem mkc_or {L : List Nat} {g : Nat} (hg : g < 5) : nI (mk (fun x => L.contains x)) ||| nI (2 ^ g) = nI (mk (fun x => (L ++ [g]).contains x)) := by
  rw [fa_or, mk_or _ hg]
  congr 1
  apply mk_cong
  intro x hx
  by_cases c : x = g
  · subst c; simp
  · simp [c]
theorem P6 : ∀ a, a < 32 → ∀ g, g < 5 → ((nI a &&& bit (nI g) = 0) ↔ ¬ inP a g = true) ∧ (((nI a >>> (nI g &&& (31 : Int32))) &&& (1 : Int32) = 1) ↔ inP a g = true) := by decide +kernel
theorem mk5_in : ∀ a b c d e : Bool, inP (mk5 a b c d e) 0 = a ∧ inP (mk5 a b c d e) 1 = b ∧ inP (mk5 a b c d e) 2 = c ∧ inP (mk5 a b c d e) 3 = d ∧ inP (mk5 a b c d e) 4 = e := by decide +kernel
theorem mk_in (p : Nat → Bool) {g : Nat} (hg : g < 5) : inP (mk p) g = p g := by
  obtain ⟨h0, h1, h2, h3, h4⟩ := mk5_in (p 0) (p 1) (p 2) (p 3) (p 4)
  rcases (show g = 0 ∨ g = 1 ∨ g = 2 ∨ g = 3 ∨ g = 4 by omega) with rfl | rfl | rfl | rfl | rfl
  · exact h0
  · exact h1
  · exact h2
  · exact h3
  · exact h4
theorem C_isOrder {q i n m : Nat} (hq : q < 4) (hin : i + n ≤ 60) (hm : m ≤ 5) {M : Mem} {R : Int32 → Mem → Prop} (e6 : M 12 6 = nI m) (ky : ∀ L, ordF (fun p => M (6 + q) (i + p)) m n = some L → R 1 M) (kn : ordF (fun p => M (6 + q) (i + p)) m n = none → R 0 M) : wp_Main_isOrder q (nI i) (nI n) M R := by
  intro X hX
  have key : ∀ (d p : Nat), p + d = n → ∀ L, ordF (fun p => M (6 + q) (i + p)) m p = some L → X q (nI i) (nI n) (nI (mk (fun x => L.contains x))) (nI p) M := by
    intro d
    induction d with
    | zero =>
      intro p hp L hL
      have : p = n := by omega
      subst this
      exact hX _ _ _ _ _ _ ⟨hq, fun _ => ky L hL, fun z => absurd (Int32.le_refl _) z⟩
    | succ d ih =>
      intro p hp L hL
      have hsuc := ordF_succ (fun p => M (6 + q) (i + p)) m p
      rw [hL] at hsuc
      dsimp only at hsuc
      refine hX _ _ _ _ _ _ ⟨hq, fun z => absurd z (nI_ge (by omega) (by omega)), fun _ => ?_⟩
      rw [nI_add]
      refine ⟨vp_in_nI (by omega) (by omega), ?_⟩
      intro x ex
      rw [nI_clamp (by omega)] at ex
      rw [← ex] at hsuc
      have bad : ordF (fun p => M (6 + q) (i + p)) m (p + 1) = none → R 0 M := by
        intro hb
        refine kn ?_
        have := ordF_none hb d
        rw [← this]
        congr 1
        omega
      unfold wp_Way_hasGuest
      rw [e6]
      rcases cl0 (N := nI m) rfl (by omega) x with w | ⟨w, w2⟩ | ⟨g, hg, eg, w1, w2, w3⟩
      · rw [e_isBelow_n (Or.inl w)]
        rw [if_pos w] at hsuc
        exact ⟨fun _ => bad hsuc, fun z => absurd rfl z⟩
      · rw [e_isBelow_n (Or.inr ⟨w, w2⟩)]
        rw [if_neg w, if_pos w2] at hsuc
        exact ⟨fun _ => bad hsuc, fun z => absurd rfl z⟩
      · rw [eg] at hsuc ⊢
        rw [if_neg w1, if_neg w2, w3] at hsuc
        rw [e_isBelow_y rfl hg (by omega)]
        have eb : (1 : Int32) <<< (nI g &&& (31 : Int32)) = nI (2 ^ g) := bit_pow g (by omega)
        have hp6 := (P6 (mk (fun x => L.contains x)) (mk_lt _) g (by omega)).1
        rw [mk_in _ (by omega)] at hp6
        refine ⟨fun z => absurd z (by decide), fun _ => ⟨fun c => ?_, fun c => ?_⟩⟩
        · have c' := hp6.mp c
          rw [if_neg c'] at hsuc
          intro y ey y2 ey2
          rw [ey, ey2, nI_1, eb, mkc_or (by omega)]
          exact ih (p + 1) (by omega) _ hsuc
        · have c' : L.contains g = true := by
            cases e : L.contains g with
            | true => rfl
            | false => exact absurd (hp6.mpr (by rw [e]; decide)) c
          rw [if_pos c'] at hsuc
          exact bad hsuc
  have := key n 0 (by omega) [] rfl
  exact this
theorem mk5_and : ∀ a b c d e : Bool, ∀ a2 b2 c2 d2 e2 : Bool, mk5 a b c d e &&& (31 ^^^ mk5 a2 b2 c2 d2 e2) = mk5 (a && !a2) (b && !b2) (c && !c2) (d && !d2) (e && !e2) := by decide +kernel
theorem mk_andn (p q : Nat → Bool) : mk p &&& (31 ^^^ mk q) = mk (fun x => p x && !(q x)) := mk5_and _ _ _ _ _ _ _ _ _ _
/-- what an order of guests answers -/
def goA (D : Mem) (n m : Nat) (L : List Nat) (e : Int32) : Int32 := if e = 0 then nI (mk (fun x => L.contains x && b9 ((cn D n m L).2 x))) else (cn D n m L).2 (e - 10).toNatClampNeg
theorem ordF_mem {f : Nat → Int32} {m : Nat} (hm : m ≤ 5) : ∀ (p : Nat) (L : List Nat), ordF f m p = some L → ∀ x, x ∈ L → x < m := by
  intro p
  induction p with
  | zero => intro L h x hx; cases h; cases hx
  | succ p ih =>
    intro L h x hx
    rw [ordF_succ] at h
    cases e : ordF f m p with
    | none => rw [e] at h; cases h
    | some L0 =>
      rw [e] at h
      dsimp only at h
      by_cases c1 : f p < 0
      · rw [if_pos c1] at h; cases h
      rw [if_neg c1] at h
      by_cases c2 : nI m ≤ f p
      · rw [if_pos c2] at h; cases h
      rw [if_neg c2] at h
      by_cases c3 : L0.contains (f p).toNatClampNeg = true
      · rw [if_pos c3] at h; cases h
      rw [if_neg c3] at h
      cases h
      rcases List.mem_append.mp hx with h1 | h1
      · exact ih L0 e x h1
      · rcases cl0 (N := nI m) rfl (by omega) (f p) with w | ⟨w, w2⟩ | ⟨g, hg, eg, w1, w2, w3⟩
        · exact absurd w c1
        · exact absurd w2 c2
        · rw [List.mem_singleton.mp h1, eg, w3]; exact hg
theorem ordF_pre {f : Nat → Int32} {m : Nat} (hm : m ≤ 5) {p : Nat} {L : List Nat} (h : ordF f m (p + 1) = some L) : ∃ L0 g, ordF f m p = some L0 ∧ g < m ∧ f p = nI g ∧ g ∉ L0 ∧ L = L0 ++ [g] := by
  rw [ordF_succ] at h
  cases e : ordF f m p with
  | none => rw [e] at h; cases h
  | some L0 =>
    rw [e] at h
    dsimp only at h
    by_cases c1 : f p < 0
    · rw [if_pos c1] at h; cases h
    rw [if_neg c1] at h
    by_cases c2 : nI m ≤ f p
    · rw [if_pos c2] at h; cases h
    rw [if_neg c2] at h
    by_cases c3 : L0.contains (f p).toNatClampNeg = true
    · rw [if_pos c3] at h; cases h
    rw [if_neg c3] at h
    cases h
    rcases cl0 (N := nI m) rfl (by omega) (f p) with w | ⟨w, w2⟩ | ⟨g, hg, eg, w1, w2, w3⟩
    · exact absurd w c1
    · exact absurd w2 c2
    · rw [eg, w3] at c3 ⊢
      exact ⟨L0, g, rfl, hg, rfl, fun hm => c3 (by simpa using hm), rfl⟩
theorem ordF_some {f : Nat → Int32} {m : Nat} {n : Nat} {L : List Nat} (h : ordF f m n = some L) : ∀ (d p : Nat), p + d = n → ∃ L0, ordF f m p = some L0 := by
  intro d p hp
  cases e : ordF f m p with
  | some L0 => exact ⟨L0, rfl⟩
  | none =>
    have := ordF_none e d
    rw [hp, h] at this
    cases this
