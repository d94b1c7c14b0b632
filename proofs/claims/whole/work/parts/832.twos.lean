def aM (l : List Nat) (g : Nat) : Nat := 2 ^ g ||| 2 ^ (gt l g)
def jgS (D : Mem) (n m : Nat) (l : List Nat) (s : (Nat → Int32) × Nat × Nat × Nat) (g : Nat) : (Nat → Int32) × Nat × Nat × Nat :=
  if gt l g < g then s else ((wk D (grD D (aM l g) m) n 0 s.1).2, (if (wk D (grD D (aM l g) m) n 0 s.1).1 = -9 then s.2.1 + pc (aM l g) else s.2.1), s.2.2.1 + 1, (if (wk D (grD D (aM l g) m) n 0 s.1).1 = -9 then s.2.2.2 else s.2.2.2 ||| aM l g))
def jg (D : Mem) (n m : Nat) (l : List Nat) : Nat → (Nat → Int32) × Nat × Nat × Nat
  | 0 => (fun _ => 0, 0, 0, 0)
  | i + 1 => jgS D n m l (jg D n m l i) i
def dn (l : List Nat) : Nat → Nat
  | 0 => 0
  | i + 1 => if gt l i < i then dn l i else dn l i ||| aM l i
def okV2 (m : Nat) (l : List Nat) : Bool := decide (l.length = m) && (List.range m).all (fun i => decide (gt l i < m))
def okM (m : Nat) (l : List Nat) : Bool := (List.range m).all (fun i => decide (gt l i < i) || decide (dn l i &&& aM l i = 0)) && decide (pc (dn l m) = m)
theorem pcF1 : ∀ d, d < 32 → ∀ a, a < 32 → d &&& a = 0 → pc (d ||| a) = pc d + pc a := by decide +kernel
theorem pcF2 : ∀ L, L < 32 → ∀ d, d < 32 → ∀ a, a < 32 → L ||| d = d → d &&& a = 0 → L &&& a = 0 := by decide +kernel
theorem pc_le5 : ∀ a, a < 32 → pc a ≤ 5 := by decide +kernel
theorem okV2_len {m : Nat} {l : List Nat} (h : okV2 m l = true) : l.length = m := by
  simp only [okV2, Bool.and_eq_true, decide_eq_true_eq] at h
  exact h.1
theorem okV2_at {m : Nat} {l : List Nat} (h : okV2 m l = true) {i : Nat} (hi : i < m) : gt l i < m := by
  simp only [okV2, Bool.and_eq_true, decide_eq_true_eq, List.all_eq_true] at h
  exact h.2 i (by simp; exact hi)
theorem okM_at {m : Nat} {l : List Nat} (h : okM m l = true) {i : Nat} (hi : i < m) (hg : ¬ gt l i < i) : dn l i &&& aM l i = 0 := by
  simp only [okM, Bool.and_eq_true, decide_eq_true_eq, List.all_eq_true, Bool.or_eq_true] at h
  exact (h.1 i (by simp; exact hi)).resolve_left hg
theorem okM_end {m : Nat} {l : List Nat} (h : okM m l = true) : pc (dn l m) = m := by
  simp only [okM, Bool.and_eq_true, decide_eq_true_eq] at h
  exact h.2
theorem aM_lt {l : List Nat} {g : Nat} (h1 : g < 5) (h2 : gt l g < 5) : aM l g < 32 := Nat.or_lt_two_pow (n := 5) (Nat.pow_lt_pow_right (a := 2) (by omega) h1) (Nat.pow_lt_pow_right (a := 2) (by omega) h2)
theorem aM_ne : ∀ g, g < 5 → ∀ h, h < 5 → 2 ^ g ||| 2 ^ h ≠ 0 := by decide +kernel
theorem jg_inv {D : Mem} {n m : Nat} {l : List Nat} (hm : m ≤ 5) (hv : okV2 m l = true) (hok : okM m l = true) : ∀ i, i ≤ m → dn l i < 32 ∧ (jg D n m l i).2.2.2 < 32 ∧ (jg D n m l i).2.2.2 ||| dn l i = dn l i ∧ pc (jg D n m l i).2.2.2 + (jg D n m l i).2.1 = pc (dn l i) ∧ (jg D n m l i).2.2.1 ≤ i := by
  intro i
  induction i with
  | zero => intro _; exact ⟨by show 0 < 32; omega, by show 0 < 32; omega, by show 0 ||| 0 = 0; decide, by show pc 0 + 0 = pc 0; decide, Nat.le_refl _⟩
  | succ i ih =>
    intro hi
    obtain ⟨a1, a2, a3, a4, a5⟩ := ih (by omega)
    show (if gt l i < i then dn l i else dn l i ||| aM l i) < 32 ∧ (jgS D n m l (jg D n m l i) i).2.2.2 < 32 ∧ (jgS D n m l (jg D n m l i) i).2.2.2 ||| (if gt l i < i then dn l i else dn l i ||| aM l i) = (if gt l i < i then dn l i else dn l i ||| aM l i) ∧ pc (jgS D n m l (jg D n m l i) i).2.2.2 + (jgS D n m l (jg D n m l i) i).2.1 = pc (if gt l i < i then dn l i else dn l i ||| aM l i) ∧ (jgS D n m l (jg D n m l i) i).2.2.1 ≤ i + 1
    generalize jg D n m l i = s at *
    unfold jgS
    by_cases c : gt l i < i
    · rw [if_pos c, if_pos c]
      exact ⟨a1, a2, a3, a4, by omega⟩
    · rw [if_neg c, if_neg c]
      have hg := okV2_at hv (i := i) (by omega)
      have al := aM_lt (l := l) (g := i) (by omega) (by omega)
      have dis := okM_at hok (i := i) (by omega) c
      have p1 := pcF1 _ a1 _ al dis
      have dL := pcF2 _ a2 _ a1 _ al a3 dis
      have p2 := pcF1 _ a2 _ al dL
      have lt2 : dn l i ||| aM l i < 32 := Nat.or_lt_two_pow (n := 5) a1 al
      dsimp only
      by_cases w : (wk D (grD D (aM l i) m) n 0 s.1).1 = -9
      · rw [if_pos w, if_pos w]
        refine ⟨lt2, a2, ?_, by omega, by omega⟩
        rw [← Nat.or_assoc, a3]
      · rw [if_neg w, if_neg w]
        refine ⟨lt2, Nat.or_lt_two_pow (n := 5) a2 al, ?_, by omega, by omega⟩
        rw [Nat.or_assoc, Nat.or_comm (aM l i), Nat.or_assoc, Nat.or_self, ← Nat.or_assoc, a3]
theorem jg_c {D : Mem} {n m : Nat} {l : List Nat} (hm : m ≤ 5) (hv : okV2 m l = true) (hok : okM m l = true) : pc (jg D n m l m).2.2.2 + (jg D n m l m).2.1 = m ∧ (jg D n m l m).2.2.1 ≤ m ∧ (jg D n m l m).2.2.2 < 32 := by
  obtain ⟨a1, a2, a3, a4, a5⟩ := jg_inv (D := D) (n := n) hm hv hok m (Nat.le_refl _)
  rw [okM_end hok] at a4
  exact ⟨a4, a5, a2⟩
def tst (D : Mem) (n m : Nat) (s : Nat × Nat × List Nat) (l : List Nat) : Nat × Nat × List Nat := if s.1 < (jg D n m l m).2.1 + 1 ∨ ((jg D n m l m).2.1 + 1 = s.1 ∧ (jg D n m l m).2.2.1 < s.2.1) then ((jg D n m l m).2.1 + 1, (jg D n m l m).2.2.1, l) else s
theorem tst_pos (D : Mem) (n m : Nat) (s : Nat × Nat × List Nat) (l : List Nat) : 0 < (tst D n m s l).1 := by
  unfold tst
  by_cases c : s.1 < (jg D n m l m).2.1 + 1 ∨ ((jg D n m l m).2.1 + 1 = s.1 ∧ (jg D n m l m).2.2.1 < s.2.1)
  · rw [if_pos c]; exact Nat.succ_pos _
  · rw [if_neg c]; omega
theorem tst_le {D : Mem} {n m : Nat} {s : Nat × Nat × List Nat} {l : List Nat} (hm : m ≤ 5) (hv : okV2 m l = true) (hok : okM m l = true) (h : s.1 ≤ 6) (h2 : s.2.1 ≤ 5) : (tst D n m s l).1 ≤ 6 ∧ (tst D n m s l).2.1 ≤ 5 := by
  obtain ⟨q1, q2, q3⟩ := jg_c (D := D) (n := n) hm hv hok
  unfold tst
  by_cases c : s.1 < (jg D n m l m).2.1 + 1 ∨ ((jg D n m l m).2.1 + 1 = s.1 ∧ (jg D n m l m).2.2.1 < s.2.1)
  · rw [if_pos c]; constructor <;> dsimp only <;> omega
  · rw [if_neg c]; exact ⟨h, h2⟩
theorem bI_lt {x : Int32} (hx : x = -1 ∨ x = -9) {b c : Nat} (hb : b ≤ 6) (hc : c ≤ 5) : bI x b < nI c ↔ b < c + 1 := by
  have := bI_le hx hb hc
  rw [← Int32.not_le, this]
  omega
theorem bI_eq {x : Int32} {b c : Nat} (h0 : 0 < b) (hb : b ≤ 6) (hc : c ≤ 5) : nI c = bI x b ↔ c + 1 = b := by
  unfold bI
  rw [if_neg (by omega), nI_eq (by omega) (by omega)]
  omega
theorem C_judge {n m : Nat} {l : List Nat} {s : Nat × Nat × List Nat} (hn : n ≤ 6) (hm : m ≤ 5) (hv : okV2 m l = true) (hok : okM m l = true) (h6 : s.1 ≤ 6) (h5 : s.2.1 ≤ 5) {M : Mem} {R : Mem → Prop} (e5 : M 12 5 = nI n) (e6 : M 12 6 = nI m) (e22 : M 22 1 = nI m) (hl : RW 23 m l M) (e4 : M 21 4 = bI (-1) s.1) (e215 : M 21 5 = nI s.2.1) (h24 : 0 < s.1 → RW 24 m s.2.2 M)
    (k : ∀ M', SE M M' → M' 22 1 = nI m → RW 23 m l M' → M' 21 4 = bI (-1) (tst (dC M) n m s l).1 → M' 21 5 = nI (tst (dC M) n m s l).2.1 → RW 24 m (tst (dC M) n m s l).2.2 M' → R M') : wp_Search_judgeMates M R := by
  intro X hX
  obtain ⟨q1, q2, q3⟩ := jg_c (D := dC M) (n := n) hm hv hok
  refine C_begin (fun M1 f1 f2 f3 f4 _ _ => ?_)
  have key : ∀ (d i : Nat), i + d = m → ∀ M2 : Mem, CF M M2 → (∀ h, h < n → M2 19 h = (jg (dC M) n m l i).1 h) → X (nI (jg (dC M) n m l i).2.1) (nI (jg (dC M) n m l i).2.2.1) (nI i) M2 := by
    intro d
    induction d with
    | zero =>
      intro i hi M2 fr hr
      have : i = m := by omega
      subst this
      have g21 : M2 21 = M 21 := fr 21 (by decide) (by decide) (by decide)
      have g22 : M2 22 1 = nI i := by rw [fr 22 (by decide) (by decide) (by decide)]; exact e22
      have g23 : RW 23 i l M2 := fun j hj => by rw [fr 23 (by decide) (by decide) (by decide)]; exact hl j hj
      refine hX _ _ _ _ ⟨fun _ => ?_, fun z => absurd (by rw [g22]; exact Int32.le_refl _) z⟩
      rw [g21, e4, e215]
      have hkeep : s.1 < (jg (dC M) n i l i).2.1 + 1 ∨ ((jg (dC M) n i l i).2.1 + 1 = s.1 ∧ (jg (dC M) n i l i).2.2.1 < s.2.1) → wp_Search_judgeMates_113 X R (nI (jg (dC M) n i l i).2.1) (nI (jg (dC M) n i l i).2.2.1) M2 := by
        intro hk
        have es : tst (dC M) n i s l = ((jg (dC M) n i l i).2.1 + 1, (jg (dC M) n i l i).2.2.1, l) := by unfold tst; rw [if_pos hk]
        rw [es] at k
        intro N1 en1
        have q22 : N1 22 1 = nI i := by rw [en1, ms_n (by decide)]; exact g22
        rw [q22, nI_clamp (by omega)]
        refine ⟨by decide, by decide, nI_pos (by omega), ?_, ?_, ?_⟩
        · show 0 + i ≤ 5
          omega
        · show 0 + i ≤ 5
          omega
        intro N7 en7 N8 en8
        refine k N8 ?_ ?_ ?_ ?_ ?_ ?_
        · rw [en8, en7, en1]
          exact ((fr.se.set rfl _).row (fun _ => rfl) _).set rfl _
        · rw [en8, ms_n (by decide), en7, mr_n (by decide)]; exact q22
        · intro j hj
          rw [en8, ms_n (by decide), en7, mr_n (by decide), en1, ms_n (by decide)]; exact g23 j hj
        · rw [en8, ms_s, up_n (by decide), en7, mr_n (by decide), en1, ms_s, up_s]
          show _ = bI (-1) ((jg (dC M) n i l i).2.1 + 1)
          unfold bI
          rw [if_neg (by omega)]
          rfl
        · rw [en8, ms_s, up_s]
        · intro j hj
          rw [en8, ms_n (by decide), en7, mr_s]
          show va_cpy (N1 23) (N1 24) 0 0 i j = nI (gt l j)
          rw [pk_cpy_in (by omega) (by omega), en1, ms_n (by decide), show 0 + (j - 0) = j by omega]
          exact g23 j hj
      have hskip : ¬ (s.1 < (jg (dC M) n i l i).2.1 + 1 ∨ ((jg (dC M) n i l i).2.1 + 1 = s.1 ∧ (jg (dC M) n i l i).2.2.1 < s.2.1)) → R M2 := by
        intro hk
        have es : tst (dC M) n i s l = s := by unfold tst; rw [if_neg hk]
        rw [es] at k
        exact k M2 fr.se g22 g23 (by rw [g21]; exact e4) (by rw [g21]; exact e215) (fun j hj => by rw [fr 24 (by decide) (by decide) (by decide)]; exact h24 (by omega) j hj)
      have i1 := bI_lt (x := -1) (Or.inl rfl) h6 (show (jg (dC M) n i l i).2.1 ≤ 5 by omega)
      refine ⟨fun z => hkeep (Or.inl (i1.mp z)), fun z => ?_⟩
      have z' : ¬ s.1 < (jg (dC M) n i l i).2.1 + 1 := fun t => z (i1.mpr t)
      have i2 := bI_eq (x := -1) (b := s.1) (by omega) h6 (show (jg (dC M) n i l i).2.1 ≤ 5 by omega)
      have i3 := le_nI (a := s.2.1) (b := (jg (dC M) n i l i).2.2.1) (by omega) (by omega)
      refine ⟨fun t => hskip (fun u => ?_), fun t => ⟨fun u => hskip (fun v => ?_), fun u => hkeep (Or.inr ⟨i2.mp t, ?_⟩)⟩⟩
      · rcases u with u | u
        · exact z' u
        · exact t (i2.mpr u.1)
      · have := i3.mp u
        omega
      · have : ¬ s.2.1 ≤ (jg (dC M) n i l i).2.2.1 := fun v => u (i3.mpr v)
        omega
    | succ d ih =>
      intro i hi M2 fr hr
      have hg := okV2_at hv (i := i) (by omega)
      have eD := fr.dC
      have ih' := ih (i + 1) (by omega)
      rw [show jg (dC M) n m l (i + 1) = jgS (dC M) n m l (jg (dC M) n m l i) i from rfl] at ih'
      generalize jg (dC M) n m l i = t at *
      unfold jgS at ih'
      refine hX _ _ _ _ ⟨fun z => absurd z (by rw [fr 22 (by decide) (by decide) (by decide), e22]; exact nI_ge (by omega) (by omega)), fun _ => ⟨vp_in_nI (by omega) (by omega), ?_⟩⟩
      rw [nI_clamp (by omega), fr 23 (by decide) (by decide) (by decide), hl i (by omega)]
      refine ⟨fun z => ?_, fun z => ⟨vp_in_nI (by omega) (by omega), ?_⟩⟩
      · have z' : gt l i < i := by
          rcases Nat.lt_or_ge (gt l i) i with c | c
          · exact c
          · exact absurd z (nI_nlt c (by omega))
        rw [if_pos z'] at ih'
        intro y ey
        rw [ey, nI_1]
        exact ih' M2 fr hr
      · have z' : ¬ gt l i < i := fun c => z (nI_lt c (by omega))
        rw [if_neg z'] at ih'
        dsimp only at ih'
        have al := aM_lt (l := l) (g := i) (by omega) (by omega)
        intro y ey w ew
        have ey' : y = nI (aM l i) := by
          rw [ey]
          unfold aM
          rw [← fa_or, ← bit_pow i (by omega), ← bit_pow (gt l i) (by omega)]
          rfl
        rw [ey', ew, nI_1]
        obtain ⟨w1, w2⟩ := wk_cong (D := dC M) (n := n) (set := grD (dC M) (aM l i) m) n 0 (M2 19) t.1 (by omega) hr
        refine C_send al hn hm (by rw [fr 12 (by decide) (by decide) (by decide)]; exact e5) (by rw [fr 12 (by decide) (by decide) (by decide)]; exact e6) ?_
        rw [eD, w1]
        have go := ih' (mrow M2 19 (wk (dC M) (grD (dC M) (aM l i) m) n 0 (M2 19)).2) (fr.tr CF.row) (fun h hh => by rw [mr_s]; exact w2 h hh)
        refine ⟨fun v => ?_, fun v => ?_⟩
        · rw [if_neg v] at go
          intro u eu v2 ev2
          rw [eu, ev2, nI_1]
          rw [show nI t.2.1 + 0 = nI t.2.1 from nI_add _ 0]
          exact go
        · rw [if_pos v] at go
          refine C_bitCount (Nat.lt_trans al (by decide)) ?_
          intro u eu v2 ev2
          rw [eu, ev2, nI_1, nI_add]
          exact go
  exact key m 0 (by omega) M1 f1 (fun h hh => f2 h (by omega))
