theorem inP_mk5 : ∀ a b c d e : Bool, inP (mk5 a b c d e) 0 = a ∧ inP (mk5 a b c d e) 1 = b ∧ inP (mk5 a b c d e) 2 = c ∧ inP (mk5 a b c d e) 3 = d ∧ inP (mk5 a b c d e) 4 = e := by decide +kernel
theorem inP_mk (p : Nat → Bool) {g : Nat} (hg : g < 5) : inP (mk p) g = p g := by
  obtain ⟨h0, h1, h2, h3, h4⟩ := inP_mk5 (p 0) (p 1) (p 2) (p 3) (p 4)
  rcases (show g = 0 ∨ g = 1 ∨ g = 2 ∨ g = 3 ∨ g = 4 by omega) with rfl | rfl | rfl | rfl | rfl
  · exact h0
  · exact h1
  · exact h2
  · exact h3
  · exact h4
def odF (D : Mem) (n m g : Nat) : Nat → List Nat → Nat → Nat
  | 0, _, c => c
  | d + 1, l, c => odF D n m g d (nx m l) (if rsL D n m l g = -9 then c + 1 else c)
theorem odF_le {D : Mem} {n m g : Nat} : ∀ (d : Nat) (l : List Nat) (c : Nat), odF D n m g d l c ≤ c + d := by
  intro d
  induction d with
  | zero => intro l c; exact Nat.le_refl _
  | succ d ih =>
    intro l c
    have := ih (nx m l) (if rsL D n m l g = -9 then c + 1 else c)
    have e : (if rsL D n m l g = -9 then c + 1 else c) ≤ c + 1 := by
      by_cases h : rsL D n m l g = -9
      · rw [if_pos h]; exact Nat.le_refl _
      · rw [if_neg h]; omega
    show odF D n m g d (nx m l) _ ≤ _
    omega
theorem C_count {n m g : Nat} (hn : n ≤ 6) (hm : m ≤ 5) (hg : g < m) {M : Mem} {R : Mem → Prop} (e5 : M 12 5 = nI n) (e6 : M 12 6 = nI m) (k : ∀ M', SE M M' → M' 21 6 = nI (odF (dC M) n m g (fc m) (List.range m) 0) → M' 21 7 = nI (fc m) → R M') : wp_Search_countThroughOf (nI g) M R := by
  intro X hX M8 e8
  have hfc := fc_le m (by omega)
  generalize hB : odF (dC M) n m g (fc m) (List.range m) 0 = B at k
  have key : ∀ (d i : Nat) (l : List Nat) (c : Nat), i + d = fc m → (∀ d', d = d' + 1 → chain m d' l = true) → odF (dC M) n m g d l c = B → ∀ M1 : Mem, SE M M1 → M1 22 1 = nI m → RW 23 m l M1 → M1 21 6 = nI c → M1 21 7 = nI (fc m) → X (nI g) (nI i) M1 := by
    intro d
    induction d with
    | zero =>
      intro i l c hi _ hb M1 fr e22 hr g6 g7
      have hi' : i = fc m := by omega
      have hs : c = B := hb
      subst hs
      exact hX _ _ _ ⟨fun _ => k M1 fr g6 g7, fun z => absurd (by rw [hi', g7]; exact Int32.le_refl _) z⟩
    | succ d ih =>
      intro i l c hi hc hb M1 fr e22 hr g6 g7
      have hch := hc d rfl
      have okl := chain_ok hch
      have eD := fr.dC
      refine hX _ _ _ ⟨fun z => absurd z (by rw [g7]; exact nI_ge (by omega) (by omega)), fun _ => ?_⟩
      refine C_inOrder hn hm okl (by rw [fr 12 5 rfl]; exact e5) (by rw [fr 12 6 rfl]; exact e6) e22 hr (fun M2 fr2 => ?_)
      rw [eD]
      have f21 : M2 21 = M1 21 := fr2 21 (by decide) (by decide) (by decide)
      have g22 : M2 22 1 = nI m := by rw [fr2 22 (by decide) (by decide) (by decide)]; exact e22
      have g23 : RW 23 m l M2 := fun j hj => by rw [fr2 23 (by decide) (by decide) (by decide)]; exact hr j hj
      have P := P1 _ (mk_lt (fun x => decide (x < m) && b9 (rsL (dC M) n m l x))) g (by omega)
      rw [inP_mk _ (by omega)] at P
      have hb' : odF (dC M) n m g d (nx m l) (if rsL (dC M) n m l g = -9 then c + 1 else c) = B := hb
      have nxt : ∀ (c' : Nat) (M3 : Mem), odF (dC M) n m g d (nx m l) c' = B → SE M M3 → M3 22 1 = nI m → RW 23 m l M3 → M3 21 6 = nI c' → M3 21 7 = nI (fc m) → wp_Search_countThroughOf_54 X R (nI g) (nI i) M3 := by
        intro c' M3 hb3 fr3 e3 r3 e36 e37
        refine C_next hm (ok_len okl) (ok_lv hm okl) e3 r3 (fun M4 fr4 r4 => ?_)
        intro y ey
        rw [ey, nI_1]
        refine ih (i + 1) (nx m l) c' (by omega) (fun d' ed => ?_) hb3 M4 (fr3.tr (fr4.se (fun _ => rfl))) (by rw [fr4 22 (by decide)]; exact e3) r4 (by rw [fr4 21 (by decide)]; exact e36) (by rw [fr4 21 (by decide)]; exact e37)
        subst ed
        exact (chain_lr1 hch).2
      refine ⟨fun z => ?_, fun z => ?_⟩
      · have z' := P.mp z
        have z2 : ¬ rsL (dC M) n m l g = -9 := fun q => by
          simp [hg, b9, q] at z'
        rw [if_neg z2] at hb'
        exact nxt c M2 hb' (fr.tr fr2.se) g22 g23 (by rw [f21]; exact g6) (by rw [f21]; exact g7)
      · have z2 : rsL (dC M) n m l g = -9 := by
          by_cases q : rsL (dC M) n m l g = -9
          · exact q
          · exact absurd (P.mpr (by simp [b9, q])) z
        rw [if_pos z2] at hb'
        intro M5 e5'
        refine nxt (c + 1) M5 hb' (by rw [e5']; exact (fr.tr fr2.se).set rfl _) (by rw [e5', ms_n (by decide)]; exact g22) (fun j hj => by rw [e5', ms_n (by decide)]; exact g23 j hj) ?_ ?_
        · rw [e5', ms_s, up_s, f21, g6, nI_1]
        · rw [e5', ms_s, up_n (by decide), f21]
          exact g7
  rw [show M8 12 6 = nI m by rw [e8, ms_n (by decide)]; exact e6]
  refine C_rows hm (fun M9 fr9 e22 hr => ?_)
  intro M11 e11
  refine key (fc m) 0 (List.range m) 0 (by omega) (fun d' ed => ?_) hB M11 ?_ (by rw [e11, ms_n (by decide)]; exact e22) (fun j hj => by rw [e11, ms_n (by decide)]; exact hr j hj) ?_ (by rw [e11, ms_s, up_s])
  · have := chain_all m (by omega)
    rw [ed] at this
    exact this
  · rw [e11]
    refine SE.set ?_ rfl _
    intro q j e
    rw [fr9 q ?_ ?_, e8]
    · exact (SE.rf (M := M)).set (k := 21) (j := 6) rfl _ q j e
    all_goals
      intro z
      subst z
      cases e
  · rw [e11, ms_s, up_n (by decide), fr9 21 (by decide) (by decide), e8, ms_s, up_s]
    rfl
def sd (c f : Nat) : Nat → Nat
  | 0 => 1
  | x + 1 => if x + 1 ≤ 1 then 1 else if c % (x + 1) = 0 ∧ f % (x + 1) = 0 then x + 1 else sd c f x
theorem nI_rem {a b : Nat} (ha : a < 2 ^ 31) (h0 : 0 < b) (hb : b < 2 ^ 31) : nI a - nI a / nI b * nI b = nI (a % b) := by
  have q := Nat.div_add_mod a b
  have q2 := Nat.mul_comm b (a / b)
  rw [pk_div ha h0 hb, pk_mul, pk_sub (by omega)]
  congr 1
  omega
theorem C_sd {c f : Nat} (hc : c ≤ 120) (hf : f ≤ 120) {M : Mem} {R : Int32 → Mem → Prop} (k : R (nI (if c = 0 then f else sd c f c)) M) : wp_Main_sharedDivisor (nI c) (nI f) M R := by
  intro X hX
  have key : ∀ x, x ≤ 120 → R (nI (sd c f x)) M → X (nI c) (nI f) (nI x) M := by
    intro x
    induction x with
    | zero =>
      intro _ kk
      exact hX _ _ _ _ ⟨fun _ => kk, fun z => absurd (by decide) z⟩
    | succ x ih =>
      intro hx kk
      rw [show sd c f (x + 1) = if x + 1 ≤ 1 then 1 else if c % (x + 1) = 0 ∧ f % (x + 1) = 0 then x + 1 else sd c f x from rfl] at kk
      have l1 : (nI (x + 1) ≤ (1 : Int32)) ↔ x + 1 ≤ 1 := le_nI (b := 1) (by omega) (by omega)
      have n0 : ¬ nI (x + 1) = 0 := nI_ne0 (by omega) (by omega)
      refine hX _ _ _ _ ⟨fun z => ?_, fun z => ⟨n0, ?_⟩⟩
      · rw [if_pos (l1.mp z)] at kk
        exact kk
      · rw [if_neg (fun q => z (l1.mpr q))] at kk
        rw [nI_rem (by omega) (by omega) (by omega), nI_rem (by omega) (by omega) (by omega)]
        have m1 := Nat.mod_lt c (show 0 < x + 1 by omega)
        have m2 := Nat.mod_lt f (show 0 < x + 1 by omega)
        have i1 : (nI (c % (x + 1)) = 0) ↔ c % (x + 1) = 0 := nI_eq (b := 0) (by omega) (by omega)
        have i2 : (nI (f % (x + 1)) = 0) ↔ f % (x + 1) = 0 := nI_eq (b := 0) (by omega) (by omega)
        refine ⟨fun q => ?_, fun q => ⟨n0, fun q2 => ?_, fun q2 => ?_⟩⟩
        · rw [if_neg (fun t => q (i1.mpr t.1))] at kk
          intro y ey
          rw [ey, pk_m1]
          exact ih (by omega) kk
        · rw [if_neg (fun t => q2 (i2.mpr t.2))] at kk
          intro y ey
          rw [ey, pk_m1]
          exact ih (by omega) kk
        · rw [if_pos ⟨i1.mp q, i2.mp q2⟩] at kk
          exact kk
  refine ⟨fun z => ?_, fun z => ?_⟩
  · rw [if_neg (fun q => z (by rw [q]; rfl))] at k
    exact key c hc k
  · rw [if_pos ((nI_eq (b := 0) (by omega) (by omega)).mp z)] at k
    exact k
theorem sd_gcd : ∀ m, m < 6 → ∀ c, c < 121 → c ≤ fc m → (if c = 0 then fc m else sd c (fc m) c) = Nat.gcd c (fc m) := by decide +kernel
