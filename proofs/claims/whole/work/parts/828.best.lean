def stp (D : Mem) (n m : Nat) (l : List Nat) (s : Nat × List Nat) : Nat × List Nat := if cnt m (rsL D n m l) + 1 ≤ s.1 then s else (cnt m (rsL D n m l) + 1, l)
def bsF (D : Mem) (n m : Nat) : Nat → List Nat → Nat × List Nat → Nat × List Nat
  | 0, _, s => s
  | d + 1, l, s => bsF D n m d (nx m l) (stp D n m l s)
theorem stp_pos (D : Mem) (n m : Nat) (l : List Nat) (s : Nat × List Nat) : 0 < (stp D n m l s).1 := by
  unfold stp
  by_cases c : cnt m (rsL D n m l) + 1 ≤ s.1
  · rw [if_pos c]; omega
  · rw [if_neg c]; exact Nat.succ_pos _
theorem bsF_pos {D : Mem} {n m : Nat} : ∀ (d : Nat) (l : List Nat) (s : Nat × List Nat), 0 < d ∨ 0 < s.1 → 0 < (bsF D n m d l s).1 := by
  intro d
  induction d with
  | zero => intro l s h; exact h.resolve_left (by omega)
  | succ d ih => intro l s _; exact ih _ _ (Or.inr (stp_pos _ _ _ _ _))
def bI (x : Int32) (b : Nat) : Int32 := if b = 0 then x else nI (b - 1)
theorem nI_nle1 : ∀ c, c < 6 → ¬ nI c ≤ -1 ∧ ¬ nI c ≤ -9 := by decide +kernel
theorem bI_le {x : Int32} (hx : x = -1 ∨ x = -9) {b c : Nat} (hb : b ≤ 6) (hc : c ≤ 5) : nI c ≤ bI x b ↔ c + 1 ≤ b := by
  unfold bI
  by_cases h : b = 0
  · rw [if_pos h]
    constructor
    · intro q
      rcases hx with rfl | rfl
      · exact absurd q (nI_nle1 c (by omega)).1
      · exact absurd q (nI_nle1 c (by omega)).2
    · omega
  · rw [if_neg h, le_nI (by omega) (by omega)]
    omega
theorem stp_le {D : Mem} {n m : Nat} {l : List Nat} {s : Nat × List Nat} (hm : m ≤ 5) (h : s.1 ≤ 6) : (stp D n m l s).1 ≤ 6 := by
  unfold stp
  have := cnt_le hm (f := rsL D n m l)
  by_cases c : cnt m (rsL D n m l) + 1 ≤ s.1
  · rw [if_pos c]; exact h
  · rw [if_neg c]; show cnt m (rsL D n m l) + 1 ≤ 6; omega
theorem chain_lr0 {m : Nat} {l : List Nat} (h : chain m 0 l = true) : lr l (m - 1) = 0 := by
  simp only [chain, Bool.and_eq_true, decide_eq_true_eq] at h
  exact h.2
theorem chain_lr1 {m d : Nat} {l : List Nat} (h : chain m (d + 1) l = true) : lr l (m - 1) ≠ 0 ∧ chain m d (nx m l) = true := by
  simp only [chain, Bool.and_eq_true, Bool.not_eq_true', decide_eq_false_iff_not] at h
  exact ⟨h.1.2, h.2⟩
theorem XF.se {k : Nat} (hk : ∀ j, scr k j = true) {M M' : Mem} (h : XF k M M') : SE M M' := by
  intro q j e
  by_cases c : q = k
  · rw [c, hk] at e
    cases e
  · rw [h q c]
theorem C_best {n m : Nat} (hn : n ≤ 6) (hm : m ≤ 5) {M : Mem} {R : Mem → Prop} (e5 : M 12 5 = nI n) (e6 : M 12 6 = nI m) (k : ∀ M', SE M M' → M' 21 4 = nI ((bsF (dC M) n m (fc m) (List.range m) (0, [])).1 - 1) → RW 24 m (bsF (dC M) n m (fc m) (List.range m) (0, [])).2 M' → R M') : wp_Search_findBest M R := by
  intro X hX M10 e10
  have fpos := bsF_pos (D := dC M) (n := n) (m := m) (fc m) (List.range m) (0, []) (Or.inl (fc_pos m))
  have hfc := fc_le m (by omega)
  generalize hB : bsF (dC M) n m (fc m) (List.range m) (0, []) = B at k fpos
  have key : ∀ (d i : Nat) (l : List Nat) (s : Nat × List Nat), i + d = fc m → (∀ d', d = d' + 1 → chain m d' l = true) → s.1 ≤ 6 → bsF (dC M) n m d l s = B → ∀ M1 : Mem, SE M M1 → M1 22 1 = nI m → RW 23 m l M1 → M1 21 4 = bI (-1) s.1 → (0 < s.1 → RW 24 m s.2 M1) → X (nI (fc m)) (nI i) M1 := by
    intro d
    induction d with
    | zero =>
      intro i l s hi _ _ hb M1 fr e22 hr e4 h24
      have hi' : i = fc m := by omega
      have hs : s = B := hb
      subst hs
      refine hX _ _ _ ⟨fun _ => k M1 fr ?_ (h24 fpos), fun z => absurd (by rw [hi']; exact Int32.le_refl _) z⟩
      rw [e4]
      unfold bI
      rw [if_neg (by omega)]
    | succ d ih =>
      intro i l s hi hc hs6 hb M1 fr e22 hr e4 h24
      have hch := hc d rfl
      have okl := chain_ok hch
      have hcn := cnt_le hm (f := rsL (dC M) n m l)
      have eD := fr.dC
      refine hX _ _ _ ⟨fun z => absurd z (nI_ge (by omega) (by omega)), fun _ => ?_⟩
      refine C_inOrder hn hm okl (by rw [fr 12 5 rfl]; exact e5) (by rw [fr 12 6 rfl]; exact e6) e22 hr (fun M2 fr2 => ?_)
      rw [eD]
      refine C_bitCount (Nat.lt_trans (mk_lt _) (by decide)) ?_
      show (nI (cnt m (rsL (dC M) n m l)) ≤ M2 21 4 → _) ∧ (¬ nI (cnt m (rsL (dC M) n m l)) ≤ M2 21 4 → _)
      have g21 : M2 21 4 = bI (-1) s.1 := by rw [fr2 21 (by decide) (by decide) (by decide)]; exact e4
      have g22 : M2 22 1 = nI m := by rw [fr2 22 (by decide) (by decide) (by decide)]; exact e22
      have g23 : RW 23 m l M2 := fun j hj => by rw [fr2 23 (by decide) (by decide) (by decide)]; exact hr j hj
      rw [g21]
      have nxt : ∀ M3 : Mem, SE M M3 → M3 22 1 = nI m → RW 23 m l M3 → M3 21 4 = bI (-1) (stp (dC M) n m l s).1 → RW 24 m (stp (dC M) n m l s).2 M3 → wp_Search_findBest_48 X R (nI (fc m)) (nI i) M3 := by
        intro M3 fr3 e3 r3 e34 r24
        refine C_next hm (ok_len okl) (ok_lv hm okl) e3 r3 (fun M4 fr4 r4 => ?_)
        intro y ey
        rw [ey, nI_1]
        refine ih (i + 1) (nx m l) (stp (dC M) n m l s) (by omega) (fun d' ed => ?_) (stp_le hm hs6) hb M4 (fr3.tr (fr4.se (fun _ => rfl))) (by rw [fr4 22 (by decide)]; exact e3) r4 (by rw [fr4 21 (by decide)]; exact e34) (fun _ j hj => by rw [fr4 24 (by decide)]; exact r24 j hj)
        subst ed
        exact (chain_lr1 hch).2
      refine ⟨fun c => ?_, fun c => ?_⟩
      · have c' := (bI_le (Or.inl rfl) hs6 hcn).mp c
        have es : stp (dC M) n m l s = s := by unfold stp; rw [if_pos c']
        refine nxt M2 (fr.tr fr2.se) g22 g23 (by rw [es]; exact g21) ?_
        rw [es]
        intro j hj
        rw [fr2 24 (by decide) (by decide) (by decide)]
        exact h24 (by omega) j hj
      · have c' : ¬ cnt m (rsL (dC M) n m l) + 1 ≤ s.1 := fun z => c ((bI_le (Or.inl rfl) hs6 hcn).mpr z)
        have es : stp (dC M) n m l s = (cnt m (rsL (dC M) n m l) + 1, l) := by unfold stp; rw [if_neg c']
        intro N1 en1
        have q22 : N1 22 1 = nI m := by rw [en1, ms_n (by decide)]; exact g22
        rw [q22, nI_clamp (by omega)]
        refine ⟨by decide, by decide, nI_pos (by omega), ?_, ?_, ?_⟩
        · show 0 + m ≤ 5
          omega
        · show 0 + m ≤ 5
          omega
        intro N7 en7
        have q23 : RW 23 m l N7 := fun j hj => by rw [en7, mr_n (by decide), en1, ms_n (by decide)]; exact g23 j hj
        refine nxt N7 ?_ (by rw [en7, mr_n (by decide)]; exact q22) q23 ?_ ?_
        · rw [en7, en1]
          exact ((fr.tr fr2.se).set rfl _).row (fun _ => rfl) _
        · rw [en7, mr_n (by decide), en1, ms_s, up_s, es]
          show _ = bI (-1) (cnt m (rsL (dC M) n m l) + 1)
          unfold bI
          rw [if_neg (by omega)]
          rfl
        · intro j hj
          rw [en7, mr_s, es]
          show va_cpy (N1 23) (N1 24) 0 0 m j = nI (gt l j)
          rw [pk_cpy_in (by omega) (by omega), en1, ms_n (by decide), show 0 + (j - 0) = j by omega]
          exact g23 j hj
  have f10 : ∀ q, q ≠ 21 → M10 q = M q := fun q hq => by rw [e10, ms_n hq]
  have se10 : SE M M10 := by rw [e10]; exact SE.rf.set rfl _
  rw [f10 12 (by decide), e6]
  refine C_rows hm (fun M11 fr11 e22 hr => ?_)
  refine key (fc m) 0 (List.range m) (0, []) (by omega) (fun d' ed => ?_) (by decide) hB M11 ?_ e22 hr ?_ (fun z => absurd z (by decide))
  · have := chain_all m (by omega)
    rw [ed] at this
    exact this
  · intro q j e
    rw [fr11 q ?_ ?_]
    · exact se10 q j e
    all_goals
      intro z
      subst z
      cases e
  · rw [fr11 21 (by decide) (by decide), e10, ms_s, up_s]
    rfl
