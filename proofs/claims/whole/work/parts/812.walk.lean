def inP (a g : Nat) : Bool := a / 2 ^ g % 2 == 1
theorem P1 : ∀ a, a < 32 → ∀ g, g < 5 → ((nI a &&& bit (nI g) = 0) ↔ inP a g = false) := by decide +kernel
theorem P2 : ∀ a, a < 32 → ∀ g, g < 5 → (((nI a >>> (nI g &&& (31 : Int32))) &&& (1 : Int32) = 1) ↔ inP a g = true) := by decide +kernel
theorem bit_pow : ∀ g, g < 6 → bit (nI g) = nI (2 ^ g) := by decide +kernel
theorem or0 (x : Int32) : x ||| 0 = x := by
  apply Int32.toBitVec_inj.1
  show x.toBitVec ||| 0 = x.toBitVec
  simp
def grD (D : Mem) (a : Nat) : Nat → Int32
  | 0 => 0
  | g + 1 => if inP a g then grD D a g ||| D 4 g else grD D a g
theorem grD_succ (D : Mem) (a g : Nat) : grD D a (g + 1) = if inP a g then grD D a g ||| D 4 g else grD D a g := rfl
theorem grD_lt {D : Mem} {n m : Nat} (ok : okD D n m) (a : Nat) : ∀ g, g ≤ m → ∃ z, z < 64 ∧ grD D a g = nI z := by
  intro g
  induction g with
  | zero => intro _; exact ⟨0, by omega, rfl⟩
  | succ g ih =>
    intro hg
    obtain ⟨z, hz, e⟩ := ih (by omega)
    rw [grD_succ]
    by_cases c : inP a g = true
    · rw [if_pos c, e]
      obtain ⟨y, hy, e2⟩ := ok.2 g (by omega)
      rw [e2, fa_or]
      exact ⟨z ||| y, Nat.or_lt_two_pow (n := 6) hz hy, rfl⟩
    · rw [if_neg c]
      exact ⟨z, hz, e⟩
theorem C_gear {a m : Nat} (ha : a < 32) (hm : m ≤ 5) {M : Mem} {R : Int32 → Mem → Prop} (e : M 12 6 = nI m) (k : R (grD (dC M) a m) M) : wp_Way_gearOf (nI a) M R := by
  intro X hX
  have key : ∀ (d g : Nat), g + d = m → X (nI a) (grD (dC M) a g) (nI g) M := by
    intro d
    induction d with
    | zero =>
      intro g hg
      have : g = m := by omega
      subst this
      exact hX _ _ _ _ ⟨fun _ => k, fun z => absurd (by rw [e]; exact Int32.le_refl _) z⟩
    | succ d ih =>
      intro g hg
      have ih' := ih (g + 1) (by omega)
      rw [grD_succ] at ih'
      refine hX _ _ _ _ ⟨fun z => absurd z (by rw [e]; exact nI_ge (by omega) (by omega)), fun _ => ⟨fun c => ?_, fun c => ?_⟩⟩
      · have c' := (P1 a ha g (by omega)).mp c
        rw [c', if_neg (by decide)] at ih'
        intro y ey
        rw [ey, nI_1]
        exact ih'
      · have c' : inP a g = true := by
          cases e2 : inP a g with
          | true => rfl
          | false => exact absurd ((P1 a ha g (by omega)).mpr e2) c
        rw [if_pos c'] at ih'
        refine ⟨vp_in_nI (by omega) (by omega), ?_⟩
        intro x ex y ey
        rw [ex, ey, nI_1, nI_clamp (by omega)]
        exact ih'
  exact key m 0 (by omega)
theorem D_gear {a m : Nat} (ha : a < 32) (hm : m ≤ 5) {M : Mem} {R : Int32 → Mem → Prop} (e : M 29 6 = nI m) (k : R (grD (dM M) a m) M) : wp_Model_gearOfAll (nI a) M R := by
  intro X hX
  have key : ∀ (d g : Nat), g + d = m → X (nI a) (grD (dM M) a g) (nI g) M := by
    intro d
    induction d with
    | zero =>
      intro g hg
      have : g = m := by omega
      subst this
      exact hX _ _ _ _ ⟨fun _ => k, fun z => absurd (by rw [e]; exact Int32.le_refl _) z⟩
    | succ d ih =>
      intro g hg
      have ih' := ih (g + 1) (by omega)
      rw [grD_succ] at ih'
      refine hX _ _ _ _ ⟨fun z => absurd z (by rw [e]; exact nI_ge (by omega) (by omega)), fun _ => ⟨fun c => ?_, fun c => ?_⟩⟩
      · have c' : ¬ inP a g = true := fun z => c ((P2 a ha g (by omega)).mpr z)
        rw [if_neg c'] at ih'
        intro x ex y ey
        rw [ex, ey, nI_1, or0]
        exact ih'
      · have c' := (P2 a ha g (by omega)).mp c
        rw [if_pos c'] at ih'
        refine ⟨vp_in_nI (by omega) (by omega), ?_⟩
        intro x ex y ey
        rw [ex, ey, nI_1, nI_clamp (by omega)]
        exact ih'
  exact key m 0 (by omega)
def lrn (D : Mem) (h : Nat) (u : Int32) (K : Nat → Int32) : Nat → Int32 := if D 0 h = 2 then upd K h (K h ||| u) else K
def wk (D : Mem) (set : Int32) : Nat → Nat → (Nat → Int32) → Int32 × (Nat → Int32)
  | 0, _, K => (-9, K)
  | d + 1, h, K => if usD D h set (K h) = -9 then (nI h, K) else wk D set d (h + 1) (lrn D h (usD D h set (K h)) K)
theorem wk_succ (D : Mem) (set : Int32) (d h : Nat) (K : Nat → Int32) : wk D set (d + 1) h K = if usD D h set (K h) = -9 then (nI h, K) else wk D set d (h + 1) (lrn D h (usD D h set (K h)) K) := rfl
theorem lrn_cong {D : Mem} {n h : Nat} {u : Int32} {K K' : Nat → Int32} (hh : h < n) (e : ∀ i, i < n → K i = K' i) : ∀ i, i < n → lrn D h u K i = lrn D h u K' i := by
  intro i hi
  unfold lrn
  by_cases c : D 0 h = 2
  · rw [if_pos c, if_pos c]
    unfold upd
    by_cases ci : i = h
    · rw [if_pos ci, if_pos ci, e h hh]
    · rw [if_neg ci, if_neg ci, e i hi]
  · rw [if_neg c, if_neg c]
    exact e i hi
theorem wk_cong {D : Mem} {n : Nat} {set : Int32} : ∀ (d h : Nat) (K K' : Nat → Int32), h + d ≤ n → (∀ i, i < n → K i = K' i) → (wk D set d h K).1 = (wk D set d h K').1 ∧ ∀ i, i < n → (wk D set d h K).2 i = (wk D set d h K').2 i := by
  intro d
  induction d with
  | zero => intro h K K' _ e; exact ⟨rfl, e⟩
  | succ d ih =>
    intro h K K' hh e
    rw [wk_succ, wk_succ, ← e h (by omega)]
    by_cases c : usD D h set (K h) = -9
    · rw [if_pos c, if_pos c]
      exact ⟨rfl, e⟩
    · rw [if_neg c, if_neg c]
      exact ih (h + 1) _ _ (by omega) (lrn_cong (by omega) e)
theorem wk_small {D : Mem} {set : Int32} : ∀ (d h : Nat) (K : Nat → Int32), (wk D set d h K).1 = -9 ∨ ∃ z, h ≤ z ∧ z < h + d ∧ (wk D set d h K).1 = nI z := by
  intro d
  induction d with
  | zero => intro h K; exact Or.inl rfl
  | succ d ih =>
    intro h K
    rw [wk_succ]
    by_cases c : usD D h set (K h) = -9
    · rw [if_pos c]
      exact Or.inr ⟨h, by omega, by omega, rfl⟩
    · rw [if_neg c]
      rcases ih (h + 1) (lrn D h (usD D h set (K h)) K) with q | ⟨z, h1, h2, h3⟩
      · exact Or.inl q
      · exact Or.inr ⟨z, by omega, by omega, h3⟩
/-! the class's walk -/
def CF (M M' : Mem) : Prop := ∀ q, q ≠ 18 → q ≠ 19 → q ≠ 20 → M' q = M q
theorem CF.rf {M : Mem} : CF M M := fun _ _ _ _ => rfl
theorem CF.tr {M M1 M2 : Mem} (h : CF M M1) (h2 : CF M1 M2) : CF M M2 := fun q a b c => (h2 q a b c).trans (h q a b c)
theorem CF.se {M M' : Mem} (h : CF M M') : SE M M' := by
  intro k j e
  rw [h k]
  all_goals
    intro z
    subst z
    cases e
theorem CF.dC {M M' : Mem} (h : CF M M') : dC M' = dC M := by
  funext i
  match i with
  | 0 => exact h 13 (by decide) (by decide) (by decide)
  | 1 => exact h 14 (by decide) (by decide) (by decide)
  | 2 => exact h 15 (by decide) (by decide) (by decide)
  | 3 => exact h 16 (by decide) (by decide) (by decide)
  | 4 => exact h 17 (by decide) (by decide) (by decide)
  | _ + 5 => show (fun _ => M' 12 7) = fun _ => M 12 7; rw [h 12 (by decide) (by decide) (by decide)]
theorem CF.row {M : Mem} {f : Nat → Int32} : CF M (mrow M 19 f) := fun q _ b _ => mr_n b
theorem C_enter {h : Nat} (hh : h < 6) {set : Int32} {M : Mem} {R : Int32 → Mem → Prop} (k : R (if usD (dC M) h set (M 19 h) = -9 then 0 else 1) (mrow M 19 (if usD (dC M) h set (M 19 h) = -9 then M 19 else lrn (dC M) h (usD (dC M) h set (M 19 h)) (M 19)))) : wp_Walk_enter (nI h) set M R := by
  have hin : vp_in (nI h) 6 := vp_in_nI hh (by omega)
  have hc : (nI h).toNatClampNeg = h := nI_clamp (by omega)
  unfold wp_Walk_enter wp_Walk_enter_45
  rw [hc]
  refine ⟨hin, C_used hh ⟨fun c => ⟨fun _ => ?_, fun z => absurd c z⟩, fun c => ⟨hin, fun c2 => ⟨fun z => absurd z c, fun _ => ?_⟩, fun c2 => ⟨hin, hin, ?_⟩⟩⟩⟩
  · rw [if_pos c, if_pos c, mr_self rfl] at k
    exact k
  · rw [if_neg c, if_neg c] at k
    unfold lrn at k
    have c2' : ¬ dC M 0 h = 2 := c2
    rw [if_neg c2', mr_self rfl] at k
    exact k
  · intro M10 e10
    refine ⟨fun z => absurd z c, fun _ => ?_⟩
    rw [if_neg c, if_neg c] at k
    unfold lrn at k
    have c2' : dC M 0 h = 2 := c2
    rw [if_pos c2'] at k
    rw [e10]
    exact k
theorem C_send {a n m : Nat} (ha : a < 32) (hn : n ≤ 6) (hm : m ≤ 5) {M : Mem} {R : Int32 → Mem → Prop} (e5 : M 12 5 = nI n) (e6 : M 12 6 = nI m) (k : R (wk (dC M) (grD (dC M) a m) n 0 (M 19)).1 (mrow M 19 (wk (dC M) (grD (dC M) a m) n 0 (M 19)).2)) : wp_Walk_send (nI a) M R := by
  intro X hX
  refine C_gear ha hm e6 ?_
  generalize hset : grD (dC M) a m = set at k ⊢
  have key : ∀ (d h : Nat) (K : Nat → Int32), h + d = n → R (wk (dC M) set d h K).1 (mrow M 19 (wk (dC M) set d h K).2) → X set (nI h) (mrow M 19 K) := by
    intro d
    induction d with
    | zero =>
      intro h K hh kk
      have : h = n := by omega
      subst this
      refine hX _ _ _ ⟨fun _ => kk, fun z => absurd (by rw [mr_n (by decide), e5]; exact Int32.le_refl _) z⟩
    | succ d ih =>
      intro h K hh kk
      have eD : dC (mrow M 19 K) = dC M := CF.row.dC
      have e19 : mrow M 19 K 19 = K := mr_s
      refine hX _ _ _ ⟨fun z => absurd z (by rw [mr_n (by decide), e5]; exact nI_ge (by omega) (by omega)), fun _ => C_enter (by omega) ?_⟩
      rw [wk_succ] at kk
      rw [eD, e19, mr_mr]
      by_cases c : usD (dC M) h set (K h) = -9
      · rw [if_pos c] at kk
        rw [if_pos c, if_pos c]
        exact ⟨fun z => absurd rfl z, fun _ => kk⟩
      · rw [if_neg c] at kk
        rw [if_neg c, if_neg c]
        refine ⟨fun _ => ?_, fun z => absurd z (by decide)⟩
        intro y ey
        rw [ey, nI_1]
        exact ih (h + 1) _ (by omega) kk
  have := key n 0 (M 19) (by omega) k
  rw [mr_self rfl] at this
  exact this
theorem C_goAlone {g n m : Nat} (hg : g < 5) (hn : n ≤ 6) (hm : m ≤ 5) {M : Mem} {R : Mem → Prop} (e5 : M 12 5 = nI n) (e6 : M 12 6 = nI m) (k : ∀ M', CF M M' → (∀ j, j ≠ 3 → M' 18 j = M 18 j) → M' 19 = (wk (dC M) (grD (dC M) (2 ^ g) m) n 0 (M 19)).2 → M' 20 = upd (M 20) g (wk (dC M) (grD (dC M) (2 ^ g) m) n 0 (M 19)).1 → M' 18 3 = (if (wk (dC M) (grD (dC M) (2 ^ g) m) n 0 (M 19)).1 = -9 then M 18 3 ||| nI (2 ^ g) else M 18 3) → R M') : wp_Walk_goAlone (nI g) M R := by
  have eb : (1 : Int32) <<< (nI g &&& (31 : Int32)) = nI (2 ^ g) := bit_pow g (by omega)
  have hp : 2 ^ g < 32 := Nat.pow_lt_pow_right (n := 5) (a := 2) (by omega) hg
  have hin : vp_in (nI g) 5 := vp_in_nI hg (by omega)
  have hc : (nI g).toNatClampNeg = g := nI_clamp (by omega)
  unfold wp_Walk_goAlone
  rw [eb, hc]
  refine C_send hp hn hm e5 e6 ?_
  generalize wk (dC M) (grD (dC M) (2 ^ g) m) n 0 (M 19) = w at k ⊢
  refine ⟨hin, ?_⟩
  intro M4 e4
  have f20 : M4 20 = upd (M 20) g w.1 := by rw [e4, ms_s, mr_n (by decide)]
  have f19 : M4 19 = w.2 := by rw [e4, ms_n (by decide), mr_s]
  have f18 : M4 18 = M 18 := by rw [e4, ms_n (by decide), mr_n (by decide)]
  have fr : CF M M4 := fun q h1 h2 h3 => by rw [e4, ms_n h3, mr_n h2]
  refine ⟨hin, fun c => ?_, fun c => ?_⟩
  · rw [f20, up_s] at c
    refine k M4 fr (fun j _ => by rw [f18]) f19 f20 ?_
    rw [if_neg c, f18]
  · rw [f20, up_s] at c
    intro M7 e7
    refine k M7 (fun q h1 h2 h3 => by rw [e7, ms_n h1]; exact fr q h1 h2 h3) (fun j hj => by rw [e7, ms_s, up_n hj, f18]) (by rw [e7, ms_n (by decide)]; exact f19) (by rw [e7, ms_n (by decide)]; exact f20) ?_
    rw [if_pos c, e7, ms_s, up_s, f18]
theorem C_begin {M : Mem} {R : Mem → Prop} (k : ∀ M', CF M M' → (∀ h, h < 6 → M' 19 h = 0) → (∀ g, g < 5 → M' 20 g = -9) → M' 18 3 = 0 → M' 18 4 = 0 → M' 18 5 = -9 → R M') : wp_Walk_begin M R := by
  unfold wp_Walk_begin wp_Arr_fill
  intro M3 e3 M4 e4 M5 e5
  subst e3; subst e4; subst e5
  refine k _ ?_ ?_ ?_ ?_ ?_ ?_
  · intro q h1 h2 h3
    rw [ms_n h1, ms_n h1, ms_n h1, mr_n h3, mr_n h2]
  · intro h hh
    rw [ms_n (by decide), ms_n (by decide), ms_n (by decide), mr_n (by decide), mr_s, if_pos hh]
  · intro g hg
    rw [ms_n (by decide), ms_n (by decide), ms_n (by decide), mr_s, if_pos hg]
  · rw [ms_s, up_n (by decide), ms_s, up_n (by decide), ms_s, up_s]
  · rw [ms_s, up_n (by decide), ms_s, up_s]
  · rw [ms_s, up_s]
