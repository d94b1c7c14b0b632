theorem fa_and (a b : Nat) : nI a &&& nI b = nI (a &&& b) := by
  apply Int32.toBitVec_inj.1
  show BitVec.ofNat 32 a &&& BitVec.ofNat 32 b = BitVec.ofNat 32 (a &&& b)
  apply BitVec.eq_of_getLsbD_eq
  intro i hi
  simp [hi]
theorem fa_or (a b : Nat) : nI a ||| nI b = nI (a ||| b) := by
  apply Int32.toBitVec_inj.1
  show BitVec.ofNat 32 a ||| BitVec.ofNat 32 b = BitVec.ofNat 32 (a ||| b)
  apply BitVec.eq_of_getLsbD_eq
  intro i hi
  simp [hi]
theorem nI_any (y : Int32) : ∃ b : Nat, y = nI b := by
  refine ⟨y.toBitVec.toNat, ?_⟩
  apply Int32.toBitVec_inj.1
  show y.toBitVec = BitVec.ofNat 32 y.toBitVec.toNat
  simp
theorem and_lt {a N : Nat} (ha : a < N) (y : Int32) : ∃ u, u < N ∧ nI a &&& y = nI u := by
  obtain ⟨b, rfl⟩ := nI_any y
  exact ⟨a &&& b, Nat.lt_of_le_of_lt Nat.and_le_left ha, fa_and a b⟩
def bit (a : Int32) : Int32 := (1 : Int32) <<< (a &&& (31 : Int32))
def xF (set kn br ba : Int32) : Int32 := ((set &&& (kn ^^^ (-1 : Int32))) &&& (bit br ^^^ (-1 : Int32))) &&& (bit ba ^^^ (-1 : Int32))
def usF (kd x f s : Int32) : Int32 := if kd = 1 then (if x &&& (f ||| s) = f ||| s then f ||| s else -9) else if x &&& f = 0 then (if x &&& s = 0 then -9 else s) else f
def umF (kd x f s : Int32) : Int32 := if kd = 1 then (if x &&& f = 0 then -9 else if x &&& s = 0 then -9 else (x &&& f) ||| (x &&& s)) else if x &&& f = 0 then (if x &&& s = 0 then -9 else x &&& s) else x &&& f
/-- the way's numbers: 0 kind, 1 and 2 what helps, 3 what is barred, 4 gear, 5 what all bar -/
def dC (M : Mem) : Mem := fun i => match i with
  | 0 => M 13 | 1 => M 14 | 2 => M 15 | 3 => M 16 | 4 => M 17 | _ => fun _ => M 12 7
def dM (M : Mem) : Mem := fun i => match i with
  | 0 => M 33 | 1 => M 34 | 2 => M 35 | 3 => M 36 | 4 => M 37 | _ => fun _ => M 29 12
def usD (D : Mem) (h : Nat) (set kn : Int32) : Int32 := usF (D 0 h) (xF set kn (D 3 h) (D 5 0)) (bit (D 1 h)) (bit (D 2 h))
theorem dM_eq {n m : Nat} {M : Mem} (h : IvW n m M) : dM M = dC M := by
  obtain ⟨h1, h2, h3, h4, h5, h6, h7, h8, h9, h10, h11, h12, h13, h14, h15, h16⟩ := h
  funext i
  match i with
  | 0 => exact h10
  | 1 => exact h11
  | 2 => exact h12
  | 3 => exact h13
  | 4 => exact h14
  | _ + 5 => show (fun _ => M 29 12) = fun _ => M 12 7; rw [h8, h9]
set_option maxRecDepth 20000 in
theorem us_um : ∀ u, u < 64 → ∀ p, p < 6 → ∀ q, q < 6 → ((if nI u &&& bit (nI p) = 0 then (-9 : Int32) else if nI u &&& bit (nI q) = 0 then -9 else (nI u &&& bit (nI p)) ||| (nI u &&& bit (nI q))) = (if nI u &&& (bit (nI p) ||| bit (nI q)) = bit (nI p) ||| bit (nI q) then bit (nI p) ||| bit (nI q) else -9)) ∧ ((if nI u &&& bit (nI p) = 0 then (if nI u &&& bit (nI q) = 0 then -9 else nI u &&& bit (nI q)) else nI u &&& bit (nI p)) = (if nI u &&& bit (nI p) = 0 then (if nI u &&& bit (nI q) = 0 then -9 else bit (nI q)) else bit (nI p))) := by
  decide +kernel
theorem um_us {u p q : Nat} (hu : u < 64) (hp : p < 6) (hq : q < 6) (kd : Int32) : umF kd (nI u) (bit (nI p)) (bit (nI q)) = usF kd (nI u) (bit (nI p)) (bit (nI q)) := by
  obtain ⟨h1, h2⟩ := us_um u hu p hp q hq
  unfold umF usF
  by_cases c : kd = 1
  · rw [if_pos c, if_pos c, h1]
  · rw [if_neg c, if_neg c, h2]
theorem xF_lt {a : Nat} (ha : a < 64) (kn br ba : Int32) : ∃ u, u < 64 ∧ xF (nI a) kn br ba = nI u := by
  unfold xF
  obtain ⟨u1, h1, e1⟩ := and_lt ha (kn ^^^ (-1 : Int32))
  rw [e1]
  obtain ⟨u2, h2, e2⟩ := and_lt h1 (bit br ^^^ (-1 : Int32))
  rw [e2]
  exact and_lt h2 (bit ba ^^^ (-1 : Int32))
theorem C_used {h : Nat} (hh : h < 6) {set kn : Int32} {M : Mem} {R : Int32 → Mem → Prop} (k : R (usD (dC M) h set kn) M) : wp_Way_usedIn (nI h) set kn M R := by
  have hin : vp_in (nI h) 6 := vp_in_nI hh (by omega)
  have hc : (nI h).toNatClampNeg = h := nI_clamp (by omega)
  unfold wp_Way_usedIn
  rw [hc]
  unfold usD usF at k
  refine ⟨hin, fun x e1 => ⟨hin, fun f e2 => ⟨hin, fun s e3 => ⟨hin, fun c1 => ?_, fun c1 => ?_⟩⟩⟩⟩
  · have c1' : ¬ dC M 0 h = 1 := c1
    rw [if_neg c1'] at k
    have ex : xF set kn (dC M 3 h) (dC M 5 0) = x := e1.symm
    have ef : bit (dC M 1 h) = f := e2.symm
    have es : bit (dC M 2 h) = s := e3.symm
    rw [ex, ef, es] at k
    refine ⟨fun c2 => ⟨fun c3 => ?_, fun c3 => ?_⟩, fun c2 => ?_⟩
    · rw [if_pos c2, if_pos c3] at k; exact k
    · rw [if_pos c2, if_neg c3] at k; exact k
    · rw [if_neg c2] at k; exact k
  · have c1' : dC M 0 h = 1 := c1
    rw [if_pos c1'] at k
    have ex : xF set kn (dC M 3 h) (dC M 5 0) = x := e1.symm
    have ef : bit (dC M 1 h) = f := e2.symm
    have es : bit (dC M 2 h) = s := e3.symm
    rw [ex, ef, es] at k
    intro y ey
    rw [← ey] at k
    refine ⟨fun c2 => ?_, fun c2 => ?_⟩
    · rw [if_neg c2] at k; exact k
    · rw [if_pos c2] at k; exact k
theorem D_usedm {h : Nat} (hh : h < 6) {set kn : Int32} {M : Mem} {R : Int32 → Mem → Prop} (k : R (umF (dM M 0 h) (xF set kn (dM M 3 h) (dM M 5 0)) (bit (dM M 1 h)) (bit (dM M 2 h))) M) : wp_Model_used (nI h) set kn M R := by
  have hin : vp_in (nI h) 6 := vp_in_nI hh (by omega)
  have hc : (nI h).toNatClampNeg = h := nI_clamp (by omega)
  unfold wp_Model_used
  rw [hc]
  unfold umF at k
  refine ⟨hin, fun x e1 => ⟨hin, fun f e2 => ⟨hin, fun s e3 => ⟨hin, fun c1 => ?_, fun c1 => ?_⟩⟩⟩⟩
  · have c1' : ¬ dM M 0 h = 1 := c1
    rw [if_neg c1'] at k
    have ex : xF set kn (dM M 3 h) (dM M 5 0) = x := e1.symm
    have ef : x &&& bit (dM M 1 h) = f := e2.symm
    have es : x &&& bit (dM M 2 h) = s := e3.symm
    rw [ex, ef, es] at k
    refine ⟨fun c2 => ⟨fun c3 => ?_, fun c3 => ?_⟩, fun c2 => ?_⟩
    · rw [if_pos c2, if_pos c3] at k; exact k
    · rw [if_pos c2, if_neg c3] at k; exact k
    · rw [if_neg c2] at k; exact k
  · have c1' : dM M 0 h = 1 := c1
    rw [if_pos c1'] at k
    have ex : xF set kn (dM M 3 h) (dM M 5 0) = x := e1.symm
    have ef : x &&& bit (dM M 1 h) = f := e2.symm
    have es : x &&& bit (dM M 2 h) = s := e3.symm
    rw [ex, ef, es] at k
    refine ⟨fun c2 => ?_, fun c2 => ⟨fun c3 => ?_, fun c3 => ?_⟩⟩
    · rw [if_pos c2] at k; exact k
    · rw [if_neg c2, if_pos c3] at k; exact k
    · rw [if_neg c2, if_neg c3] at k; exact k
/-- numbers of the way as they may be -/
def okD (D : Mem) (n m : Nat) : Prop := (∀ h, h < n → (∃ a, a < 6 ∧ D 1 h = nI a) ∧ ∃ a, a < 6 ∧ D 2 h = nI a) ∧ ∀ g, g < m → ∃ a, a < 64 ∧ D 4 g = nI a
theorem okD_of {n m : Nat} {M : Mem} (h : IvW n m M) : okD (dC M) n m := by
  obtain ⟨h1, h2, h3, h4, h5, h6, h7, h8, h9, h10, h11, h12, h13, h14, h15, h16⟩ := h
  exact ⟨fun h hh => ⟨(h15 h hh).2.1, (h15 h hh).2.2.1⟩, h16⟩
theorem D_used {n m h a : Nat} (hn : n ≤ 6) (hh : h < n) (ha : a < 64) {kn : Int32} {M : Mem} {R : Int32 → Mem → Prop} (ok : okD (dM M) n m) (k : R (usD (dM M) h (nI a) kn) M) : wp_Model_used (nI h) (nI a) kn M R := by
  refine D_usedm (by omega) ?_
  obtain ⟨⟨p, hp, e1⟩, q, hq, e2⟩ := ok.1 h hh
  obtain ⟨u, hu, e3⟩ := xF_lt ha kn (dM M 3 h) (dM M 5 0)
  unfold usD at k
  rw [e1, e2, e3] at k ⊢
  rw [um_us hu hp hq]
  exact k
theorem st_passes : St_passes Inv := by
  intro a b c M h
  obtain ⟨⟨n, m, cc, hw, hr⟩, hf, hs⟩ := id h
  obtain ⟨h1, h2, h3, h4, h5, h6, h7, h8, h9, h10, h11, h12, h13, h14, h15, h16⟩ := id hw
  unfold wp_Main_passes wp_Way_hasHouse
  rw [h4]
  rcases cl0 (N := nI n) rfl (by omega) a with q | ⟨q, q2⟩ | ⟨k, hk, rfl, q1, q2, q3⟩
  · rw [e_isBelow_n (Or.inl q)]
    simp [wp_Model_passes, wp_Model_isHouse, q, h]
  · rw [e_isBelow_n (Or.inr ⟨q, q2⟩)]
    simp [wp_Model_passes, wp_Model_isHouse, q, q2, h5, h]
  · rw [e_isBelow_y rfl hk (by omega)]
    refine ⟨fun _ => ?_, fun z => absurd z (by decide)⟩
    rcases set_cl b with ⟨g1, g2⟩ | ⟨z, hz, rfl, w1, w2⟩
    · rw [e_isBelow_n g1]
      simp [wp_Model_passes, wp_Model_isHouse, wp_Model_isSet, q1, h5, q2, e_within_n g2, h]
    rw [e_isBelow_y (N := 64) (n := 64) rfl hz (by omega)]
    refine ⟨fun z => absurd z (by decide), fun _ => ?_⟩
    rcases set_cl c with ⟨g1, g2⟩ | ⟨y, hy, rfl, v1, v2⟩
    · rw [e_isBelow_n g1]
      simp [wp_Model_passes, wp_Model_isHouse, wp_Model_isSet, q1, h5, q2, e_within_y w1 w2, e_within_n g2, h]
    rw [e_isBelow_y (N := 64) (n := 64) rfl hy (by omega)]
    refine ⟨fun _ => C_used (by omega) ?_, fun z => absurd z (by decide)⟩
    have key : wp_Model_used (nI k) (nI z) (nI y) M (fun r2 M2 => usD (dC M) k (nI z) (nI y) = r2 ∧ Inv M2) := by
      refine D_used (n := n) (m := m) h1 hk hz ?_ ⟨?_, h⟩
      · rw [dM_eq hw]; exact okD_of hw
      · rw [dM_eq hw]
    simp [wp_Model_passes, wp_Model_isHouse, wp_Model_isSet, q1, h5, q2, e_within_y w1 w2, e_within_y v1 v2, key]
