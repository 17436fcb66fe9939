/-! PURE 6: the handle, disputed subjects, sums; rest, now, count, status, pair, change -/
theorem FU_lt {d : Nat} (h : d < 2000) : d < FU := h
theorem le_nI {a b : Nat} (ha : a < 2 ^ 31) (hb : b < 2 ^ 31) {α : Type} (x y : α) : (if nI a ≤ nI b then x else y) = if a ≤ b then x else y := by
  by_cases h : a ≤ b
  · rw [if_pos h, if_pos ((nI_leI ha hb).mpr h)]
  · rw [if_neg h, if_neg (fun e => h ((nI_leI ha hb).mp e))]
def hd (v : Nat → Int32) : Bool := decide (0 ≤ (v 5).toInt)
theorem somebody6 (σ : MS) : X6_isSomebody σ = some (bi (hd (σ 0))) := by
  unfold X6_isSomebody hd
  have i0 : (0 : Int32).toInt = 0 := by decide
  by_cases h : σ 0 5 < 0
  · have g := Int32.lt_iff_toInt_lt.mp h
    rw [if_pos h, decide_eq_false (by omega)]; rfl
  · have g : ¬ (σ 0 5).toInt < 0 := fun e => h (Int32.lt_iff_toInt_lt.mpr (by omega))
    rw [if_neg h, decide_eq_true (by omega)]; rfl
theorem hd_cases {B n mi w t : Nat} {v : Nat → Int32} (h : Iv B n mi w t v) : (hd v = false ∧ v 5 = -1 ∧ v 6 = -1) ∨ (hd v = true ∧ ∃ a b : Nat, a < n ∧ b < n ∧ a ≠ b ∧ v 5 = nI a ∧ v 6 = nI b) := by
  have hn := h.1.1
  rcases h.2.2.1 with ⟨h5, h6⟩ | ⟨a, b, ha, hb, hab, h5, h6⟩
  · refine Or.inl ⟨?_, h5, h6⟩
    unfold hd; rw [h5]; decide
  · refine Or.inr ⟨?_, a, b, ha, hb, hab, h5, h6⟩
    unfold hd; rw [h5, nI_toInt (by omega)]; exact decide_eq_true (by omega)
theorem manned4 {τ : MS} {v : Nat → Int32} {B n mi w t : Nat} (hs : Sq τ v) (h : Iv B n mi w t v) : X4_isManned τ = some (bi (hd v)) := by
  have hn := h.1.1
  have h2 : τ 11 4 = nI n := by rw [← hs.1.2.1]; exact h.2.1.1
  unfold X4_isManned
  rw [← hs.1.2.2.2.2.2.1, ← hs.1.2.2.2.2.2.2]
  simp only [isThere4 h2 hn, Option.bind_some, if_bi]
  rcases hd_cases h with ⟨e, h5, h6⟩ | ⟨e, a, b, ha, hb, hab, h5, h6⟩
  · rw [e, h5, isP_m1]; rfl
  · rw [e, h5, h6, isP_n (by omega), isP_n (by omega), decide_eq_true ha, decide_eq_true hb]; rfl
/-- views are within -9 to 9: what their difference tells -/
theorem ab_toInt {x y : Int32} (hx : inr (-9) 9 x = true) (hy : inr (-9) 9 y = true) : (ab x y).toInt = if 0 ≤ x.toInt - y.toInt then x.toInt - y.toInt else y.toInt - x.toInt := by
  have h1 := of_decide_eq_true hx
  have h2 := of_decide_eq_true hy
  have e : (x - y).toInt = x.toInt - y.toInt := by
    rw [Int32.toInt_sub]
    exact Int.bmod_eq_of_le (by omega) (by omega)
  have i0 : (0 : Int32).toInt = 0 := by decide
  unfold ab
  by_cases h : 0 ≤ x.toInt - y.toInt
  · rw [if_pos h, if_pos (Int32.le_iff_toInt_le.mpr (by omega)), e]
  · rw [if_neg h, if_neg (fun q => by have := Int32.le_iff_toInt_le.mp q; omega), Int32.toInt_sub, e, i0]
    rw [Int.bmod_eq_of_le (by omega) (by omega)]
    omega
theorem ab_0 {x y : Int32} (hx : inr (-9) 9 x = true) (hy : inr (-9) 9 y = true) : ab x y = 0 ↔ x = y := by
  have h := ab_toInt hx hy
  have i0 : (0 : Int32).toInt = 0 := by decide
  constructor
  · intro e
    rw [e, i0] at h
    apply Int32.toInt_inj.mp
    split at h <;> omega
  · intro e
    subst e
    apply Int32.toInt_inj.mp
    rw [h, i0]
    split <;> omega
theorem ab_le {x y : Int32} (hx : inr (-9) 9 x = true) (hy : inr (-9) 9 y = true) : ab x y ≤ 0 ↔ x = y := by
  have h := ab_toInt hx hy
  have i0 : (0 : Int32).toInt = 0 := by decide
  rw [← ab_0 hx hy]
  constructor
  · intro e
    have := Int32.le_iff_toInt_le.mp e
    apply Int32.toInt_inj.mp
    split at h <;> omega
  · intro e; rw [e]; decide
/-- a set out of six answers -/
def qn (f : Nat → Bool) : Nat → Nat
  | 0 => 0
  | j + 1 => qn f j + if f j then 2 ^ j else 0
theorem qn_lt (f : Nat → Bool) : ∀ j, qn f j < 2 ^ j
  | 0 => Nat.one_pos
  | j + 1 => by
    have ih := qn_lt f j
    have e : 2 ^ (j + 1) = 2 ^ j + 2 ^ j := by rw [Nat.pow_succ]; omega
    rw [qn]
    split <;> omega
theorem sh1 : ∀ j, j < 6 → ((1 : Int32) <<< (nI j &&& 31)) = nI (2 ^ j) := by decide +kernel
theorem or_nI (a b : Nat) : nI a ||| nI b = nI (a ||| b) := by
  apply Int32.toBitVec_inj.mp
  show BitVec.ofNat 32 a ||| BitVec.ofNat 32 b = BitVec.ofNat 32 (a ||| b)
  rw [BitVec.ofNat_or]
theorem or_sum (f : Nat → Bool) {j : Nat} (hj : j < 6) : nI (qn f j) ||| ((1 : Int32) <<< (nI j &&& 31)) = nI (qn f j + 2 ^ j) := by
  rw [sh1 j hj, or_nI]
  congr 1
  have h := Nat.two_pow_add_eq_or_of_lt (qn_lt f j) 1
  rw [Nat.mul_one] at h
  rw [Nat.or_comm, ← h, Nat.add_comm]
def qf (v : Nat → Int32) (a b : Nat) : Nat → Bool := fun j => decide (v (9 + 8 * a + j) ≠ v (9 + 8 * b + j))
theorem or_0 (x : Int32) : x ||| 0 = x := by
  apply Int32.toBitVec_inj.mp
  simp
/-- the set of subjects on which they don't agree -/
def qset (v : Nat → Int32) : Nat := if hd v then qn (qf v (v 5).toNatClampNeg (v 6).toNatClampNeg) 6 else 0
theorem qset_lt (v : Nat → Int32) : qset v < 64 := by
  unfold qset
  split
  · exact qn_lt _ 6
  · decide
theorem ivv {B n mi w t : Nat} {v : Nat → Int32} (h : Iv B n mi w t v) {p j : Nat} (hp : p < 8) (hj : j < 6) : inr (-9) 9 (v (9 + 8 * p + j)) = true := (h.2.2.2.1 p hp).2.2 j hj
theorem disp6 {σ : MS} {B n mi w t : Nat} (h : Iv B n mi w t (σ 0)) : X6_disputed σ = some (nI (qset (σ 0))) := by
  have hn := h.1.1
  unfold X6_disputed qset
  rcases hd_cases h with ⟨e, h5, h6⟩ | ⟨e, a, b, ha, hb, hab, h5, h6⟩
  · rw [e]
    show X6_disputed_b4 σ (1999 + 1) 0 0 = _
    rw [X6_disputed_b4, if_neg (by decide), somebody6, e]; rfl
  · rw [e, h5, h6, nI_clamp (by omega), nI_clamp (by omega)]
    have key : ∀ d j fuel : Nat, j + d = 6 → d < fuel → X6_disputed_b4 σ fuel (nI (qn (qf (σ 0) a b) j)) (nI j) = some (nI (qn (qf (σ 0) a b) 6)) := by
      intro d
      induction d with
      | zero =>
        intro j fuel hj hf
        obtain ⟨f, rfl⟩ : ∃ f, fuel = f + 1 := ⟨fuel - 1, by omega⟩
        have : j = 6 := by omega
        subst this
        rw [X6_disputed_b4, if_pos (by decide)]
      | succ d ih =>
        intro j fuel hj hf
        obtain ⟨f, rfl⟩ : ∃ f, fuel = f + 1 := ⟨fuel - 1, by omega⟩
        have i := ih (j + 1) f (by omega) (by omega)
        rw [X6_disputed_b4, show (6 : Int32) = nI 6 from rfl, le_nI (by decide) (by omega), if_neg (by omega), somebody6, e]
        simp only [Option.bind_some, if_bi, if_true]
        rw [h5, h6, apartOn6 (by omega) (by omega) (by omega), Option.bind_some]
        unfold X6_disputed_b46
        have i1 : nI j + 1 = nI (j + 1) := nI_1 j
        by_cases g : σ 0 (9 + 8 * a + j) = σ 0 (9 + 8 * b + j)
        · rw [if_pos ((ab_le (ivv h (by omega) (by omega)) (ivv h (by omega) (by omega))).mpr g), or_0, i1]
          have q : qn (qf (σ 0) a b) (j + 1) = qn (qf (σ 0) a b) j := by
            rw [qn, if_neg (by unfold qf; simp [g])]; rfl
          rw [← q]; exact i
        · rw [if_neg (fun q => g ((ab_le (ivv h (by omega) (by omega)) (ivv h (by omega) (by omega))).mp q)), or_sum _ (by omega), i1]
          have q : qn (qf (σ 0) a b) (j + 1) = qn (qf (σ 0) a b) j + 2 ^ j := by
            rw [qn, if_pos (by unfold qf; simp [g])]
          rw [← q]; exact i
    exact key 6 0 FU rfl (FU_lt (by decide))
theorem quar4 {τ : MS} {v : Nat → Int32} {B n mi w t : Nat} (hs : Sq τ v) (h : Iv B n mi w t v) : X4_quarrelSet τ = some (nI (qset v)) := by
  have hn := h.1.1
  unfold X4_quarrelSet qset
  rcases hd_cases h with ⟨e, h5, h6⟩ | ⟨e, a, b, ha, hb, hab, h5, h6⟩
  · rw [e]
    show X4_quarrelSet_b4 τ (1999 + 1) 0 0 = _
    rw [X4_quarrelSet_b4, if_neg (by decide), manned4 hs h, e]; rfl
  · rw [e, h5, h6, nI_clamp (by omega), nI_clamp (by omega)]
    have t8 : τ 11 8 = nI a := by rw [← hs.1.2.2.2.2.2.1]; exact h5
    have t9 : τ 11 9 = nI b := by rw [← hs.1.2.2.2.2.2.2]; exact h6
    have key : ∀ d j fuel : Nat, j + d = 6 → d < fuel → X4_quarrelSet_b4 τ fuel (nI (qn (qf v a b) j)) (nI j) = some (nI (qn (qf v a b) 6)) := by
      intro d
      induction d with
      | zero =>
        intro j fuel hj hf
        obtain ⟨f, rfl⟩ : ∃ f, fuel = f + 1 := ⟨fuel - 1, by omega⟩
        have : j = 6 := by omega
        subst this
        rw [X4_quarrelSet_b4, if_pos (by decide)]
      | succ d ih =>
        intro j fuel hj hf
        obtain ⟨f, rfl⟩ : ∃ f, fuel = f + 1 := ⟨fuel - 1, by omega⟩
        have i := ih (j + 1) f (by omega) (by omega)
        rw [X4_quarrelSet_b4, show (6 : Int32) = nI 6 from rfl, le_nI (by decide) (by omega), if_neg (by omega), manned4 hs h, e]
        simp only [Option.bind_some, if_bi, if_true]
        rw [t8, t9, dist4 hs (by omega) (by omega) (by omega), Option.bind_some]
        have i1 : nI j + 1 = nI (j + 1) := nI_1 j
        by_cases g : v (9 + 8 * a + j) = v (9 + 8 * b + j)
        · rw [if_pos ((ab_0 (ivv h (by omega) (by omega)) (ivv h (by omega) (by omega))).mpr g), i1]
          have q : qn (qf v a b) (j + 1) = qn (qf v a b) j := by
            rw [qn, if_neg (by unfold qf; simp [g])]; rfl
          rw [← q]; exact i
        · rw [if_neg (fun q => g ((ab_0 (ivv h (by omega) (by omega)) (ivv h (by omega) (by omega))).mp q)), or_sum _ (by omega), i1]
          have q : qn (qf v a b) (j + 1) = qn (qf v a b) j + 2 ^ j := by
            rw [qn, if_pos (by unfold qf; simp [g])]
          rw [← q]; exact i
    exact key 6 0 FU rfl (FU_lt (by decide))
theorem ones_bits : ∀ m, m < 64 → ∃ r, J6_bitCount_0f7a4 (nI m) = some r ∧ X6_ones (nI m) = some r := by
  have h : ∀ m, m < 64 → (J6_bitCount_0f7a4 (nI m)).isSome = true ∧ J6_bitCount_0f7a4 (nI m) = X6_ones (nI m) := by decide +kernel
  intro m hm
  obtain ⟨h1, h2⟩ := h m hm
  cases hx : J6_bitCount_0f7a4 (nI m) with
  | none => rw [hx] at h1; cases h1
  | some r => exact ⟨r, rfl, by rw [← h2, hx]⟩
