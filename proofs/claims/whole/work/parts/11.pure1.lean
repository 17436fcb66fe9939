/-! PURE 1: numbers, checks, leaves -/
def bi (b : Bool) : Int32 := if b then 1 else 0
def inr (lo hi : Int) (x : Int32) : Bool := decide (lo ≤ x.toInt ∧ x.toInt ≤ hi)
theorem ai_ok {α : Type} {i : Int32} {n : Nat} {x : Option α} (h : vp_in i n) : ai i n x = x := if_neg h
theorem ai_n {α : Type} {j n : Nat} {x : Option α} (h : j < n) (hn : n < 2 ^ 31) : ai (nI j) n x = x := ai_ok (vp_in_nI h hn)
theorem zb_0 {α : Type} {x : Option α} : zb 0 x = x := if_pos (Or.inl rfl)
theorem zb_1 {α : Type} {x : Option α} : zb 1 x = x := if_pos (Or.inr rfl)
theorem zb_b {α : Type} {b : Bool} {x : Option α} : zb (bi b) x = x := by cases b <;> first | exact zb_0 | exact zb_1
theorem bi_0 (b : Bool) : bi b = 0 ↔ b = false := by cases b <;> decide
theorem bi_n0 (b : Bool) : ¬ bi b = 0 ↔ b = true := by cases b <;> decide
theorem if_bi {α : Type} (b : Bool) (x y : α) : (if bi b = 0 then x else y) = if b then y else x := by cases b <;> rfl
theorem bi_t : bi true = 1 := rfl
theorem bi_f : bi false = 0 := rfl
theorem cmp_lt (x y : Int64) : lg_cmp x y < 0 ↔ x < y := by
  unfold lg_cmp
  by_cases h1 : y < x
  · rw [if_pos h1]
    constructor
    · intro h; exact absurd h (by decide)
    · intro h; rw [Int64.lt_iff_toInt_lt] at h h1; omega
  · rw [if_neg h1]
    by_cases h2 : x = y
    · rw [if_pos h2]
      constructor
      · intro h; exact absurd h (by decide)
      · intro h; subst h2; rw [Int64.lt_iff_toInt_lt] at h; omega
    · rw [if_neg h2]
      constructor
      · intro _
        rw [Int64.lt_iff_toInt_lt] at h1 ⊢
        have h3 : x.toInt ≠ y.toInt := fun h => h2 (Int64.toInt_inj.mp h)
        omega
      · intro _; decide
theorem cmp_gt (x y : Int64) : 0 < lg_cmp x y ↔ y < x := by
  unfold lg_cmp
  by_cases h1 : y < x
  · rw [if_pos h1]
    exact ⟨fun _ => h1, fun _ => by decide⟩
  · rw [if_neg h1]
    by_cases h2 : x = y
    · rw [if_pos h2]
      exact ⟨fun h => absurd h (by decide), fun h => absurd h h1⟩
    · rw [if_neg h2]
      exact ⟨fun h => absurd h (by decide), fun h => absurd h h1⟩
theorem in_eq (x lo hi : Int64) : X6_in x lo hi = some (bi (decide (lo.toInt ≤ x.toInt ∧ x.toInt ≤ hi.toInt))) := by
  unfold X6_in
  by_cases h1 : x.toInt < lo.toInt
  · rw [if_pos ((cmp_lt x lo).mpr (Int64.lt_iff_toInt_lt.mpr h1))]
    have : decide (lo.toInt ≤ x.toInt ∧ x.toInt ≤ hi.toInt) = false := decide_eq_false (by omega)
    rw [this]; rfl
  · rw [if_neg (fun h => h1 (Int64.lt_iff_toInt_lt.mp ((cmp_lt x lo).mp h)))]
    by_cases h2 : hi.toInt < x.toInt
    · rw [if_pos ((cmp_gt x hi).mpr (Int64.lt_iff_toInt_lt.mpr h2))]
      have : decide (lo.toInt ≤ x.toInt ∧ x.toInt ≤ hi.toInt) = false := decide_eq_false (by omega)
      rw [this]; rfl
    · rw [if_neg (fun h => h2 (Int64.lt_iff_toInt_lt.mp ((cmp_gt x hi).mp h)))]
      have : decide (lo.toInt ≤ x.toInt ∧ x.toInt ≤ hi.toInt) = true := decide_eq_true (by omega)
      rw [this]; rfl
theorem in32 (x : Int32) (lo hi : Int64) : X6_in x.toInt64 lo hi = some (bi (inr lo.toInt hi.toInt x)) := by
  rw [in_eq, Int32.toInt_toInt64]; rfl
theorem out_eq (x lo hi : Int32) : X5_isOutside x lo hi = some (bi (!inr lo.toInt hi.toInt x)) := by
  unfold X5_isOutside inr
  by_cases h1 : x.toInt < lo.toInt
  · rw [if_pos (Int32.lt_iff_toInt_lt.mpr h1)]
    rw [decide_eq_false (p := lo.toInt ≤ x.toInt ∧ x.toInt ≤ hi.toInt) (by omega)]; rfl
  · rw [if_neg (fun h => h1 (Int32.lt_iff_toInt_lt.mp h))]
    by_cases h2 : hi.toInt < x.toInt
    · rw [if_neg (fun h => by have := Int32.le_iff_toInt_le.mp h; omega)]
      rw [decide_eq_false (p := lo.toInt ≤ x.toInt ∧ x.toInt ≤ hi.toInt) (by omega)]; rfl
    · rw [if_pos (Int32.le_iff_toInt_le.mpr (by omega))]
      rw [decide_eq_true (p := lo.toInt ≤ x.toInt ∧ x.toInt ≤ hi.toInt) (by omega)]; rfl
theorem inr_nat {n : Nat} {x : Int32} (hn : n < 2 ^ 31) (h : inr 0 ((n : Int) - 1) x = true) : ∃ j : Nat, j < n ∧ x = nI j := by
  have h := of_decide_eq_true h
  refine ⟨x.toInt.toNat, by omega, ?_⟩
  apply Int32.toInt_inj.mp
  rw [nI_toInt (by omega)]
  omega
theorem inr_nI {n j : Nat} (hj : j < 2 ^ 31) : inr 0 ((n : Int) - 1) (nI j) = decide (j < n) := by
  unfold inr
  rw [nI_toInt hj]
  by_cases h : j < n
  · rw [decide_eq_true h]; exact decide_eq_true (by omega)
  · rw [decide_eq_false h]; exact decide_eq_false (by omega)
