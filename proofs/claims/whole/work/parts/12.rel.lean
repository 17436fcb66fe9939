/-! PURE 2: the relation between the class's state and the reference's -/
def Sq (τ : MS) (v : Nat → Int32) : Prop := (v 0 = τ 11 5 ∧ v 1 = τ 11 4 ∧ v 2 = τ 11 6 ∧ v 3 = τ 11 7 ∧ v 4 = τ 11 10 ∧ v 5 = τ 11 8 ∧ v 6 = τ 11 9) ∧ (∀ p, p < 8 → v (7 + 8 * p) = τ 0 p ∧ v (8 + 8 * p) = τ 1 p ∧ ∀ j, j < 6 → v (9 + 8 * p + j) = τ 2 (p * 6 + j)) ∧ ∀ k, k < 10 → v (71 + k) = τ 3 k
/-- what always holds of the reference's row of 81: n people, minute mi at most B, water w, subject t -/
def Iv (B n mi w t : Nat) (v : Nat → Int32) : Prop := (n ≤ 8 ∧ mi ≤ B ∧ w ≤ 999999 ∧ t < 6) ∧ (v 1 = nI n ∧ v 0 = nI mi ∧ v 2 = nI w ∧ v 3 = nI t) ∧ ((v 5 = -1 ∧ v 6 = -1) ∨ ∃ a b : Nat, a < n ∧ b < n ∧ a ≠ b ∧ v 5 = nI a ∧ v 6 = nI b) ∧ (∀ p, p < 8 → (∃ kd : Nat, kd < 7 ∧ v (7 + 8 * p) = nI kd) ∧ (∃ vo : Nat, vo ≤ 9 ∧ v (8 + 8 * p) = nI vo) ∧ ∀ j, j < 6 → inr (-9) 9 (v (9 + 8 * p + j)) = true) ∧ ∀ k, k < 10 → v (71 + k) = -1 ∨ ∃ p : Nat, p < n ∧ v (71 + k) = nI p
def R_sq (B : Nat) (τ : MS) (v : Nat → Int32) : Prop := Sq τ v ∧ ∃ n mi w t, Iv B n mi w t v
def R_kept (B : Nat) (f : Int32) (τ : MS) (v : Nat → Int32) (g : Int32) : Prop := f = g ∧ (g = 0 ∨ (g = 1 ∧ R_sq B τ v))
def R_tal (r q : Nat → Int32) : Prop := ∀ j, j < 7 → r j = q j
def R_tape (ρ : MS) (tp : Nat → Int32) (td : Int32) : Prop := ∃ tl : Nat, tl ≤ 120 ∧ ρ 6 1 = nI tl ∧ td = nI tl ∧ ∀ j, j < tl → ρ 0 j = tp j ∧ ∃ b : Nat, b < 256 ∧ tp j = nI b
def R_s1 (η : MS) (bits size : Int32) (f : Nat → Int32) : Prop := η 3 1 = bits ∧ (bits = 0 ∨ bits = 8 ∨ bits = 16 ∨ bits = 32) ∧ ∃ sz : Nat, sz ≤ 40 ∧ η 3 2 = nI sz ∧ size = nI sz ∧ ∀ j, j < sz → η 0 j = f j
def R_shs (X : XS) (bs ss ns : Nat → Int32) : Prop := ∀ s, s < 4 → R_s1 (X (5 + s)) (bs s) (ss s) (fun j => ns (40 * s + j))
def Rel (k : Nat) (X : XS) (σ : MS) : Prop := R_sq (100 * k) (X 0) (σ 0) ∧ R_kept (100 * k) (X 9 8 3) (X 2) (σ 1) (σ 22 5) ∧ R_tal (X 9 7) (σ 4) ∧ R_tape (X 3) (σ 12) (σ 22 13) ∧ R_shs X (σ 18) (σ 19) (σ 20)
theorem Iv.up {B B' n mi w t : Nat} {v : Nat → Int32} (h : Iv B n mi w t v) (hB : B ≤ B') : Iv B' n mi w t v := ⟨⟨h.1.1, Nat.le_trans h.1.2.1 hB, h.1.2.2⟩, h.2⟩
theorem R_sq.up {B B' : Nat} {τ : MS} {v : Nat → Int32} (h : R_sq B τ v) (hB : B ≤ B') : R_sq B' τ v := by
  obtain ⟨h1, n, mi, w, t, h2⟩ := h
  exact ⟨h1, n, mi, w, t, h2.up hB⟩
theorem R_kept.up {B B' : Nat} {f g : Int32} {τ : MS} {v : Nat → Int32} (h : R_kept B f τ v g) (hB : B ≤ B') : R_kept B' f τ v g := ⟨h.1, h.2.imp id (fun q => ⟨q.1, q.2.up hB⟩)⟩
theorem Rel.up {k : Nat} {X : XS} {σ : MS} (h : Rel k X σ) : Rel (k + 1) X σ := ⟨h.1.up (by omega), h.2.1.up (by omega), h.2.2⟩
/-- what a call that only asks may change -/
def FX (X X' : XS) : Prop := ∀ c, c ≠ 1 → c ≠ 4 → X' c = X c
def FM (σ σ' : MS) : Prop := σ' 0 = σ 0 ∧ σ' 1 = σ 1 ∧ σ' 4 = σ 4 ∧ σ' 12 = σ 12 ∧ σ' 18 = σ 18 ∧ σ' 19 = σ 19 ∧ σ' 20 = σ 20 ∧ σ' 22 5 = σ 22 5 ∧ σ' 22 13 = σ 22 13
theorem FX.rf (X : XS) : FX X X := fun _ _ _ => rfl
theorem FX.tr {X Y Z : XS} (h : FX X Y) (h2 : FX Y Z) : FX X Z := fun c h1 h4 => (h2 c h1 h4).trans (h c h1 h4)
theorem FX.u1 (X : XS) (τ : MS) : FX X (va_up X 1 τ) := fun c h1 _ => va_up_ne _ _ h1
theorem FX.u4 (X : XS) (τ : MS) : FX X (va_up X 4 τ) := fun c _ h4 => va_up_ne _ _ h4
theorem FM.rf (σ : MS) : FM σ σ := ⟨rfl, rfl, rfl, rfl, rfl, rfl, rfl, rfl, rfl⟩
theorem FM.tr {σ σ1 σ2 : MS} (h : FM σ σ1) (h2 : FM σ1 σ2) : FM σ σ2 := ⟨h2.1.trans h.1, h2.2.1.trans h.2.1, h2.2.2.1.trans h.2.2.1, h2.2.2.2.1.trans h.2.2.2.1, h2.2.2.2.2.1.trans h.2.2.2.2.1, h2.2.2.2.2.2.1.trans h.2.2.2.2.2.1, h2.2.2.2.2.2.2.1.trans h.2.2.2.2.2.2.1, h2.2.2.2.2.2.2.2.1.trans h.2.2.2.2.2.2.2.1, h2.2.2.2.2.2.2.2.2.trans h.2.2.2.2.2.2.2.2⟩
theorem Rel.fr {k : Nat} {X X' : XS} {σ σ' : MS} (h : Rel k X σ) (hX : FX X X') (hM : FM σ σ') : Rel k X' σ' := by
  obtain ⟨m0, m1, m4, m12, m18, m19, m20, m5, m13⟩ := hM
  obtain ⟨h1, h2, h3, h4, h5⟩ := h
  unfold Rel
  rw [m0, m1, m4, m12, m18, m19, m20, m5, m13, hX 0 (by decide) (by decide), hX 2 (by decide) (by decide), hX 9 (by decide) (by decide), hX 3 (by decide) (by decide)]
  refine ⟨h1, h2, h3, h4, fun s hs => ?_⟩
  rw [hX (5 + s) (by omega) (by omega)]
  exact h5 s hs
theorem found_0 (X : XS) : X5_found X (-1000001) = some (-1000001, va_up X 9 (su (X 9) 7 0 (X 9 7 0 + 1))) := rfl
theorem finds_0 (σ : MS) : X6_finds σ (-1000001) = some (-1000001, su σ 4 0 (σ 4 0 + 1)) := rfl
theorem found_1 (X : XS) : X5_found X (-1000002) = some (-1000002, va_up X 9 (su (X 9) 7 1 (X 9 7 1 + 1))) := rfl
theorem finds_1 (σ : MS) : X6_finds σ (-1000002) = some (-1000002, su σ 4 1 (σ 4 1 + 1)) := rfl
theorem found_2 (X : XS) : X5_found X (-1000003) = some (-1000003, va_up X 9 (su (X 9) 7 2 (X 9 7 2 + 1))) := rfl
theorem finds_2 (σ : MS) : X6_finds σ (-1000003) = some (-1000003, su σ 4 2 (σ 4 2 + 1)) := rfl
theorem found_3 (X : XS) : X5_found X (-1000004) = some (-1000004, va_up X 9 (su (X 9) 7 3 (X 9 7 3 + 1))) := rfl
theorem finds_3 (σ : MS) : X6_finds σ (-1000004) = some (-1000004, su σ 4 3 (σ 4 3 + 1)) := rfl
theorem found_4 (X : XS) : X5_found X (-1000005) = some (-1000005, va_up X 9 (su (X 9) 7 4 (X 9 7 4 + 1))) := rfl
theorem finds_4 (σ : MS) : X6_finds σ (-1000005) = some (-1000005, su σ 4 4 (σ 4 4 + 1)) := rfl
theorem found_5 (X : XS) : X5_found X (-1000006) = some (-1000006, va_up X 9 (su (X 9) 7 5 (X 9 7 5 + 1))) := rfl
theorem finds_5 (σ : MS) : X6_finds σ (-1000006) = some (-1000006, su σ 4 5 (σ 4 5 + 1)) := rfl
theorem found_6 (X : XS) : X5_found X (-1000007) = some (-1000007, va_up X 9 (su (X 9) 7 6 (X 9 7 6 + 1))) := rfl
theorem finds_6 (σ : MS) : X6_finds σ (-1000007) = some (-1000007, su σ 4 6 (σ 4 6 + 1)) := rfl
theorem upd_s {f : Nat → Int32} {k : Nat} {x : Int32} : upd f k x k = x := if_pos rfl
theorem upd_n {f : Nat → Int32} {k j : Nat} {x : Int32} (h : j ≠ k) : upd f k x j = f j := if_neg h
theorem su_s {σ : MS} {k j : Nat} {x : Int32} : su σ k j x k = upd (σ k) j x := va_up_self _ _ _
theorem su_n {σ : MS} {k i j : Nat} {x : Int32} (h : i ≠ k) : su σ k j x i = σ i := va_up_ne _ _ h
theorem R_tal.upd {r q : Nat → Int32} (h : R_tal r q) (j : Nat) (hj : j < 7) : R_tal (upd r j (r j + 1)) (upd q j (q j + 1)) := by
  intro i hi
  by_cases e : i = j
  · subst e; rw [upd_s, upd_s, h i hi]
  · rw [upd_n e, upd_n e, h i hi]
theorem Rel.find {k : Nat} {X : XS} {σ : MS} (h : Rel k X σ) (j : Nat) (hj : j < 7) : Rel (k + 1) (va_up X 9 (su (X 9) 7 j (X 9 7 j + 1))) (su σ 4 j (σ 4 j + 1)) := by
  have h' := h.up
  obtain ⟨h1, h2, h3, h4, h5⟩ := h'
  have e9 : (va_up X 9 (su (X 9) 7 j (X 9 7 j + 1))) 9 = su (X 9) 7 j (X 9 7 j + 1) := va_up_self _ _ _
  unfold Rel
  rw [e9, va_up_ne (k := 9) _ _ (show (0 : Nat) ≠ 9 by decide), va_up_ne (k := 9) _ _ (show (2 : Nat) ≠ 9 by decide), va_up_ne (k := 9) _ _ (show (3 : Nat) ≠ 9 by decide)]
  rw [su_n (k := 7) (show (8 : Nat) ≠ 7 by decide), su_s, su_s]
  rw [su_n (k := 4) (show (0 : Nat) ≠ 4 by decide), su_n (k := 4) (show (1 : Nat) ≠ 4 by decide), su_n (k := 4) (show (22 : Nat) ≠ 4 by decide), su_n (k := 4) (show (12 : Nat) ≠ 4 by decide), su_n (k := 4) (show (18 : Nat) ≠ 4 by decide), su_n (k := 4) (show (19 : Nat) ≠ 4 by decide), su_n (k := 4) (show (20 : Nat) ≠ 4 by decide)]
  refine ⟨h1, h2, h3.upd j hj, h4, fun s hs => ?_⟩
  rw [va_up_ne (k := 9) _ _ (show 5 + s ≠ 9 by omega)]
  exact h5 s hs
/-- both answer a finding -/
def Both (k : Nat) (X : XS) (σ : MS) (a : Option (Int32 × XS)) (b : Option (Int32 × MS)) : Prop := ∃ (r : Int32) (X' : XS) (σ' : MS), a = some (r, X') ∧ b = some (r, σ') ∧ Rel (k + 1) X' σ'
theorem bf_0 {k : Nat} {X : XS} {σ : MS} (h : Rel k X σ) : ∃ (r : Int32) (X' : XS) (σ' : MS), X5_found X (-1000001) = some (r, X') ∧ X6_finds σ (-1000001) = some (r, σ') ∧ Rel (k + 1) X' σ' := ⟨_, _, _, found_0 X, finds_0 σ, h.find 0 (by decide)⟩
theorem bf_1 {k : Nat} {X : XS} {σ : MS} (h : Rel k X σ) : ∃ (r : Int32) (X' : XS) (σ' : MS), X5_found X (-1000002) = some (r, X') ∧ X6_finds σ (-1000002) = some (r, σ') ∧ Rel (k + 1) X' σ' := ⟨_, _, _, found_1 X, finds_1 σ, h.find 1 (by decide)⟩
theorem bf_2 {k : Nat} {X : XS} {σ : MS} (h : Rel k X σ) : ∃ (r : Int32) (X' : XS) (σ' : MS), X5_found X (-1000003) = some (r, X') ∧ X6_finds σ (-1000003) = some (r, σ') ∧ Rel (k + 1) X' σ' := ⟨_, _, _, found_2 X, finds_2 σ, h.find 2 (by decide)⟩
theorem bf_3 {k : Nat} {X : XS} {σ : MS} (h : Rel k X σ) : ∃ (r : Int32) (X' : XS) (σ' : MS), X5_found X (-1000004) = some (r, X') ∧ X6_finds σ (-1000004) = some (r, σ') ∧ Rel (k + 1) X' σ' := ⟨_, _, _, found_3 X, finds_3 σ, h.find 3 (by decide)⟩
theorem bf_4 {k : Nat} {X : XS} {σ : MS} (h : Rel k X σ) : ∃ (r : Int32) (X' : XS) (σ' : MS), X5_found X (-1000005) = some (r, X') ∧ X6_finds σ (-1000005) = some (r, σ') ∧ Rel (k + 1) X' σ' := ⟨_, _, _, found_4 X, finds_4 σ, h.find 4 (by decide)⟩
theorem bf_5 {k : Nat} {X : XS} {σ : MS} (h : Rel k X σ) : ∃ (r : Int32) (X' : XS) (σ' : MS), X5_found X (-1000006) = some (r, X') ∧ X6_finds σ (-1000006) = some (r, σ') ∧ Rel (k + 1) X' σ' := ⟨_, _, _, found_5 X, finds_5 σ, h.find 5 (by decide)⟩
theorem bf_6 {k : Nat} {X : XS} {σ : MS} (h : Rel k X σ) : ∃ (r : Int32) (X' : XS) (σ' : MS), X5_found X (-1000007) = some (r, X') ∧ X6_finds σ (-1000007) = some (r, σ') ∧ Rel (k + 1) X' σ' := ⟨_, _, _, found_6 X, finds_6 σ, h.find 6 (by decide)⟩
