/-! PURE 3: single changes of the square and of the reference's row; the first calls -/
theorem su_at (σ : MS) (k j : Nat) (x : Int32) (i l : Nat) : su σ k j x i l = if i = k ∧ l = j then x else σ i l := by
  unfold su va_up upd
  by_cases h1 : i = k
  · subst h1
    by_cases h2 : l = j
    · simp [h2]
    · simp [h2]
  · simp [h1]
theorem upd_at (f : Nat → Int32) (k : Nat) (x : Int32) (j : Nat) : upd f k x j = if j = k then x else f j := rfl
theorem Sq.u0 {τ : MS} {v : Nat → Int32} (h : Sq τ v) (x : Int32) : Sq (su τ 11 5 x) (upd v 0 x) := by
  refine ⟨⟨by rw [su_at, upd_at, if_pos rfl, if_pos ⟨rfl, rfl⟩], by rw [su_at, upd_at, if_neg (by decide), if_neg (by decide)]; exact h.1.2.1, by rw [su_at, upd_at, if_neg (by decide), if_neg (by decide)]; exact h.1.2.2.1, by rw [su_at, upd_at, if_neg (by decide), if_neg (by decide)]; exact h.1.2.2.2.1, by rw [su_at, upd_at, if_neg (by decide), if_neg (by decide)]; exact h.1.2.2.2.2.1, by rw [su_at, upd_at, if_neg (by decide), if_neg (by decide)]; exact h.1.2.2.2.2.2.1, by rw [su_at, upd_at, if_neg (by decide), if_neg (by decide)]; exact h.1.2.2.2.2.2.2⟩, fun p hp => ⟨?_, ?_, fun j hj => ?_⟩, fun k hk => ?_⟩
  · rw [su_at, upd_at, if_neg (by omega), if_neg (by omega)]; exact (h.2.1 p hp).1
  · rw [su_at, upd_at, if_neg (by omega), if_neg (by omega)]; exact (h.2.1 p hp).2.1
  · rw [su_at, upd_at, if_neg (by omega), if_neg (by omega)]; exact (h.2.1 p hp).2.2 j hj
  · rw [su_at, upd_at, if_neg (by omega), if_neg (by omega)]; exact h.2.2 k hk
theorem Sq.u1 {τ : MS} {v : Nat → Int32} (h : Sq τ v) (x : Int32) : Sq (su τ 11 4 x) (upd v 1 x) := by
  refine ⟨⟨by rw [su_at, upd_at, if_neg (by decide), if_neg (by decide)]; exact h.1.1, by rw [su_at, upd_at, if_pos rfl, if_pos ⟨rfl, rfl⟩], by rw [su_at, upd_at, if_neg (by decide), if_neg (by decide)]; exact h.1.2.2.1, by rw [su_at, upd_at, if_neg (by decide), if_neg (by decide)]; exact h.1.2.2.2.1, by rw [su_at, upd_at, if_neg (by decide), if_neg (by decide)]; exact h.1.2.2.2.2.1, by rw [su_at, upd_at, if_neg (by decide), if_neg (by decide)]; exact h.1.2.2.2.2.2.1, by rw [su_at, upd_at, if_neg (by decide), if_neg (by decide)]; exact h.1.2.2.2.2.2.2⟩, fun p hp => ⟨?_, ?_, fun j hj => ?_⟩, fun k hk => ?_⟩
  · rw [su_at, upd_at, if_neg (by omega), if_neg (by omega)]; exact (h.2.1 p hp).1
  · rw [su_at, upd_at, if_neg (by omega), if_neg (by omega)]; exact (h.2.1 p hp).2.1
  · rw [su_at, upd_at, if_neg (by omega), if_neg (by omega)]; exact (h.2.1 p hp).2.2 j hj
  · rw [su_at, upd_at, if_neg (by omega), if_neg (by omega)]; exact h.2.2 k hk
theorem Sq.u2 {τ : MS} {v : Nat → Int32} (h : Sq τ v) (x : Int32) : Sq (su τ 11 6 x) (upd v 2 x) := by
  refine ⟨⟨by rw [su_at, upd_at, if_neg (by decide), if_neg (by decide)]; exact h.1.1, by rw [su_at, upd_at, if_neg (by decide), if_neg (by decide)]; exact h.1.2.1, by rw [su_at, upd_at, if_pos rfl, if_pos ⟨rfl, rfl⟩], by rw [su_at, upd_at, if_neg (by decide), if_neg (by decide)]; exact h.1.2.2.2.1, by rw [su_at, upd_at, if_neg (by decide), if_neg (by decide)]; exact h.1.2.2.2.2.1, by rw [su_at, upd_at, if_neg (by decide), if_neg (by decide)]; exact h.1.2.2.2.2.2.1, by rw [su_at, upd_at, if_neg (by decide), if_neg (by decide)]; exact h.1.2.2.2.2.2.2⟩, fun p hp => ⟨?_, ?_, fun j hj => ?_⟩, fun k hk => ?_⟩
  · rw [su_at, upd_at, if_neg (by omega), if_neg (by omega)]; exact (h.2.1 p hp).1
  · rw [su_at, upd_at, if_neg (by omega), if_neg (by omega)]; exact (h.2.1 p hp).2.1
  · rw [su_at, upd_at, if_neg (by omega), if_neg (by omega)]; exact (h.2.1 p hp).2.2 j hj
  · rw [su_at, upd_at, if_neg (by omega), if_neg (by omega)]; exact h.2.2 k hk
theorem Sq.u3 {τ : MS} {v : Nat → Int32} (h : Sq τ v) (x : Int32) : Sq (su τ 11 7 x) (upd v 3 x) := by
  refine ⟨⟨by rw [su_at, upd_at, if_neg (by decide), if_neg (by decide)]; exact h.1.1, by rw [su_at, upd_at, if_neg (by decide), if_neg (by decide)]; exact h.1.2.1, by rw [su_at, upd_at, if_neg (by decide), if_neg (by decide)]; exact h.1.2.2.1, by rw [su_at, upd_at, if_pos rfl, if_pos ⟨rfl, rfl⟩], by rw [su_at, upd_at, if_neg (by decide), if_neg (by decide)]; exact h.1.2.2.2.2.1, by rw [su_at, upd_at, if_neg (by decide), if_neg (by decide)]; exact h.1.2.2.2.2.2.1, by rw [su_at, upd_at, if_neg (by decide), if_neg (by decide)]; exact h.1.2.2.2.2.2.2⟩, fun p hp => ⟨?_, ?_, fun j hj => ?_⟩, fun k hk => ?_⟩
  · rw [su_at, upd_at, if_neg (by omega), if_neg (by omega)]; exact (h.2.1 p hp).1
  · rw [su_at, upd_at, if_neg (by omega), if_neg (by omega)]; exact (h.2.1 p hp).2.1
  · rw [su_at, upd_at, if_neg (by omega), if_neg (by omega)]; exact (h.2.1 p hp).2.2 j hj
  · rw [su_at, upd_at, if_neg (by omega), if_neg (by omega)]; exact h.2.2 k hk
theorem Sq.u4 {τ : MS} {v : Nat → Int32} (h : Sq τ v) (x : Int32) : Sq (su τ 11 10 x) (upd v 4 x) := by
  refine ⟨⟨by rw [su_at, upd_at, if_neg (by decide), if_neg (by decide)]; exact h.1.1, by rw [su_at, upd_at, if_neg (by decide), if_neg (by decide)]; exact h.1.2.1, by rw [su_at, upd_at, if_neg (by decide), if_neg (by decide)]; exact h.1.2.2.1, by rw [su_at, upd_at, if_neg (by decide), if_neg (by decide)]; exact h.1.2.2.2.1, by rw [su_at, upd_at, if_pos rfl, if_pos ⟨rfl, rfl⟩], by rw [su_at, upd_at, if_neg (by decide), if_neg (by decide)]; exact h.1.2.2.2.2.2.1, by rw [su_at, upd_at, if_neg (by decide), if_neg (by decide)]; exact h.1.2.2.2.2.2.2⟩, fun p hp => ⟨?_, ?_, fun j hj => ?_⟩, fun k hk => ?_⟩
  · rw [su_at, upd_at, if_neg (by omega), if_neg (by omega)]; exact (h.2.1 p hp).1
  · rw [su_at, upd_at, if_neg (by omega), if_neg (by omega)]; exact (h.2.1 p hp).2.1
  · rw [su_at, upd_at, if_neg (by omega), if_neg (by omega)]; exact (h.2.1 p hp).2.2 j hj
  · rw [su_at, upd_at, if_neg (by omega), if_neg (by omega)]; exact h.2.2 k hk
theorem Sq.u5 {τ : MS} {v : Nat → Int32} (h : Sq τ v) (x : Int32) : Sq (su τ 11 8 x) (upd v 5 x) := by
  refine ⟨⟨by rw [su_at, upd_at, if_neg (by decide), if_neg (by decide)]; exact h.1.1, by rw [su_at, upd_at, if_neg (by decide), if_neg (by decide)]; exact h.1.2.1, by rw [su_at, upd_at, if_neg (by decide), if_neg (by decide)]; exact h.1.2.2.1, by rw [su_at, upd_at, if_neg (by decide), if_neg (by decide)]; exact h.1.2.2.2.1, by rw [su_at, upd_at, if_neg (by decide), if_neg (by decide)]; exact h.1.2.2.2.2.1, by rw [su_at, upd_at, if_pos rfl, if_pos ⟨rfl, rfl⟩], by rw [su_at, upd_at, if_neg (by decide), if_neg (by decide)]; exact h.1.2.2.2.2.2.2⟩, fun p hp => ⟨?_, ?_, fun j hj => ?_⟩, fun k hk => ?_⟩
  · rw [su_at, upd_at, if_neg (by omega), if_neg (by omega)]; exact (h.2.1 p hp).1
  · rw [su_at, upd_at, if_neg (by omega), if_neg (by omega)]; exact (h.2.1 p hp).2.1
  · rw [su_at, upd_at, if_neg (by omega), if_neg (by omega)]; exact (h.2.1 p hp).2.2 j hj
  · rw [su_at, upd_at, if_neg (by omega), if_neg (by omega)]; exact h.2.2 k hk
theorem Sq.u6 {τ : MS} {v : Nat → Int32} (h : Sq τ v) (x : Int32) : Sq (su τ 11 9 x) (upd v 6 x) := by
  refine ⟨⟨by rw [su_at, upd_at, if_neg (by decide), if_neg (by decide)]; exact h.1.1, by rw [su_at, upd_at, if_neg (by decide), if_neg (by decide)]; exact h.1.2.1, by rw [su_at, upd_at, if_neg (by decide), if_neg (by decide)]; exact h.1.2.2.1, by rw [su_at, upd_at, if_neg (by decide), if_neg (by decide)]; exact h.1.2.2.2.1, by rw [su_at, upd_at, if_neg (by decide), if_neg (by decide)]; exact h.1.2.2.2.2.1, by rw [su_at, upd_at, if_neg (by decide), if_neg (by decide)]; exact h.1.2.2.2.2.2.1, by rw [su_at, upd_at, if_pos rfl, if_pos ⟨rfl, rfl⟩]⟩, fun p hp => ⟨?_, ?_, fun j hj => ?_⟩, fun k hk => ?_⟩
  · rw [su_at, upd_at, if_neg (by omega), if_neg (by omega)]; exact (h.2.1 p hp).1
  · rw [su_at, upd_at, if_neg (by omega), if_neg (by omega)]; exact (h.2.1 p hp).2.1
  · rw [su_at, upd_at, if_neg (by omega), if_neg (by omega)]; exact (h.2.1 p hp).2.2 j hj
  · rw [su_at, upd_at, if_neg (by omega), if_neg (by omega)]; exact h.2.2 k hk
theorem Sq.uk {τ : MS} {v : Nat → Int32} (h : Sq τ v) (x : Int32) {q : Nat} (hq : q < 8) : Sq (su τ 0 q x) (upd v (7 + 8 * q) x) := by
  refine ⟨⟨by rw [su_at, upd_at, if_neg (by omega), if_neg (by omega)]; exact h.1.1, by rw [su_at, upd_at, if_neg (by omega), if_neg (by omega)]; exact h.1.2.1, by rw [su_at, upd_at, if_neg (by omega), if_neg (by omega)]; exact h.1.2.2.1, by rw [su_at, upd_at, if_neg (by omega), if_neg (by omega)]; exact h.1.2.2.2.1, by rw [su_at, upd_at, if_neg (by omega), if_neg (by omega)]; exact h.1.2.2.2.2.1, by rw [su_at, upd_at, if_neg (by omega), if_neg (by omega)]; exact h.1.2.2.2.2.2.1, by rw [su_at, upd_at, if_neg (by omega), if_neg (by omega)]; exact h.1.2.2.2.2.2.2⟩, fun p hp => ⟨?_, ?_, fun j hj => ?_⟩, fun k hk => ?_⟩
  · by_cases e : p = q
    · rw [su_at, upd_at, if_pos (by omega), if_pos (by omega)]
    · rw [su_at, upd_at, if_neg (by omega), if_neg (by omega)]; exact (h.2.1 p hp).1
  · rw [su_at, upd_at, if_neg (by omega), if_neg (by omega)]; exact (h.2.1 p hp).2.1
  · rw [su_at, upd_at, if_neg (by omega), if_neg (by omega)]; exact (h.2.1 p hp).2.2 j hj
  · rw [su_at, upd_at, if_neg (by omega), if_neg (by omega)]; exact h.2.2 k hk
theorem Sq.uo {τ : MS} {v : Nat → Int32} (h : Sq τ v) (x : Int32) {q : Nat} (hq : q < 8) : Sq (su τ 1 q x) (upd v (8 + 8 * q) x) := by
  refine ⟨⟨by rw [su_at, upd_at, if_neg (by omega), if_neg (by omega)]; exact h.1.1, by rw [su_at, upd_at, if_neg (by omega), if_neg (by omega)]; exact h.1.2.1, by rw [su_at, upd_at, if_neg (by omega), if_neg (by omega)]; exact h.1.2.2.1, by rw [su_at, upd_at, if_neg (by omega), if_neg (by omega)]; exact h.1.2.2.2.1, by rw [su_at, upd_at, if_neg (by omega), if_neg (by omega)]; exact h.1.2.2.2.2.1, by rw [su_at, upd_at, if_neg (by omega), if_neg (by omega)]; exact h.1.2.2.2.2.2.1, by rw [su_at, upd_at, if_neg (by omega), if_neg (by omega)]; exact h.1.2.2.2.2.2.2⟩, fun p hp => ⟨?_, ?_, fun j hj => ?_⟩, fun k hk => ?_⟩
  · rw [su_at, upd_at, if_neg (by omega), if_neg (by omega)]; exact (h.2.1 p hp).1
  · by_cases e : p = q
    · rw [su_at, upd_at, if_pos (by omega), if_pos (by omega)]
    · rw [su_at, upd_at, if_neg (by omega), if_neg (by omega)]; exact (h.2.1 p hp).2.1
  · rw [su_at, upd_at, if_neg (by omega), if_neg (by omega)]; exact (h.2.1 p hp).2.2 j hj
  · rw [su_at, upd_at, if_neg (by omega), if_neg (by omega)]; exact h.2.2 k hk
theorem Sq.uv {τ : MS} {v : Nat → Int32} (h : Sq τ v) (x : Int32) {q i : Nat} (hq : q < 8) (hi : i < 6) : Sq (su τ 2 (q * 6 + i) x) (upd v (9 + 8 * q + i) x) := by
  refine ⟨⟨by rw [su_at, upd_at, if_neg (by omega), if_neg (by omega)]; exact h.1.1, by rw [su_at, upd_at, if_neg (by omega), if_neg (by omega)]; exact h.1.2.1, by rw [su_at, upd_at, if_neg (by omega), if_neg (by omega)]; exact h.1.2.2.1, by rw [su_at, upd_at, if_neg (by omega), if_neg (by omega)]; exact h.1.2.2.2.1, by rw [su_at, upd_at, if_neg (by omega), if_neg (by omega)]; exact h.1.2.2.2.2.1, by rw [su_at, upd_at, if_neg (by omega), if_neg (by omega)]; exact h.1.2.2.2.2.2.1, by rw [su_at, upd_at, if_neg (by omega), if_neg (by omega)]; exact h.1.2.2.2.2.2.2⟩, fun p hp => ⟨?_, ?_, fun j hj => ?_⟩, fun k hk => ?_⟩
  · rw [su_at, upd_at, if_neg (by omega), if_neg (by omega)]; exact (h.2.1 p hp).1
  · rw [su_at, upd_at, if_neg (by omega), if_neg (by omega)]; exact (h.2.1 p hp).2.1
  · by_cases e : p = q ∧ j = i
    · rw [su_at, upd_at, if_pos (by omega), if_pos (by omega)]
    · rw [su_at, upd_at, if_neg (by omega), if_neg (by omega)]; exact (h.2.1 p hp).2.2 j hj
  · rw [su_at, upd_at, if_neg (by omega), if_neg (by omega)]; exact h.2.2 k hk
theorem Sq.us {τ : MS} {v : Nat → Int32} (h : Sq τ v) (x : Int32) {q : Nat} (hq : q < 10) : Sq (su τ 3 q x) (upd v (71 + q) x) := by
  refine ⟨⟨by rw [su_at, upd_at, if_neg (by omega), if_neg (by omega)]; exact h.1.1, by rw [su_at, upd_at, if_neg (by omega), if_neg (by omega)]; exact h.1.2.1, by rw [su_at, upd_at, if_neg (by omega), if_neg (by omega)]; exact h.1.2.2.1, by rw [su_at, upd_at, if_neg (by omega), if_neg (by omega)]; exact h.1.2.2.2.1, by rw [su_at, upd_at, if_neg (by omega), if_neg (by omega)]; exact h.1.2.2.2.2.1, by rw [su_at, upd_at, if_neg (by omega), if_neg (by omega)]; exact h.1.2.2.2.2.2.1, by rw [su_at, upd_at, if_neg (by omega), if_neg (by omega)]; exact h.1.2.2.2.2.2.2⟩, fun p hp => ⟨?_, ?_, fun j hj => ?_⟩, fun k hk => ?_⟩
  · rw [su_at, upd_at, if_neg (by omega), if_neg (by omega)]; exact (h.2.1 p hp).1
  · rw [su_at, upd_at, if_neg (by omega), if_neg (by omega)]; exact (h.2.1 p hp).2.1
  · rw [su_at, upd_at, if_neg (by omega), if_neg (by omega)]; exact (h.2.1 p hp).2.2 j hj
  · by_cases e : k = q
    · rw [su_at, upd_at, if_pos (by omega), if_pos (by omega)]
    · rw [su_at, upd_at, if_neg (by omega), if_neg (by omega)]; exact h.2.2 k hk
/-- the reference's other rows -/
def FM0 (σ σ' : MS) : Prop := σ' 1 = σ 1 ∧ σ' 4 = σ 4 ∧ σ' 12 = σ 12 ∧ σ' 18 = σ 18 ∧ σ' 19 = σ 19 ∧ σ' 20 = σ 20 ∧ σ' 22 5 = σ 22 5 ∧ σ' 22 13 = σ 22 13
theorem Rel.set0 {k : Nat} {X X' : XS} {σ σ' : MS} (h : Rel k X σ) (h0 : R_sq (100 * (k + 1)) (X' 0) (σ' 0)) (hX : ∀ c, c ≠ 0 → c ≠ 1 → c ≠ 4 → X' c = X c) (hM : FM0 σ σ') : Rel (k + 1) X' σ' := by
  obtain ⟨m1, m4, m12, m18, m19, m20, m5, m13⟩ := hM
  obtain ⟨-, h2, h3, h4, h5⟩ := h.up
  unfold Rel
  rw [m1, m4, m12, m18, m19, m20, m5, m13, hX 2 (by decide) (by decide) (by decide), hX 9 (by decide) (by decide) (by decide), hX 3 (by decide) (by decide) (by decide)]
  refine ⟨h0, h2, h3, h4, fun s hs => ?_⟩
  rw [hX (5 + s) (by omega) (by omega) (by omega)]
  exact h5 s hs
theorem up0 (X : XS) (τ : MS) : ∀ c, c ≠ 0 → c ≠ 1 → c ≠ 4 → va_up X 0 τ c = X c := fun c h _ _ => va_up_ne _ _ h
/-- the row's facts don't ask for z -/
theorem Iv.cg {B n mi w t : Nat} {v v' : Nat → Int32} (h : Iv B n mi w t v) (he : ∀ j, j < 81 → j ≠ 4 → v' j = v j) : Iv B n mi w t v' := by
  obtain ⟨h1, h2, h3, h4, h5⟩ := h
  unfold Iv
  rw [he 0 (by decide) (by decide), he 1 (by decide) (by decide), he 2 (by decide) (by decide), he 3 (by decide) (by decide), he 5 (by decide) (by decide), he 6 (by decide) (by decide)]
  refine ⟨h1, h2, h3, fun p hp => ⟨?_, ?_, fun j hj => ?_⟩, fun k hk => ?_⟩
  · rw [he (7 + 8 * p) (by omega) (by omega)]; exact (h4 p hp).1
  · rw [he (8 + 8 * p) (by omega) (by omega)]; exact (h4 p hp).2.1
  · rw [he (9 + 8 * p + j) (by omega) (by omega)]; exact (h4 p hp).2.2 j hj
  · rw [he (71 + k) (by omega) (by omega)]; exact h5 k hk
theorem Iv.set3 {B n mi w t t' : Nat} {v : Nat → Int32} (h : Iv B n mi w t v) (ht : t' < 6) : Iv B n mi w t' (upd v 3 (nI t')) := by
  obtain ⟨⟨h1, h1b, h1c, -⟩, ⟨h2, h2b, h2c, -⟩, h3, h4, h5⟩ := h
  refine ⟨⟨h1, h1b, h1c, ht⟩, ⟨h2, h2b, h2c, upd_s⟩, h3, fun p hp => ⟨?_, ?_, fun j hj => ?_⟩, fun k hk => ?_⟩
  · rw [upd_n (by omega)]; exact (h4 p hp).1
  · rw [upd_n (by omega)]; exact (h4 p hp).2.1
  · rw [upd_n (by omega)]; exact (h4 p hp).2.2 j hj
  · rw [upd_n (by omega)]; exact h5 k hk
theorem Iv.setH {B n mi w t : Nat} {v : Nat → Int32} (h : Iv B n mi w t v) (x y : Int32) (hxy : (x = -1 ∧ y = -1) ∨ ∃ a b : Nat, a < n ∧ b < n ∧ a ≠ b ∧ x = nI a ∧ y = nI b) : Iv B n mi w t (upd (upd v 5 x) 6 y) := by
  obtain ⟨h1, h2, h3, h4, h5⟩ := h
  refine ⟨h1, h2, hxy, fun p hp => ⟨?_, ?_, fun j hj => ?_⟩, fun k hk => ?_⟩
  · rw [upd_n (by omega), upd_n (by omega)]; exact (h4 p hp).1
  · rw [upd_n (by omega), upd_n (by omega)]; exact (h4 p hp).2.1
  · rw [upd_n (by omega), upd_n (by omega)]; exact (h4 p hp).2.2 j hj
  · rw [upd_n (by omega), upd_n (by omega)]; exact h5 k hk
theorem Iv.setS {B n mi w t q : Nat} {v : Nat → Int32} (h : Iv B n mi w t v) (hq : q < 10) (x : Int32) (hx : x = -1 ∨ ∃ p : Nat, p < n ∧ x = nI p) : Iv B n mi w t (upd v (71 + q) x) := by
  obtain ⟨h1, h2, h3, h4, h5⟩ := h
  unfold Iv
  rw [upd_n (show 0 ≠ 71 + q by omega), upd_n (show 1 ≠ 71 + q by omega), upd_n (show 2 ≠ 71 + q by omega), upd_n (show 3 ≠ 71 + q by omega), upd_n (show 5 ≠ 71 + q by omega), upd_n (show 6 ≠ 71 + q by omega)]
  refine ⟨h1, h2, h3, fun p hp => ⟨?_, ?_, fun j hj => ?_⟩, fun k hk => ?_⟩
  · rw [upd_n (by omega)]; exact (h4 p hp).1
  · rw [upd_n (by omega)]; exact (h4 p hp).2.1
  · rw [upd_n (by omega)]; exact (h4 p hp).2.2 j hj
  · by_cases e : k = q
    · subst e; rw [upd_s]; exact hx
    · rw [upd_n (by omega)]; exact h5 k hk
/-- one of a person's traits: 0 kind, 1 voice, 2 to 7 views -/
def okT (what : Nat) (x : Int32) : Prop := if what = 0 then (∃ kd : Nat, kd < 7 ∧ x = nI kd) else if what = 1 then (∃ vo : Nat, vo ≤ 9 ∧ x = nI vo) else inr (-9) 9 x = true
theorem Iv.setT {B n mi w t q what : Nat} {v : Nat → Int32} (h : Iv B n mi w t v) (hq : q < 8) (hw : what < 8) (x : Int32) (hx : okT what x) : Iv B n mi w t (upd v (7 + 8 * q + what) x) := by
  obtain ⟨h1, h2, h3, h4, h5⟩ := h
  unfold Iv
  rw [upd_n (show 0 ≠ 7 + 8 * q + what by omega), upd_n (show 1 ≠ 7 + 8 * q + what by omega), upd_n (show 2 ≠ 7 + 8 * q + what by omega), upd_n (show 3 ≠ 7 + 8 * q + what by omega), upd_n (show 5 ≠ 7 + 8 * q + what by omega), upd_n (show 6 ≠ 7 + 8 * q + what by omega)]
  refine ⟨h1, h2, h3, fun p hp => ⟨?_, ?_, fun j hj => ?_⟩, fun k hk => ?_⟩
  · by_cases e : 7 + 8 * p = 7 + 8 * q + what
    · rw [e, upd_s]; unfold okT at hx; rw [if_pos (by omega)] at hx; exact hx
    · rw [upd_n e]; exact (h4 p hp).1
  · by_cases e : 8 + 8 * p = 7 + 8 * q + what
    · rw [e, upd_s]; unfold okT at hx; rw [if_neg (by omega), if_pos (by omega)] at hx; exact hx
    · rw [upd_n e]; exact (h4 p hp).2.1
  · by_cases e : 9 + 8 * p + j = 7 + 8 * q + what
    · rw [e, upd_s]; unfold okT at hx; rw [if_neg (by omega), if_neg (by omega)] at hx; exact hx
    · rw [upd_n e]; exact (h4 p hp).2.2 j hj
  · rw [upd_n (by omega)]; exact h5 k hk
theorem st_seed : St_seed Rel := by
  intro k X σ p1 hk h
  have hz : σ 0 4 = X 0 11 10 := h.1.1.1.2.2.2.2.1
  refine ⟨σ 0 4, va_up X 0 (su (X 0) 11 10 p1), su σ 0 4 p1, by rw [hz]; rfl, rfl, ?_⟩
  obtain ⟨hs, n, mi, w, t, hi⟩ := h.1.up (B' := 100 * (k + 1)) (by omega)
  exact h.set0 ⟨hs.u4 p1, n, mi, w, t, hi.cg (fun j _ hj => upd_n hj)⟩ (up0 X _) ⟨rfl, rfl, rfl, rfl, rfl, rfl, rfl, rfl⟩
