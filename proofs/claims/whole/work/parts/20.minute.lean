/-! PURE 10: a minute in both -/
theorem upd_self (f : Nat → Int32) (k : Nat) : upd f k (f k) = f := by
  funext j
  rw [upd_at]
  by_cases h : j = k
  · rw [if_pos h, h]
  · rw [if_neg h]
theorem upd_upd (f : Nat → Int32) (k : Nat) (x y : Int32) : upd (upd f k x) k y = upd f k y := by
  funext j
  rw [upd_at, upd_at, upd_at]
  by_cases h : j = k
  · rw [if_pos h, if_pos h]
  · rw [if_neg h, if_neg h, if_neg h]
theorem upd_cm {i j : Nat} (h : i ≠ j) (f : Nat → Int32) (x y : Int32) : upd (upd f i x) j y = upd (upd f j y) i x := by
  funext k
  rw [upd_at, upd_at, upd_at, upd_at]
  by_cases h1 : k = i
  · have h2 : ¬ k = j := fun e => h (h1.symm.trans e)
    rw [if_neg h2, if_pos h1, if_pos h1]
  · rw [if_neg h1, if_neg h1]
theorem su_self (σ : MS) (k j : Nat) : su σ k j (σ k j) = σ := by
  rw [su_eq_sr, upd_self, sr_self]
theorem sr_su (σ : MS) (f : Nat → Int32) (j : Nat) (c : Int32) : sr (su σ 22 j c) 0 f = su (sr σ 0 f) 22 j c := by
  funext k l
  rw [su_at]
  by_cases h0 : k = 0
  · subst h0
    rw [sr_at, sr_at, if_neg (by omega)]
  · rw [sr_ne h0, sr_ne h0, su_at]
theorem sr_sr (σ : MS) (r : Nat) (f g : Nat → Int32) : sr (sr σ r f) r g = sr σ r g := bx_uu _ _ _ _
theorem Iv.set2 {B n mi w w' t : Nat} {v : Nat → Int32} (h : Iv B n mi w t v) (hw : w' ≤ 999999) : Iv B n mi w' t (upd v 2 (nI w')) := by
  obtain ⟨⟨h1, h1b, -, h1d⟩, ⟨h2, h2b, -, h2d⟩, h3, h4, h5⟩ := h
  refine ⟨⟨h1, h1b, hw, h1d⟩, ⟨h2, h2b, upd_s, h2d⟩, h3, fun p hp => ⟨?_, ?_, fun j hj => ?_⟩, fun k hk => ?_⟩
  · rw [upd_n (by omega)]; exact (h4 p hp).1
  · rw [upd_n (by omega)]; exact (h4 p hp).2.1
  · rw [upd_n (by omega)]; exact (h4 p hp).2.2 j hj
  · rw [upd_n (by omega)]; exact h5 k hk
theorem Iv.set0 {B B' n mi mi' w t : Nat} {v : Nat → Int32} (h : Iv B n mi w t v) (hm : mi' ≤ B') : Iv B' n mi' w t (upd v 0 (nI mi')) := by
  obtain ⟨⟨h1, -, h1c, h1d⟩, ⟨h2, -, h2c, h2d⟩, h3, h4, h5⟩ := h
  refine ⟨⟨h1, hm, h1c, h1d⟩, ⟨h2, upd_s, h2c, h2d⟩, h3, fun p hp => ⟨?_, ?_, fun j hj => ?_⟩, fun k hk => ?_⟩
  · rw [upd_n (by omega)]; exact (h4 p hp).1
  · rw [upd_n (by omega)]; exact (h4 p hp).2.1
  · rw [upd_n (by omega)]; exact (h4 p hp).2.2 j hj
  · rw [upd_n (by omega)]; exact h5 k hk
def hA (v : Nat → Int32) : Nat := (v 5).toNatClampNeg
def hB (v : Nat → Int32) : Nat := (v 6).toNatClampNeg
def tpc (v : Nat → Int32) : Nat := (v 3).toNatClampNeg
def iA (v : Nat → Int32) : Nat := 9 + 8 * hA v + tpc v
def iB (v : Nat → Int32) : Nat := 9 + 8 * hB v + tpc v
def gap (v : Nat → Int32) : Int32 := ab (v (iA v)) (v (iB v))
def upw (v : Nat → Int32) : Int32 := if v (iB v) ≤ v (iA v) then -1 else 1
def hvw (x : Int32) : Int32 := if (-9 : Int32) ≤ x then (if x ≤ (9 : Int32) then x else 9) else -9
def swa (v : Nat → Int32) : Int32 := stv (v (7 + 8 * hA v)) (v (8 + 8 * hA v)) (gap v) (v 0) + stv (v (7 + 8 * hB v)) (v (8 + 8 * hB v)) (gap v) (v 0)
/-- how much comes in a minute -/
def cme (v : Nat → Int32) : Int32 := if hd v then (if v (iA v) = v (iB v) then 0 else swa v) else 0
def wat (x : Int32) : Int32 := if x ≤ (999999 : Int32) then x else 999999
def mv2 (v u : Nat → Int32) : Nat → Int32 := upd (upd u (iA v) (hvw (v (iA v) + upw v * mvv (v (7 + 8 * hA v)) (gap v) (v 0)))) (iB v) (hvw (v (iB v) - upw v * mvv (v (7 + 8 * hB v)) (gap v) (v 0)))
def mvd (v : Nat → Int32) : Nat → Int32 := mv2 v (upd v 2 (wat (v 2 + swa v)))
def nx0 (v : Nat → Int32) : Nat → Int32 := if hd v then (if v (iA v) = v (iB v) then upd v 3 (nI ((tpc v + 1) % 6)) else mvd v) else v
/-- the row a minute on -/
def nxt (v : Nat → Int32) : Nat → Int32 := upd (nx0 v) 0 (v 0 + 1)
theorem held6 (x : Int32) : X6_heldView x = some (hvw x) := by
  unfold X6_heldView hvw
  split
  · split <;> rfl
  · rfl
theorem held4 (x : Int32) : X4_heldView x = some (hvw x) := by
  unfold X4_heldView hvw
  by_cases h1 : x ≤ (9 : Int32)
  · rw [if_pos h1, if_pos h1]; split <;> rfl
  · have h2 : (-9 : Int32) ≤ x := by
      apply Int32.le_iff_toInt_le.mpr
      have h3 : ¬ x.toInt ≤ (9 : Int32).toInt := fun e => h1 (Int32.le_iff_toInt_le.mpr e)
      have e1 : (9 : Int32).toInt = 9 := by decide
      have e2 : (-9 : Int32).toInt = -9 := by decide
      omega
    rw [if_neg h1, if_pos h2, if_neg h1]
theorem hvw_in (x : Int32) : inr (-9) 9 (hvw x) = true := by
  unfold hvw
  by_cases h1 : (-9 : Int32) ≤ x
  · by_cases h2 : x ≤ (9 : Int32)
    · rw [if_pos h1, if_pos h2]
      have a := Int32.le_iff_toInt_le.mp h1
      have b := Int32.le_iff_toInt_le.mp h2
      have e1 : (9 : Int32).toInt = 9 := by decide
      have e2 : (-9 : Int32).toInt = -9 := by decide
      exact decide_eq_true (by omega)
    · rw [if_pos h1, if_neg h2]; decide
  · rw [if_neg h1]; decide
theorem wat_min (x : Int32) : (if x < (999999 : Int32) then x else 999999) = wat x := by
  unfold wat
  by_cases h1 : x < (999999 : Int32)
  · rw [if_pos h1, if_pos]
    exact Int32.le_of_lt h1
  · rw [if_neg h1]
    by_cases h2 : x ≤ (999999 : Int32)
    · rw [if_pos h2]
      have a := Int32.le_iff_toInt_le.mp h2
      have b : ¬ x.toInt < (999999 : Int32).toInt := fun e => h1 (Int32.lt_iff_toInt_lt.mpr e)
      exact (Int32.toInt_inj.mp (by omega)).symm
    · rw [if_neg h2]
theorem wat_n {n : Nat} (h : n < 2000000) : wat (nI n) = nI (min n 999999) := by
  unfold wat
  rw [show (999999 : Int32) = nI 999999 from rfl, le_nI (by omega) (by omega)]
  by_cases h2 : n ≤ 999999
  · rw [if_pos h2, Nat.min_eq_left h2]
  · rw [if_neg h2, Nat.min_eq_right (by omega)]
theorem hAB {B n mi w t : Nat} {v : Nat → Int32} (h : Iv B n mi w t v) (hh : hd v = true) : ∃ a b : Nat, a < n ∧ b < n ∧ a ≠ b ∧ v 5 = nI a ∧ v 6 = nI b ∧ hA v = a ∧ hB v = b ∧ tpc v = t ∧ iA v = 9 + 8 * a + t ∧ iB v = 9 + 8 * b + t := by
  have hn := h.1.1
  have ht := h.1.2.2.2
  have h3 : v 3 = nI t := h.2.1.2.2.2
  rcases hd_cases h with ⟨e, _, _⟩ | ⟨_, a, b, ha, hb, hab, h5, h6⟩
  · rw [e] at hh; cases hh
  · have e1 : hA v = a := by unfold hA; rw [h5, nI_clamp (by omega)]
    have e2 : hB v = b := by unfold hB; rw [h6, nI_clamp (by omega)]
    have e3 : tpc v = t := by unfold tpc; rw [h3, nI_clamp (by omega)]
    exact ⟨a, b, ha, hb, hab, h5, h6, e1, e2, e3, by unfold iA; rw [e1, e3], by unfold iB; rw [e2, e3]⟩
theorem repl6 {σ : MS} {B n mi w t : Nat} (hi : Iv B n mi w t (σ 0)) (hh : hd (σ 0) = true) : X6_replies σ (gap (σ 0)) = some (su (sr σ 0 (mvd (σ 0))) 22 6 (σ 22 6 + swa (σ 0))) := by
  obtain ⟨a, b, ha, hb, hab, h5, h6, eA, eB, eT, eIA, eIB⟩ := hAB hi hh
  have hn := hi.1.1
  have ht := hi.1.2.2.2
  have h3 : σ 0 3 = nI t := hi.2.1.2.2.2
  have two : (2 : Int32) = nI 2 := rfl
  have k2 : ∀ u y : Int32, X6_replies_b126 (su σ 22 6 (σ 22 6 + swa (σ 0))) (gap (σ 0)) (nI (9 + 8 * a + t)) (nI (9 + 8 * b + t)) u 2 y = some (su (sr σ 0 (upd (upd (upd (σ 0) 2 y) (9 + 8 * a + t) (hvw (σ 0 (9 + 8 * a + t) + u * mvv (σ 0 (7 + 8 * a)) (gap (σ 0)) (σ 0 0)))) (9 + 8 * b + t) (hvw (σ 0 (9 + 8 * b + t) - u * mvv (σ 0 (7 + 8 * b)) (gap (σ 0)) (σ 0 0))))) 22 6 (σ 22 6 + swa (σ 0))) := by
    intro u y
    generalize gap (σ 0) = g
    generalize swa (σ 0) = c
    unfold X6_replies_b126
    rw [two, ai_n (j := 2) (by decide) (by decide), ai_n (j := 9 + 8 * a + t) (by omega) (by decide), nI_clamp (n := 2) (by decide), nI_clamp (n := 9 + 8 * a + t) (by omega), nI_clamp (n := 9 + 8 * b + t) (by omega)]
    have e0 : su (su σ 22 6 (σ 22 6 + c)) 0 2 y = sr (su σ 22 6 (σ 22 6 + c)) 0 (upd (σ 0) 2 y) := rfl
    rw [e0]
    simp only [sr_at, su_sr]
    have f5 : upd (σ 0) 2 y 5 = nI a := h5
    rw [f5, moves6 (by omega), Option.bind_some, held6, Option.bind_some, ai_n (j := 9 + 8 * a + t) (by omega) (by decide), ai_n (j := 9 + 8 * b + t) (by omega) (by decide)]
    simp only [sr_at]
    rw [upd_n (show 7 + 8 * a ≠ 2 by omega), upd_n (show 9 + 8 * a + t ≠ 2 by omega), upd_n (show (0 : Nat) ≠ 2 by decide)]
    rw [upd_n (show 6 ≠ 9 + 8 * a + t by omega)]
    have f6 : upd (σ 0) 2 y 6 = nI b := h6
    rw [f6, moves6 (by omega), Option.bind_some, held6, Option.bind_some, ai_n (j := 9 + 8 * b + t) (by omega) (by decide)]
    simp only [sr_at]
    rw [upd_n (show 7 + 8 * b ≠ 9 + 8 * a + t by omega), upd_n (show 9 + 8 * b + t ≠ 9 + 8 * a + t by omega), upd_n (show 0 ≠ 9 + 8 * a + t by omega), upd_n (show 7 + 8 * b ≠ 2 by omega), upd_n (show 9 + 8 * b + t ≠ 2 by omega), upd_n (show (0 : Nat) ≠ 2 by decide)]
    rw [sr_su]
  have key : ∀ u : Int32, X6_replies_b57 σ (gap (σ 0)) (nI (9 + 8 * a + t)) (nI (9 + 8 * b + t)) u = some (su (sr σ 0 (upd (upd (upd (σ 0) 2 (wat (σ 0 2 + swa (σ 0)))) (9 + 8 * a + t) (hvw (σ 0 (9 + 8 * a + t) + u * mvv (σ 0 (7 + 8 * a)) (gap (σ 0)) (σ 0 0)))) (9 + 8 * b + t) (hvw (σ 0 (9 + 8 * b + t) - u * mvv (σ 0 (7 + 8 * b)) (gap (σ 0)) (σ 0 0))))) 22 6 (σ 22 6 + swa (σ 0))) := by
    intro u
    unfold X6_replies_b57
    rw [h5, h6, strokes6 (by omega), strokes6 (by omega), Option.bind_some, Option.bind_some]
    have es : stv (σ 0 (7 + 8 * a)) (σ 0 (8 + 8 * a)) (gap (σ 0)) (σ 0 0) + stv (σ 0 (7 + 8 * b)) (σ 0 (8 + 8 * b)) (gap (σ 0)) (σ 0 0) = swa (σ 0) := by
      unfold swa; rw [eA, eB]
    rw [es, k2, k2]
    unfold wat
    split <;> rfl
  unfold X6_replies
  rw [h5, h6, h3, two, nI_add, place6, place6, Option.bind_some, Option.bind_some, show 7 + 8 * a + (2 + t) = 9 + 8 * a + t by omega, show 7 + 8 * b + (2 + t) = 9 + 8 * b + t by omega, ai_n (by omega) (by decide), ai_n (by omega) (by decide), nI_clamp (by omega), nI_clamp (by omega), key, key]
  unfold mvd mv2 upw
  rw [eIA, eIB, eA, eB]
  split <;> rfl
theorem min6 {σ : MS} {B n mi w t : Nat} (hi : Iv B n mi w t (σ 0)) : X6_minute σ = some (su (sr σ 0 (nxt (σ 0))) 22 6 (σ 22 6 + cme (σ 0))) := by
  have fin : ∀ (f : Nat → Int32) (x c : Int32), su (su (sr σ 0 f) 22 6 c) 0 0 x = su (sr σ 0 (upd f 0 x)) 22 6 c := by
    intro f x c
    rw [← sr_su, su_sr, sr_su]
  have fin0 : ∀ (f : Nat → Int32), sr σ 0 f = su (sr σ 0 f) 22 6 (σ 22 6 + 0) := by
    intro f
    rw [add_0]
    exact (su_self (sr σ 0 f) 22 6).symm
  unfold X6_minute
  rw [somebody6, Option.bind_some, if_bi]
  unfold nxt nx0 cme
  by_cases hh : hd (σ 0) = true
  · obtain ⟨a, b, ha, hb, hab, h5, h6, eA, eB, eT, eIA, eIB⟩ := hAB hi hh
    have hn := hi.1.1
    have ht := hi.1.2.2.2
    have h3 : σ 0 3 = nI t := hi.2.1.2.2.2
    rw [if_pos hh, if_pos hh, if_pos hh]
    have eg : X6_apartOn σ (σ 0 5) (σ 0 6) (σ 0 3) = some (gap (σ 0)) := by
      unfold gap
      rw [h5, h6, h3, apartOn6 (by omega) (by omega) ht, eIA, eIB]
    rw [eg, Option.bind_some]
    have e0 : gap (σ 0) = 0 ↔ σ 0 (iA (σ 0)) = σ 0 (iB (σ 0)) := by
      unfold gap
      rw [eIA, eIB]
      exact ab_0 (ivv hi (by omega) ht) (ivv hi (by omega) ht)
    by_cases hg : σ 0 (iA (σ 0)) = σ 0 (iB (σ 0))
    · rw [if_pos (e0.mpr hg), if_pos hg, if_pos hg, h3, nI_1, show (6 : Int32) = nI 6 from rfl, pk_rem (by omega) (by decide) (by decide), eT]
      unfold X6_minute_b60
      show some (su (su σ 0 3 (nI ((t + 1) % 6))) 0 0 (σ 0 0 + 1)) = _
      rw [su_eq_sr σ, su_sr, ← fin0]
    · rw [if_neg (fun e => hg (e0.mp e)), if_neg hg, if_neg hg, repl6 hi hh, Option.bind_some]
      unfold X6_minute_b60
      rw [fin]
      have e9 : su (sr σ 0 (mvd (σ 0))) 22 6 (σ 22 6 + swa (σ 0)) 0 0 = σ 0 0 := by
        show mvd (σ 0) 0 = σ 0 0
        unfold mvd mv2
        rw [eIA, eIB, upd_n (by omega), upd_n (by omega), upd_n (by omega)]
      rw [e9]
  · rw [if_neg hh, if_neg hh, if_neg hh]
    unfold X6_minute_b60
    rw [su_eq_sr, ← fin0]
