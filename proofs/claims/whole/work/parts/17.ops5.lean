/-! PURE 7: rest, now, count, status, pair, change -/
theorem st_rest : St_rest Rel := by
  intro k X σ hk h
  obtain ⟨hs, n, mi, w, t, hi⟩ := h.1.up (B' := 100 * (k + 1)) (by omega)
  unfold X5_rest X6_rest
  have hR : Rel (k + 1) (va_up X 0 (su (su (X 0) 11 8 (-1)) 11 9 (-1))) (su (su σ 0 5 (-1)) 0 6 (-1)) := h.set0 ⟨(hs.u5 _).u6 _, n, mi, w, t, hi.setH _ _ (Or.inl ⟨rfl, rfl⟩)⟩ (up0 X _) ⟨rfl, rfl, rfl, rfl, rfl, rfl, rfl, rfl⟩
  simp only [manned4 hs hi, somebody6, Option.bind_some, if_bi]
  cases hd (σ 0)
  · exact ⟨0, _, _, rfl, rfl, hR⟩
  · exact ⟨1, _, _, rfl, rfl, hR⟩
def vsm (v : Nat → Int32) : Nat → Nat → Int32 → Int32
  | 0, _, acc => acc
  | d + 1, j, acc => vsm v d (j + 1) (acc + v (8 + 8 * j))
theorem voices6 {σ : MS} {n : Nat} (h1 : σ 0 1 = nI n) (hn : n ≤ 8) : X6_voices σ = some (vsm (σ 0) n 0 0) := by
  have key : ∀ (d j fuel : Nat) (acc : Int32), j + d = n → d < fuel → X6_voices_b4 σ fuel acc (nI j) = some (vsm (σ 0) d j acc) := by
    intro d
    induction d with
    | zero =>
      intro j fuel acc hj hf
      obtain ⟨f, rfl⟩ : ∃ f, fuel = f + 1 := ⟨fuel - 1, by omega⟩
      rw [X6_voices_b4, h1, le_nI (by omega) (by omega), if_pos (by omega)]; rfl
    | succ d ih =>
      intro j fuel acc hj hf
      obtain ⟨f, rfl⟩ : ∃ f, fuel = f + 1 := ⟨fuel - 1, by omega⟩
      rw [X6_voices_b4, h1, le_nI (by omega) (by omega), if_neg (by omega), show (1 : Int32) = nI 1 from rfl, its6 (by omega) (by decide), Option.bind_some, nI_add, ih (j + 1) f _ (by omega) (by omega), show 7 + 8 * j + 1 = 8 + 8 * j by omega]; rfl
  exact key n 0 FU 0 (by omega) (FU_lt (by omega))
theorem voices4 {τ : MS} {v : Nat → Int32} {n : Nat} (hs : Sq τ v) (h1 : v 1 = nI n) (hn : n ≤ 8) : X4_allVoices τ = some (vsm v n 0 0) := by
  have h2 : τ 11 4 = nI n := by rw [← hs.1.2.1]; exact h1
  have key : ∀ (d j fuel : Nat) (acc : Int32), j + d = n → d < fuel → X4_allVoices_b4 τ fuel acc (nI j) = some (vsm v d j acc) := by
    intro d
    induction d with
    | zero =>
      intro j fuel acc hj hf
      obtain ⟨f, rfl⟩ : ∃ f, fuel = f + 1 := ⟨fuel - 1, by omega⟩
      rw [X4_allVoices_b4, h2, le_nI (by omega) (by omega), if_pos (by omega)]; rfl
    | succ d ih =>
      intro j fuel acc hj hf
      obtain ⟨f, rfl⟩ : ∃ f, fuel = f + 1 := ⟨fuel - 1, by omega⟩
      rw [X4_allVoices_b4, h2, le_nI (by omega) (by omega), if_neg (by omega), ai_n (by omega) (by decide), nI_clamp (by omega), nI_1, ih (j + 1) f _ (by omega) (by omega), ← (hs.2.1 j (by omega)).2.1]; rfl
  exact key n 0 FU 0 (by omega) (FU_lt (by omega))
def spn (v : Nat → Int32) : Nat → Nat → Int32 → Int32
  | 0, _, acc => acc
  | d + 1, j, acc => spn v d (j + 1) (acc + if v (71 + j) = -1 then 0 else 1)
theorem add_0 (x : Int32) : x + 0 = x := by
  apply Int32.toBitVec_inj.mp
  simp
theorem spots6 {σ : MS} {B n mi w t : Nat} (h : Iv B n mi w t (σ 0)) : X6_heldSpots σ = some (spn (σ 0) 10 0 0) := by
  have hn := h.1.1
  have key : ∀ (d j fuel : Nat) (acc : Int32), j + d = 10 → d < fuel → X6_heldSpots_b4 σ fuel acc (nI j) = some (spn (σ 0) d j acc) := by
    intro d
    induction d with
    | zero =>
      intro j fuel acc hj hf
      obtain ⟨f, rfl⟩ : ∃ f, fuel = f + 1 := ⟨fuel - 1, by omega⟩
      rw [X6_heldSpots_b4, show (10 : Int32) = nI 10 from rfl, le_nI (by omega) (by omega), if_pos (by omega)]; rfl
    | succ d ih =>
      intro j fuel acc hj hf
      obtain ⟨f, rfl⟩ : ∃ f, fuel = f + 1 := ⟨fuel - 1, by omega⟩
      rw [X6_heldSpots_b4, show (10 : Int32) = nI 10 from rfl, le_nI (by omega) (by omega), if_neg (by omega), show (71 : Int32) = nI 71 from rfl, nI_add, ai_n (by omega) (by decide), nI_clamp (by omega)]
      unfold X6_heldSpots_b28
      rw [nI_1, ih (j + 1) f _ (by omega) (by omega), ih (j + 1) f _ (by omega) (by omega), spn]
      rcases h.2.2.2.2 j (by omega) with e | ⟨p, hp, e⟩
      · rw [e, if_pos (by decide), if_pos rfl]
      · rw [e, if_neg (nI_pos (by omega)), if_neg (fun q => by have := congrArg Int32.toInt q; rw [nI_toInt (by omega)] at this; exact absurd this (by have : (-1 : Int32).toInt = -1 := by decide
                                                                                                                                                       omega))]
  exact key 10 0 FU 0 rfl (FU_lt (by decide))
theorem spots4 {τ : MS} {v : Nat → Int32} (hs : Sq τ v) : X4_fullSpots τ = some (spn v 10 0 0) := by
  have key : ∀ (d j fuel : Nat) (acc : Int32), j + d = 10 → d < fuel → X4_fullSpots_b4 τ fuel acc (nI j) = some (spn v d j acc) := by
    intro d
    induction d with
    | zero =>
      intro j fuel acc hj hf
      obtain ⟨f, rfl⟩ : ∃ f, fuel = f + 1 := ⟨fuel - 1, by omega⟩
      rw [X4_fullSpots_b4, show (10 : Int32) = nI 10 from rfl, le_nI (by omega) (by omega), if_pos (by omega)]; rfl
    | succ d ih =>
      intro j fuel acc hj hf
      obtain ⟨f, rfl⟩ : ∃ f, fuel = f + 1 := ⟨fuel - 1, by omega⟩
      rw [X4_fullSpots_b4, show (10 : Int32) = nI 10 from rfl, le_nI (by omega) (by omega), if_neg (by omega), ai_n (by omega) (by decide), nI_clamp (by omega), nI_1, ih (j + 1) f _ (by omega) (by omega), ih (j + 1) f _ (by omega) (by omega), spn, ← hs.2.2 j (by omega)]
      by_cases e : v (71 + j) = -1
      · rw [if_pos e, if_pos e, add_0]
      · rw [if_neg e, if_neg e]
  exact key 10 0 FU 0 rfl (FU_lt (by decide))
theorem st_now : St_now Rel := by
  intro k X σ p1 hk h
  obtain ⟨hs, n, mi, w, t, hi⟩ := h.1
  unfold X5_now X6_now
  rw [← hs.1.1, ← hs.1.2.2.1, ← hs.1.2.2.2.1, ← hs.1.2.2.2.2.2.1, ← hs.1.2.2.2.2.2.2]
  simp only [manned4 hs hi, somebody6, quar4 hs hi, disp6 hi, voices4 hs hi.2.1.1 hi.1.1, voices6 hi.2.1.1 hi.1.1, Option.bind_some, if_bi, bind_et]
  by_cases h0 : p1 = 0
  · simp only [if_pos h0]; exact h.asks _ rfl rfl
  · simp only [if_neg h0]
    by_cases h1 : p1 = 1
    · simp only [if_pos h1]; exact h.asks _ rfl rfl
    · simp only [if_neg h1]
      by_cases h2 : p1 = 2
      · simp only [if_pos h2]; exact h.asks _ rfl rfl
      · simp only [if_neg h2]
        by_cases h3 : p1 = 3
        · simp only [if_pos h3]
          cases hd (σ 0)
          · exact h.asks _ rfl rfl
          · exact h.asks _ rfl rfl
        · simp only [if_neg h3]
          by_cases h4 : p1 = 4
          · simp only [if_pos h4]; exact h.asks _ rfl rfl
          · simp only [if_neg h4]
            by_cases h5 : p1 = 5
            · simp only [if_pos h5]; exact h.asks _ rfl rfl
            · simp only [if_neg h5]; exact bf_0 h
theorem st_count : St_count Rel := by
  intro k X σ p1 hk h
  obtain ⟨hs, n, mi, w, t, hi⟩ := h.1
  have ht : X 3 6 1 = σ 22 13 := by
    obtain ⟨tl, t1, t2, t3, t4⟩ := h.2.2.2.1
    rw [t2, t3]
  unfold X5_count X6_count
  rw [← hs.1.1, ← hs.1.2.1, ← hs.1.2.2.1, ← hs.1.2.2.2.1, ← hs.1.2.2.2.2.1, ht]
  simp only [voices4 hs hi.2.1.1 hi.1.1, voices6 hi.2.1.1 hi.1.1, spots4 hs, spots6 hi, Option.bind_some, bind_et]
  by_cases h0 : p1 = 0
  · simp only [if_pos h0]; exact h.asks _ rfl rfl
  · simp only [if_neg h0]
    by_cases h1 : p1 = 1
    · simp only [if_pos h1]; exact h.asks _ rfl rfl
    · simp only [if_neg h1]
      by_cases h2 : p1 = 2
      · simp only [if_pos h2]; exact h.asks _ rfl rfl
      · simp only [if_neg h2]
        by_cases h3 : p1 = 3
        · simp only [if_pos h3]; exact h.asks _ rfl rfl
        · simp only [if_neg h3]
          by_cases h4 : p1 = 4
          · simp only [if_pos h4]; exact h.asks _ rfl rfl
          · simp only [if_neg h4]
            by_cases h5 : p1 = 5
            · simp only [if_pos h5]; exact h.asks _ rfl rfl
            · simp only [if_neg h5]
              by_cases h6 : p1 = 6
              · simp only [if_pos h6]; exact h.asks _ rfl rfl
              · simp only [if_neg h6]
                by_cases h7 : p1 = 7
                · simp only [if_pos h7]; exact h.asks _ rfl rfl
                · simp only [if_neg h7]; exact bf_0 h
def twoP (n : Nat) (x y : Int32) : Bool := isP n x && (isP n y && decide (x ≠ y))
theorem areTwo6 {σ : MS} {n : Nat} (h1 : σ 0 1 = nI n) (hn : n ≤ 8) (x y : Int32) : X6_areTwo σ x y = some (bi (twoP n x y)) := by
  unfold X6_areTwo twoP
  simp only [isPerson6 h1 hn, Option.bind_some, if_bi]
  cases isP n x
  · rfl
  · cases isP n y
    · rfl
    · by_cases e : x = y
      · simp [e]; rfl
      · simp [e]; rfl
theorem noPair5 {X : XS} {n : Nat} (h2 : X 0 11 4 = nI n) (hn : n ≤ 8) (x y : Int32) : X5_isNoPair X x y = some (bi (!twoP n x y)) := by
  unfold X5_isNoPair twoP
  simp only [isThere4 h2 hn, Option.bind_some, if_bi]
  cases isP n x
  · rfl
  · cases isP n y
    · rfl
    · by_cases e : x = y
      · simp [e]; rfl
      · simp [e]; rfl
theorem twoP_ex {n : Nat} {x y : Int32} (hn : n ≤ 8) (h : twoP n x y = true) : ∃ a b : Nat, a < n ∧ b < n ∧ a ≠ b ∧ x = nI a ∧ y = nI b := by
  unfold twoP at h
  simp only [Bool.and_eq_true, decide_eq_true_eq] at h
  obtain ⟨h1, h2, h3⟩ := h
  obtain ⟨a, ha, rfl⟩ := isP_ex (by omega) h1
  obtain ⟨b, hb, rfl⟩ := isP_ex (by omega) h2
  exact ⟨a, b, ha, hb, fun e => h3 (by rw [e]), rfl, rfl⟩
theorem st_pair : St_pair Rel := by
  intro k X σ p1 p2 hk h
  obtain ⟨hs, n, mi, w, t, hi⟩ := h.1.up (B' := 100 * (k + 1)) (by omega)
  have hn := hi.1.1
  have h1 : σ 0 1 = nI n := hi.2.1.1
  have h2 : X 0 11 4 = nI n := by rw [← hs.1.2.1]; exact h1
  unfold X5_pair X6_pair
  simp only [noPair5 h2 hn, areTwo6 h1 hn, Option.bind_some, if_bi, bind_et]
  cases htw : twoP n p1 p2
  · exact bf_0 h
  · obtain ⟨a, b, ha, hb, hab, rfl, rfl⟩ := twoP_ex hn htw
    have hs' := (hs.u5 (nI a)).u6 (nI b)
    have hi' := hi.setH (nI a) (nI b) (Or.inr ⟨a, b, ha, hb, hab, rfl, rfl⟩)
    have hR : Rel (k + 1) (va_up X 0 (su (su (X 0) 11 8 (nI a)) 11 9 (nI b))) (su (su σ 0 5 (nI a)) 0 6 (nI b)) := h.set0 ⟨hs', n, mi, w, t, hi'⟩ (up0 X _) ⟨rfl, rfl, rfl, rfl, rfl, rfl, rfl, rfl⟩
    obtain ⟨r, r1, r2⟩ := ones_bits _ (qset_lt (upd (upd (σ 0) 5 (nI a)) 6 (nI b)))
    have q1 : X4_quarrelSet ((va_up X 0 (su (su (X 0) 11 8 (nI a)) 11 9 (nI b))) 0) = some (nI (qset (upd (upd (σ 0) 5 (nI a)) 6 (nI b)))) := quar4 hs' hi'
    have q2 : X6_disputed (su (su σ 0 5 (nI a)) 0 6 (nI b)) = some (nI (qset (upd (upd (σ 0) 5 (nI a)) 6 (nI b)))) := disp6 (σ := su (su σ 0 5 (nI a)) 0 6 (nI b)) hi'
    refine ⟨r, _, _, ?_, ?_, hR⟩
    · simp only [Bool.not_true, Bool.false_eq_true, if_false]
      unfold X4_seat
      simp only [Option.bind_some, q1, r1]
    · simp only [if_true, q2, Option.bind_some, r2]
