/-! PURE 22: both tables of sets are the same; matched -/
theorem lsb_eq {s a : Nat} (hs : s < 256) (ha8 : a < 8) (ha : s.testBit a = true) (hl : ∀ i, i < a → s.testBit i = false) : lsb 7 0 s = a := by
  have s0 : s ≠ 0 := by
    intro e
    rw [e, Nat.zero_testBit] at ha
    cases ha
  obtain ⟨l1, l2, l3⟩ := lsb_dec s hs s0
  rcases Nat.lt_trichotomy (lsb 7 0 s) a with h | h | h
  · rw [hl _ h] at l2; cases l2
  · exact h
  · rw [l3 a ha8 h] at ha; cases ha
theorem rmv_t {s a i : Nat} (h : s.testBit i = true) (hi : i ≠ a) : (rmv s a).testBit i = true := by
  rw [rmv_bit, h, decide_eq_false hi]; rfl
theorem rmv_e {s a i : Nat} (h : (rmv s a).testBit i = true) : s.testBit i = true ∧ i ≠ a := by
  rw [rmv_bit] at h
  cases h1 : s.testBit i
  · rw [h1] at h; cases h
  · refine ⟨rfl, fun e => ?_⟩
    rw [h1, decide_eq_true e] at h
    cases h
theorem rmv_f {s a i : Nat} (h : s.testBit i = false) : (rmv s a).testBit i = false := by
  rw [rmv_bit, h]; rfl
theorem rmv_s (s a : Nat) : (rmv s a).testBit a = false := by
  rw [rmv_bit, decide_eq_true rfl]; simp
theorem bit_n {s n b : Nat} (hs : s < 2 ^ n) (hb : s.testBit b = true) : b < n := by
  refine Nat.lt_of_not_le (fun hle => ?_)
  have := Nat.testBit_lt_two_pow (Nat.lt_of_lt_of_le hs (Nat.pow_le_pow_right (by decide) hle))
  rw [hb] at this
  cases this
theorem rmv3 (s a b c : Nat) : rmv (rmv (rmv s b) c) a = rmv (rmv (rmv s a) b) c := by
  rw [rmv_cm (rmv s b) c a, rmv_cm s b a]
theorem rmv4 (s a b c d : Nat) : rmv (rmv (rmv (rmv s b) c) a) d = rmv (rmv (rmv (rmv s a) d) b) c := by
  rw [rmv3 s a b c, rmv_cm (rmv (rmv s a) b) c d, rmv_cm (rmv s a) b d]
theorem T_all {n : Nat} {g : Nat → Nat → Nat} {T : Nat → Nat} (hn : n ≤ 8) (hP : ∀ i, 1 ≤ i → i < 2 ^ n → PC g n T i) : ∀ s, s < 2 ^ n → ∀ a' b', a' < b' → b' < n → s.testBit a' = true → s.testBit b' = true → g a' b' + T (rmv (rmv s a') b') ≤ T s := by
  have h256 := pow8 hn
  intro s
  induction s using Nat.strongRecOn with
  | ind s ih =>
    intro hs a' b' hab hbn ha hb
    have s0 : s ≠ 0 := by
      intro e
      rw [e, Nat.zero_testBit] at ha
      cases ha
    obtain ⟨l1, l2, l3⟩ := lsb_dec s (by omega) s0
    obtain ⟨p1, p2, p3⟩ := hP s (by omega) hs
    generalize hl : lsb 7 0 s = a at *
    by_cases e : a' = a
    · subst e
      exact p2 b' hab hbn (rmv_t hb (by omega))
    · have haa : a < a' := by
        refine Nat.lt_of_not_le (fun hle => ?_)
        rw [l3 a' (by omega) (by omega)] at ha
        cases ha
      have bs : (rmv (rmv s a') b').testBit a = true := rmv_t (rmv_t l2 (by omega)) (by omega)
      have hlt : rmv (rmv s a') b' < s := Nat.lt_of_le_of_lt (rmv_le _ _) (rmv_lt ha)
      have s1 : rmv (rmv s a') b' ≠ 0 := by
        intro e1
        rw [e1, Nat.zero_testBit] at bs
        cases bs
      have els : lsb 7 0 (rmv (rmv s a') b') = a := lsb_eq (by omega) l1 bs (fun i hi => rmv_f (rmv_f (l3 i (by omega) hi)))
      obtain ⟨q1, q2, q3⟩ := hP (rmv (rmv s a') b') (by omega) (by omega)
      rw [els] at q1 q2 q3
      rcases q3 with q | ⟨c, c1, c2, c3, c4⟩
      · have i1 := ih (rmv s a) (rmv_lt l2) (by have := rmv_lt l2; omega) a' b' hab hbn (rmv_t ha (by omega)) (rmv_t hb (by omega))
        rw [q, rmv3]
        omega
      · obtain ⟨d1, d2⟩ := rmv_e c3
        obtain ⟨d3, d4⟩ := rmv_e d1
        obtain ⟨d5, d6⟩ := rmv_e d3
        have o1 : rmv (rmv s a) c < s := Nat.lt_of_le_of_lt (rmv_le _ _) (rmv_lt l2)
        have i1 := ih (rmv (rmv s a) c) o1 (by omega) a' b' hab hbn (rmv_t (rmv_t ha (by omega)) (fun z => d6 z.symm)) (rmv_t (rmv_t hb (by omega)) (fun z => d4 z.symm))
        have i2 := p2 c c1 c2 (rmv_t d5 d2)
        rw [c4, rmv4]
        omega
theorem T_R {n : Nat} {g : Nat → Nat → Nat} {T R : Nat → Nat} (hn : n ≤ 8) (hT0 : T 0 = 0) (hP : ∀ i, 1 ≤ i → i < 2 ^ n → PC g n T i) (hQ : ∀ i, i < 2 ^ n → QM g n R i) : ∀ s, s < 2 ^ n → R s = T s := by
  have h256 := pow8 hn
  intro s
  induction s using Nat.strongRecOn with
  | ind s ih =>
    intro hs
    obtain ⟨r1, r2⟩ := hQ s hs
    apply Nat.le_antisymm
    · rcases r2 with r | ⟨a, b, q1, q2, q3, q4, q5⟩
      · omega
      · have hlt : rmv (rmv s a) b < s := Nat.lt_of_le_of_lt (rmv_le _ _) (rmv_lt q3)
        rw [q5, ih _ hlt (by omega)]
        exact T_all hn hP s hs a b q1 q2 q3 q4
    · by_cases s0 : s = 0
      · subst s0; omega
      · obtain ⟨l1, l2, l3⟩ := lsb_dec s (by omega) s0
        obtain ⟨p1, p2, p3⟩ := hP s (by omega) hs
        generalize hl : lsb 7 0 s = a at *
        have ho := rmv_lt l2
        rcases p3 with p | ⟨b, b1, b2, b3, b4⟩
        · rw [p, ← ih _ ho (by omega)]
          rcases (hQ (rmv s a) (by omega)).2 with r | ⟨a', b', q1, q2, q3, q4, q5⟩
          · omega
          · obtain ⟨d1, d2⟩ := rmv_e q3
            obtain ⟨d3, d4⟩ := rmv_e q4
            have haa : a < a' := by
              refine Nat.lt_of_not_le (fun hle => ?_)
              rw [l3 a' (by omega) (by omega)] at d1
              cases d1
            have bs : (rmv (rmv s a') b').testBit a = true := rmv_t (rmv_t l2 (by omega)) (by omega)
            have hlt : rmv (rmv s a') b' < s := Nat.lt_of_le_of_lt (rmv_le _ _) (rmv_lt d1)
            have s1 : rmv (rmv s a') b' ≠ 0 := by
              intro e1
              rw [e1, Nat.zero_testBit] at bs
              cases bs
            have els : lsb 7 0 (rmv (rmv s a') b') = a := lsb_eq (by omega) l1 bs (fun i hi => rmv_f (rmv_f (l3 i (by omega) hi)))
            obtain ⟨w1, -, -⟩ := hP (rmv (rmv s a') b') (by omega) (by omega)
            rw [els, rmv3] at w1
            have w2 := r1 a' b' q1 q2 d1 d3
            have w3 : rmv (rmv (rmv s a) a') b' < s := Nat.lt_of_le_of_lt (rmv_le _ _) (Nat.lt_of_le_of_lt (rmv_le _ _) ho)
            rw [q5, ih _ w3 (by omega)]
            rw [ih _ hlt (by omega)] at w2
            omega
        · obtain ⟨d1, d2⟩ := rmv_e b3
          have w2 := r1 a b b1 b2 l2 d1
          have hlt : rmv (rmv s a) b < s := Nat.lt_of_le_of_lt (rmv_le _ _) ho
          rw [ih _ hlt (by omega)] at w2
          omega
theorem weigh_both {k n d mi w t : Nat} {X : XS} {σ : MS} (hk : k < 512) (h : Rel k X σ) (hi : Iv (100 * k) n mi w t (σ 0)) (hd : d ≤ 30) : ∃ (X' : XS) (σ' : MS) (T : Nat → Nat), X5_weighPairs X (nI d) = some X' ∧ X6_findMatches σ (nI d) = some σ' ∧ Rel k X' σ' ∧ σ' 0 = σ 0 ∧ (∀ a b, a < b → b < n → X' 4 0 (8 * a + b) = nI (gN (σ 0) d a b) ∧ σ' 7 (8 * a + b) = nI (gN (σ 0) d a b) ∧ gN (σ 0) d a b ≤ 3120) ∧ (∀ i, i < 2 ^ n → X' 4 1 i = nI (T i) ∧ σ' 8 i = nI (T i) ∧ T i ≤ 3120 * i) := by
  have hn := hi.1.1
  have h1 : σ 0 1 = nI n := hi.2.1.1
  have h256 := pow8 hn
  have hg : ∀ a b, a < b → b < n → gvn (σ 0) a b d = nI (gN (σ 0) d a b) ∧ gN (σ 0) d a b ≤ 3120 := fun a b q1 q2 => gN_ok hi (by omega) q2 (by omega) hd
  have hP := wp_out (k := k) (n := n) (d := d) (v0 := σ 0) hk hn hd h1 (fun A B => ∃ (X' : XS) (σ' : MS) (T : Nat → Nat), A = some X' ∧ B = some σ' ∧ Rel k X' σ' ∧ σ' 0 = σ 0 ∧ (∀ a b, a < b → b < n → X' 4 0 (8 * a + b) = nI (gN (σ 0) d a b) ∧ σ' 7 (8 * a + b) = nI (gN (σ 0) d a b) ∧ gN (σ 0) d a b ≤ 3120) ∧ (∀ i, i < 2 ^ n → X' 4 1 i = nI (T i) ∧ σ' 8 i = nI (T i) ∧ T i ≤ 3120 * i)) (by
    intro X1 σ1 hR h0 hT
    obtain ⟨σ4, T, s1, s2, s3, s4, s5⟩ := solve1 (g := gN (σ 0) d) hn (X1 4) (fun a b q1 q2 => ⟨by rw [← (hg a b q1 q2).1]; exact (hT a b q1 q2 (Or.inl (by omega))).1, (hg a b q1 q2).2⟩)
    have h1' : σ1 0 1 = nI n := by rw [h0]; exact h1
    obtain ⟨σ2, R, r1, r2, r3, r4⟩ := refL (g := gN (σ 0) d) hn (2 ^ n) 0 FU σ1 (fun _ => 0) (by omega) (FU_lt (by omega)) h1' (fun a b q1 q2 => ⟨by rw [← (hg a b q1 q2).1]; exact (hT a b q1 q2 (Or.inl (by omega))).2, (hg a b q1 q2).2⟩) (fun i hi => by omega) (fun i hi => by omega)
    have eq := T_R hn s4 s5 r4
    have hM : FM σ1 σ2 := ⟨r2 0 (by decide), r2 1 (by decide), r2 4 (by decide), r2 12 (by decide), r2 18 (by decide), r2 19 (by decide), r2 20 (by decide), by rw [r2 22 (by decide)], by rw [r2 22 (by decide)]⟩
    refine ⟨va_up X1 4 σ4, σ2, T, ?_, r1, hR.fr (FX.u4 _ _) hM, (r2 0 (by decide)).trans h0, fun a b q1 q2 => ⟨?_, ?_, (hg a b q1 q2).2⟩, fun i hi => ⟨?_, ?_, (s3 i hi).2⟩⟩
    · rw [s1]; rfl
    · rw [va_up_self, s2, ← (hg a b q1 q2).1]; exact (hT a b q1 q2 (Or.inl (by omega))).1
    · rw [r2 7 (by decide), ← (hg a b q1 q2).1]; exact (hT a b q1 q2 (Or.inl (by omega))).2
    · rw [va_up_self]; exact (s3 i hi).1
    · rw [(r3 i hi).1, eq i hi])
  exact hP n 0 FU FU X σ (by omega) (FU_lt (by omega)) (FU_lt (by omega)) h rfl (fun a b q1 q2 q3 => by omega)
theorem st_matched : St_matched Rel := by
  intro k X σ p1 hk h
  obtain ⟨hs, n, mi, w, t, hi⟩ := h.1
  have hn := hi.1.1
  have h1 : σ 0 1 = nI n := hi.2.1.1
  have h256 := pow8 hn
  have h1' : 1 ≤ 2 ^ n := Nat.one_le_two_pow
  unfold X5_matched X6_matched
  have e8 : inr (0 : Int32).toInt (30 : Int32).toInt p1 = inr 0 30 p1 := rfl
  have f8 : inr (0 : Int64).toInt (30 : Int64).toInt p1 = inr 0 30 p1 := rfl
  simp only [out_eq, in32, e8, f8, Option.bind_some, if_bi, bind_et]
  cases hb : inr 0 30 p1
  · exact bf_0 h
  · simp only [Bool.not_true, if_true, Bool.false_eq_true, if_false]
    obtain ⟨d, hd, rfl⟩ := inr_nat (n := 31) (by decide) hb
    obtain ⟨X', σ', T, q1, q2, q3, q4, q5, q6⟩ := weigh_both hk h hi (show d ≤ 30 by omega)
    have h2 : σ' 0 1 = nI n := by rw [q4]; exact h1
    have h4 : X' 0 11 4 = nI n := people5 q3 h2
    obtain ⟨t1, t2, t3⟩ := q6 (2 ^ n - 1) (by omega)
    rw [q1, q2, Option.bind_some, Option.bind_some, h2, h4, (full_dec n (by omega)).2, ai_n (by omega) (by decide), nI_clamp (by omega), t2]
    unfold X1_total
    rw [every1 hn, Option.bind_some, ai_n (by omega) (by decide), nI_clamp (by omega), t1, Option.bind_some]
    exact q3.asks _ rfl rfl
