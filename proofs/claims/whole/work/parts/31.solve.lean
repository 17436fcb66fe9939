/-! PURE 21: the tables of sets: the class's recursion, the reference's -/
def PC (g : Nat → Nat → Nat) (n : Nat) (T : Nat → Nat) (s : Nat) : Prop := T (rmv s (lsb 7 0 s)) ≤ T s ∧ (∀ b, lsb 7 0 s < b → b < n → (rmv s (lsb 7 0 s)).testBit b = true → g (lsb 7 0 s) b + T (rmv (rmv s (lsb 7 0 s)) b) ≤ T s) ∧ (T s = T (rmv s (lsb 7 0 s)) ∨ ∃ b, lsb 7 0 s < b ∧ b < n ∧ (rmv s (lsb 7 0 s)).testBit b = true ∧ T s = g (lsb 7 0 s) b + T (rmv (rmv s (lsb 7 0 s)) b))
def QM (g : Nat → Nat → Nat) (n : Nat) (R : Nat → Nat) (s : Nat) : Prop := (∀ a b, a < b → b < n → s.testBit a = true → s.testBit b = true → g a b + R (rmv (rmv s a) b) ≤ R s) ∧ (R s = 0 ∨ ∃ a b, a < b ∧ b < n ∧ s.testBit a = true ∧ s.testBit b = true ∧ R s = g a b + R (rmv (rmv s a) b))
def tset (T : Nat → Nat) (s c : Nat) : Nat → Nat := fun i => if i = s then c else T i
theorem tset_s (T : Nat → Nat) (s c : Nat) : tset T s c s = c := if_pos rfl
theorem tset_n (T : Nat → Nat) (s c : Nat) {i : Nat} (h : i ≠ s) : tset T s c i = T i := if_neg h
theorem PC_cg {g : Nat → Nat → Nat} {n s : Nat} {T T' : Nat → Nat} (h : ∀ i, i ≤ s → T' i = T i) (hp : PC g n T s) : PC g n T' s := by
  obtain ⟨p1, p2, p3⟩ := hp
  unfold PC
  rw [h s (Nat.le_refl _), h _ (rmv_le s _)]
  refine ⟨p1, fun b h1 h2 h3 => ?_, ?_⟩
  · rw [h _ (Nat.le_trans (rmv_le _ _) (rmv_le _ _))]
    exact p2 b h1 h2 h3
  · rcases p3 with p | ⟨b, h1, h2, h3, h4⟩
    · exact Or.inl p
    · refine Or.inr ⟨b, h1, h2, h3, ?_⟩
      rw [h _ (Nat.le_trans (rmv_le _ _) (rmv_le _ _))]
      exact h4
theorem QM_cg {g : Nat → Nat → Nat} {n s : Nat} {T T' : Nat → Nat} (h : ∀ i, i ≤ s → T' i = T i) (hp : QM g n T s) : QM g n T' s := by
  obtain ⟨p2, p3⟩ := hp
  unfold QM
  rw [h s (Nat.le_refl _)]
  refine ⟨fun a b h1 h2 h3 h4 => ?_, ?_⟩
  · rw [h _ (Nat.le_trans (rmv_le _ _) (rmv_le _ _))]
    exact p2 a b h1 h2 h3 h4
  · rcases p3 with p | ⟨a, b, h1, h2, h3, h4, h5⟩
    · exact Or.inl p
    · refine Or.inr ⟨a, b, h1, h2, h3, h4, ?_⟩
      rw [h _ (Nat.le_trans (rmv_le _ _) (rmv_le _ _))]
      exact h5
theorem least1L {s : Nat} (hs : s < 256) : ∀ (d i f : Nat), i + d = 7 → d < f → X1_leastOf_b2 f (nI s) (nI i) = some (nI (lsb d i s)) := by
  intro d
  induction d with
  | zero =>
    intro i f hi hf
    obtain ⟨g, rfl⟩ : ∃ g, f = g + 1 := ⟨f - 1, by omega⟩
    rw [X1_leastOf_b2, show (7 : Int32) = nI 7 from rfl, le_nI (by omega) (by omega), if_pos (by omega)]; rfl
  | succ d ih =>
    intro i f hi hf
    obtain ⟨g, rfl⟩ : ∃ g, f = g + 1 := ⟨f - 1, by omega⟩
    rw [X1_leastOf_b2, show (7 : Int32) = nI 7 from rfl, le_nI (by omega) (by omega), if_neg (by omega), (bit_dec s hs i (by omega)).1, if_bi, lsb, nI_1, ih (i + 1) g (by omega) (by omega)]
    split <;> rfl
theorem least1 {s : Nat} (hs : s < 256) : X1_leastOf (nI s) = some (nI (lsb 7 0 s)) := least1L hs 7 0 FU rfl (FU_lt (by decide))
theorem every1 {n : Nat} (hn : n ≤ 8) : X1_everybody (nI n) = some (nI (2 ^ n - 1)) := by
  unfold X1_everybody
  rw [(full_dec n (by omega)).2]
theorem bi_1 (b : Bool) {α : Type} (x y : α) : (if bi b = 1 then x else y) = if b then x else y := by cases b <;> rfl
theorem together1 {σ : MS} {a b o : Nat} (ha : a < 8) (hb : b < 8) (ho : o < 256) : X1_together σ (nI a) (nI b) (nI o) = some (σ 0 (8 * a + b) + σ 1 (rmv o b)) := by
  have := rmv_le o b
  unfold X1_together X5_pairNumber
  rw [Option.bind_some, show (8 : Int32) = nI 8 from rfl, pk_mul, nI_add, (bit_dec o ho b hb).2, ai_n (by omega) (by decide), ai_n (by omega) (by decide), nI_clamp (by omega), nI_clamp (by omega)]
theorem max_nI {x y : Nat} (hx : x < 2 ^ 31) (hy : y < 2 ^ 31) : (if nI x < nI y then nI y else nI x) = nI (max x y) := by
  by_cases h : x < y
  · rw [if_pos ((nI_ltI hx hy).mpr h), Nat.max_eq_right (by omega)]
  · rw [if_neg (fun e => h ((nI_ltI hx hy).mp e)), Nat.max_eq_left (by omega)]
theorem pow8 {n : Nat} (hn : n ≤ 8) : 2 ^ n ≤ 256 := Nat.pow_le_pow_right (by decide) hn
theorem solve45 {n s a o : Nat} {g : Nat → Nat → Nat} {T : Nat → Nat} (hn : n ≤ 8) (ha : a < 8) (ho : o < s) (hs : s < 256) (k : MS → Int32 → Int32 → Option MS) {σ : MS} (hg : ∀ b, a < b → b < n → σ 0 (8 * a + b) = nI (g a b) ∧ g a b ≤ 3120) (hT : ∀ i, i < s → σ 1 i = nI (T i) ∧ T i ≤ 3120 * i) : ∀ (e j f tp : Nat), j + e = n → a < j → e < f → tp ≤ 3120 * s → ∃ tp', X1_solve_b45 k f σ (nI n) (nI s) (nI a) (nI o) (nI tp) (nI j) = k (su σ 1 s (nI tp')) (nI n) (nI (s + 1)) ∧ tp ≤ tp' ∧ tp' ≤ 3120 * s ∧ (∀ b, j ≤ b → b < n → o.testBit b = true → g a b + T (rmv o b) ≤ tp') ∧ (tp' = tp ∨ ∃ b, j ≤ b ∧ b < n ∧ o.testBit b = true ∧ tp' = g a b + T (rmv o b)) := by
  intro e
  induction e with
  | zero =>
    intro j f tp hj haj hf htp
    obtain ⟨h, rfl⟩ : ∃ h, f = h + 1 := ⟨f - 1, by omega⟩
    refine ⟨tp, ?_, Nat.le_refl _, htp, fun b h1 h2 _ => by omega, Or.inl rfl⟩
    rw [X1_solve_b45, le_nI (by omega) (by omega), if_pos (by omega), ai_n (by omega) (by decide), nI_clamp (by omega), nI_1]
  | succ e ih =>
    intro j f tp hj haj hf htp
    obtain ⟨h, rfl⟩ : ∃ h, f = h + 1 := ⟨f - 1, by omega⟩
    rw [X1_solve_b45, le_nI (by omega) (by omega), if_neg (show ¬ n ≤ j by omega), (bit_dec o (by omega) j (by omega)).1, bi_1]
    by_cases hb : o.testBit j = true
    · have hr := rmv_lt hb
      obtain ⟨g1, g2⟩ := hg j haj (by omega)
      obtain ⟨t1, t2⟩ := hT (rmv o j) (by omega)
      have hv : g a j + T (rmv o j) ≤ 3120 * s := by omega
      obtain ⟨tp', i1, i2, i3, i4, i5⟩ := ih (j + 1) h (max tp (g a j + T (rmv o j))) (by omega) (by omega) (by omega) (Nat.max_le.mpr ⟨htp, hv⟩)
      refine ⟨tp', ?_, Nat.le_trans (Nat.le_max_left _ _) i2, i3, fun b h1 h2 h3 => ?_, ?_⟩
      · rw [if_pos hb, together1 ha (by omega) (by omega), Option.bind_some, g1, t1, nI_add, max_nI (by omega) (by omega), nI_1]
        exact i1
      · by_cases e1 : b = j
        · subst e1; exact Nat.le_trans (Nat.le_max_right _ _) i2
        · exact i4 b (by omega) h2 h3
      · rcases i5 with p | ⟨b, h1, h2, h3, h4⟩
        · rcases Nat.le_total tp (g a j + T (rmv o j)) with q | q
          · rw [Nat.max_eq_right q] at p
            exact Or.inr ⟨j, Nat.le_refl _, by omega, hb, p⟩
          · rw [Nat.max_eq_left q] at p
            exact Or.inl p
        · exact Or.inr ⟨b, by omega, h2, h3, h4⟩
    · obtain ⟨tp', i1, i2, i3, i4, i5⟩ := ih (j + 1) h tp (by omega) (by omega) (by omega) htp
      refine ⟨tp', ?_, i2, i3, fun b h1 h2 h3 => ?_, ?_⟩
      · rw [if_neg hb, nI_1]; exact i1
      · by_cases e1 : b = j
        · subst e1; exact absurd h3 hb
        · exact i4 b (by omega) h2 h3
      · rcases i5 with p | ⟨b, h1, h2, h3, h4⟩
        · exact Or.inl p
        · exact Or.inr ⟨b, by omega, h2, h3, h4⟩
theorem solveL {n : Nat} {g : Nat → Nat → Nat} (hn : n ≤ 8) : ∀ (e s f : Nat) (σ : MS) (T : Nat → Nat), s + e = 2 ^ n → 1 ≤ s → e < f → (∀ a b, a < b → b < n → σ 0 (8 * a + b) = nI (g a b) ∧ g a b ≤ 3120) → (∀ i, i < s → σ 1 i = nI (T i) ∧ T i ≤ 3120 * i) → T 0 = 0 → (∀ i, 1 ≤ i → i < s → PC g n T i) → ∃ σ' T', X1_solve_b9 f σ (nI n) (nI s) = some σ' ∧ σ' 0 = σ 0 ∧ (∀ i, i < 2 ^ n → σ' 1 i = nI (T' i) ∧ T' i ≤ 3120 * i) ∧ T' 0 = 0 ∧ ∀ i, 1 ≤ i → i < 2 ^ n → PC g n T' i := by
  have h256 := pow8 hn
  intro e
  induction e with
  | zero =>
    intro s f σ T hs h1 hf hg hT h0 hP
    obtain ⟨h, rfl⟩ : ∃ h, f = h + 1 := ⟨f - 1, by omega⟩
    refine ⟨σ, T, ?_, rfl, fun i hi => hT i (by omega), h0, fun i hi1 hi2 => hP i hi1 (by omega)⟩
    rw [X1_solve_b9, every1 hn, Option.bind_some, if_pos (nI_lt (by omega) (by omega))]
  | succ e ih =>
    intro s f σ T hs h1 hf hg hT h0 hP
    obtain ⟨h, rfl⟩ : ∃ h, f = h + 1 := ⟨f - 1, by omega⟩
    obtain ⟨l1, l2, l3⟩ := lsb_dec s (by omega) (by omega)
    have ho := rmv_lt l2
    obtain ⟨o1, o2⟩ := hT (rmv s (lsb 7 0 s)) ho
    obtain ⟨tp, i1, i2, i3, i4, i5⟩ := solve45 (o := rmv s (lsb 7 0 s)) hn l1 ho (by omega) (X1_solve_b9 h) (fun b => hg (lsb 7 0 s) b) hT (n - (lsb 7 0 s + 1)) (lsb 7 0 s + 1) FU (T (rmv s (lsb 7 0 s))) (by
      have : lsb 7 0 s < n := by
        refine Nat.lt_of_not_le (fun hle => ?_)
        have := Nat.testBit_lt_two_pow (Nat.lt_of_lt_of_le (show s < 2 ^ n by omega) (Nat.pow_le_pow_right (by decide) hle))
        rw [l2] at this; cases this
      omega) (by omega) (FU_lt (by omega)) (by omega)
    have hT' : ∀ i, i < s + 1 → su σ 1 s (nI tp) 1 i = nI (tset T s tp i) ∧ tset T s tp i ≤ 3120 * i := by
      intro i hi
      rw [su_at]
      by_cases e1 : i = s
      · subst e1
        rw [if_pos ⟨rfl, rfl⟩, tset_s]
        exact ⟨rfl, i3⟩
      · rw [if_neg (fun z => e1 z.2), tset_n _ _ _ e1]
        exact hT i (by omega)
    have eT : ∀ i, i < s → tset T s tp i = T i := fun i hi => tset_n _ _ _ (by omega)
    have hP' : ∀ i, 1 ≤ i → i < s + 1 → PC g n (tset T s tp) i := by
      intro i hi1 hi2
      by_cases e1 : i = s
      · subst e1
        have r2 : ∀ b, rmv (rmv i (lsb 7 0 i)) b < i := fun b => Nat.lt_of_le_of_lt (rmv_le _ _) ho
        unfold PC
        rw [eT _ ho, tset_s]
        refine ⟨i2, fun b q1 q2 q3 => ?_, ?_⟩
        · rw [eT _ (r2 b)]
          exact i4 b (by omega) q2 q3
        · rcases i5 with p | ⟨b, q1, q2, q3, q4⟩
          · exact Or.inl p
          · refine Or.inr ⟨b, by omega, q2, q3, ?_⟩
            rw [eT _ (r2 b)]
            exact q4
      · exact PC_cg (fun i' hi' => eT i' (by omega)) (hP i hi1 (by omega))
    obtain ⟨σ', T', j1, j2, j3, j4, j5⟩ := ih (s + 1) h (su σ 1 s (nI tp)) (tset T s tp) (by omega) (by omega) (by omega) hg hT' (by rw [eT 0 (by omega)]; exact h0) hP'
    refine ⟨σ', T', ?_, j2, j3, j4, j5⟩
    rw [X1_solve_b9, every1 hn, Option.bind_some, if_neg (nI_nlt (by omega) (by omega)), least1 (by omega), Option.bind_some, (bit_dec s (by omega) _ l1).2, ai_n (by omega) (by decide), nI_clamp (by omega), o1, nI_1, i1]
    exact j1
theorem solve1 {n : Nat} {g : Nat → Nat → Nat} (hn : n ≤ 8) (σ : MS) (hg : ∀ a b, a < b → b < n → σ 0 (8 * a + b) = nI (g a b) ∧ g a b ≤ 3120) : ∃ σ' T', X1_solve σ (nI n) = some σ' ∧ σ' 0 = σ 0 ∧ (∀ i, i < 2 ^ n → σ' 1 i = nI (T' i) ∧ T' i ≤ 3120 * i) ∧ T' 0 = 0 ∧ ∀ i, 1 ≤ i → i < 2 ^ n → PC g n T' i := by
  have h256 := pow8 hn
  have h1 : 1 ≤ 2 ^ n := Nat.one_le_two_pow
  obtain ⟨σ', T', q⟩ := solveL (g := g) hn (2 ^ n - 1) 1 FU (su σ 1 0 0) (fun _ => 0) (by omega) (Nat.le_refl _) (FU_lt (by omega)) hg (fun i hi => by
    have : i = 0 := by omega
    subst this
    exact ⟨rfl, Nat.le_refl _⟩) rfl (fun i q1 q2 => by omega)
  exact ⟨σ', T', q⟩
theorem su_su (σ : MS) (r j : Nat) (x y : Int32) : su (su σ r j x) r j y = su σ r j y := by
  funext k l
  rw [su_at, su_at, su_at]
  by_cases h : k = r ∧ l = j
  · rw [if_pos h, if_pos h]
  · rw [if_neg h, if_neg h, if_neg h]
theorem ref152 {s j c y : Nat} {x3 : Int32} (hs : s < 256) (hc : c < 2 ^ 31) (hy : y < 2 ^ 31) (k : MS → Int32 → Int32 → Int32 → Option MS) (σ : MS) : X6_findMatches_b152 k (su σ 8 s (nI c)) (nI s) x3 (nI j) (nI y) = k (su σ 8 s (nI (max c y))) (nI s) x3 (nI (j + 1)) := by
  unfold X6_findMatches_b152
  have e8 : su σ 8 s (nI c) 8 s = nI c := by rw [su_at, if_pos ⟨rfl, rfl⟩]
  rw [ai_n hs (by decide), nI_clamp (by omega), e8, ai_n hs (by decide), ai_n hs (by decide), ai_n hs (by decide), su_su, su_su, nI_1, le_nI hy hc]
  by_cases h : y ≤ c
  · rw [if_pos h, Nat.max_eq_left h]
  · rw [if_neg h, Nat.max_eq_right (by omega)]
theorem refI {n s a : Nat} {g : Nat → Nat → Nat} {R : Nat → Nat} (hn : n ≤ 8) (ha : a < n) (hs : s < 256) (k : MS → Int32 → Int32 → Option MS) {σ : MS} (h1 : σ 0 1 = nI n) (hg : ∀ b, a < b → b < n → σ 7 (8 * a + b) = nI (g a b) ∧ g a b ≤ 3120) (hR : ∀ i, i < s → σ 8 i = nI (R i) ∧ R i ≤ 3120 * i) : ∀ (e j f c : Nat), j + e = n → a < j → e < f → c ≤ 3120 * s → ∃ c', X6_findMatches_b94 k f (su σ 8 s (nI c)) (nI s) (nI a) (nI j) = k (su σ 8 s (nI c')) (nI s) (nI (a + 1)) ∧ c ≤ c' ∧ c' ≤ 3120 * s ∧ (∀ b, j ≤ b → b < n → s.testBit a = true → s.testBit b = true → g a b + R (rmv (rmv s a) b) ≤ c') ∧ (c' = c ∨ ∃ b, j ≤ b ∧ b < n ∧ s.testBit a = true ∧ s.testBit b = true ∧ c' = g a b + R (rmv (rmv s a) b)) := by
  intro e
  induction e with
  | zero =>
    intro j f c hj haj hf hc
    obtain ⟨h, rfl⟩ : ∃ h, f = h + 1 := ⟨f - 1, by omega⟩
    have h1' : su σ 8 s (nI c) 0 1 = nI n := h1
    refine ⟨c, ?_, Nat.le_refl _, hc, fun b q1 q2 _ _ => by omega, Or.inl rfl⟩
    rw [X6_findMatches_b94, h1', le_nI (by omega) (by omega), if_pos (show n ≤ j by omega), nI_1]
  | succ e ih =>
    intro j f c hj haj hf hc
    obtain ⟨h, rfl⟩ : ∃ h, f = h + 1 := ⟨f - 1, by omega⟩
    have h1' : su σ 8 s (nI c) 0 1 = nI n := h1
    obtain ⟨b1, b2⟩ := bit2_dec a (by omega) j (by omega) s hs
    rw [X6_findMatches_b94, h1', le_nI (by omega) (by omega), if_neg (show ¬ n ≤ j by omega), b2]
    by_cases hb : (s.testBit a && s.testBit j) = true
    · rw [hb] at b1
      have hba : s.testBit a = true := by
        cases q : s.testBit a
        · rw [q] at hb; cases hb
        · rfl
      have hbj : s.testBit j = true := by
        rw [hba] at hb; exact hb
      have hr : rmv (rmv s a) j < s := Nat.lt_of_le_of_lt (rmv_le _ _) (rmv_lt hba)
      obtain ⟨g1, g2⟩ := hg j haj (by omega)
      obtain ⟨t1, t2⟩ := hR _ hr
      have hv : g a j + R (rmv (rmv s a) j) ≤ 3120 * s := by omega
      have e7 : su σ 8 s (nI c) 7 (8 * a + j) = nI (g a j) := g1
      have e8 : su σ 8 s (nI c) 8 (rmv (rmv s a) j) = nI (R (rmv (rmv s a) j)) := by
        rw [su_at, if_neg (by omega)]; exact t1
      obtain ⟨c', i1, i2, i3, i4, i5⟩ := ih (j + 1) h (max c (g a j + R (rmv (rmv s a) j))) (by omega) (by omega) (by omega) (Nat.max_le.mpr ⟨hc, hv⟩)
      refine ⟨c', ?_, Nat.le_trans (Nat.le_max_left _ _) i2, i3, fun b q1 q2 q3 q4 => ?_, ?_⟩
      · rw [if_pos (of_decide_eq_true b1), show (8 : Int32) = nI 8 from rfl, pk_mul, nI_add, ai_n (by omega) (by decide), ai_n (by omega) (by decide), nI_clamp (by omega), nI_clamp (by omega), e7, e8, nI_add, ref152 hs (by omega) (by omega)]
        exact i1
      · by_cases e1 : b = j
        · subst e1; exact Nat.le_trans (Nat.le_max_right _ _) i2
        · exact i4 b (by omega) q2 q3 q4
      · rcases i5 with p | ⟨b, q1, q2, q3, q4, q5⟩
        · rcases Nat.le_total c (g a j + R (rmv (rmv s a) j)) with q | q
          · rw [Nat.max_eq_right q] at p
            exact Or.inr ⟨j, Nat.le_refl _, by omega, hba, hbj, p⟩
          · rw [Nat.max_eq_left q] at p
            exact Or.inl p
        · exact Or.inr ⟨b, by omega, q2, q3, q4, q5⟩
    · have hb' : (s.testBit a && s.testBit j) = false := by simpa using hb
      rw [hb'] at b1
      obtain ⟨c', i1, i2, i3, i4, i5⟩ := ih (j + 1) h c (by omega) (by omega) (by omega) hc
      refine ⟨c', ?_, i2, i3, fun b q1 q2 q3 q4 => ?_, ?_⟩
      · have e0 : X6_findMatches_b152 (X6_findMatches_b94 k h) (su σ 8 s (nI c)) (nI s) (nI a) (nI j) 0 = X6_findMatches_b94 k h (su σ 8 s (nI (max c 0))) (nI s) (nI a) (nI (j + 1)) := ref152 (y := 0) hs (by omega) (by omega) _ σ
        rw [if_neg (of_decide_eq_false b1), e0, Nat.max_eq_left (Nat.zero_le c)]
        exact i1
      · by_cases e1 : b = j
        · subst e1; rw [q3, q4] at hb'; cases hb'
        · exact i4 b (by omega) q2 q3 q4
      · rcases i5 with p | ⟨b, q1, q2, q3, q4, q5⟩
        · exact Or.inl p
        · exact Or.inr ⟨b, by omega, q2, q3, q4, q5⟩
theorem refO {n s : Nat} {g : Nat → Nat → Nat} {R : Nat → Nat} (hn : n ≤ 8) (hs : s < 256) (k : MS → Int32 → Option MS) {σ : MS} (h1 : σ 0 1 = nI n) (hg : ∀ a b, a < b → b < n → σ 7 (8 * a + b) = nI (g a b) ∧ g a b ≤ 3120) (hR : ∀ i, i < s → σ 8 i = nI (R i) ∧ R i ≤ 3120 * i) : ∀ (e a f c : Nat), a + e = n → e < f → c ≤ 3120 * s → ∃ c', X6_findMatches_b79 k f (su σ 8 s (nI c)) (nI s) (nI a) = k (su σ 8 s (nI c')) (nI (s + 1)) ∧ c ≤ c' ∧ c' ≤ 3120 * s ∧ (∀ a' b, a ≤ a' → a' < b → b < n → s.testBit a' = true → s.testBit b = true → g a' b + R (rmv (rmv s a') b) ≤ c') ∧ (c' = c ∨ ∃ a' b, a' < b ∧ b < n ∧ s.testBit a' = true ∧ s.testBit b = true ∧ c' = g a' b + R (rmv (rmv s a') b)) := by
  intro e
  induction e with
  | zero =>
    intro a f c ha hf hc
    obtain ⟨h, rfl⟩ : ∃ h, f = h + 1 := ⟨f - 1, by omega⟩
    have h1' : su σ 8 s (nI c) 0 1 = nI n := h1
    refine ⟨c, ?_, Nat.le_refl _, hc, fun a' b q0 q1 q2 _ _ => by omega, Or.inl rfl⟩
    rw [X6_findMatches_b79, h1', le_nI (by omega) (by omega), if_pos (show n ≤ a by omega), nI_1]
  | succ e ih =>
    intro a f c ha hf hc
    obtain ⟨h, rfl⟩ : ∃ h, f = h + 1 := ⟨f - 1, by omega⟩
    have h1' : su σ 8 s (nI c) 0 1 = nI n := h1
    obtain ⟨c1, i1, i2, i3, i4, i5⟩ := refI hn (show a < n by omega) hs (X6_findMatches_b79 k h) h1 (fun b => hg a b) hR (n - (a + 1)) (a + 1) FU c (by omega) (by omega) (FU_lt (by omega)) hc
    obtain ⟨c2, j1, j2, j3, j4, j5⟩ := ih (a + 1) h c1 (by omega) (by omega) i3
    refine ⟨c2, ?_, Nat.le_trans i2 j2, j3, fun a' b q0 q1 q2 q3 q4 => ?_, ?_⟩
    · rw [X6_findMatches_b79, h1', le_nI (by omega) (by omega), if_neg (show ¬ n ≤ a by omega), nI_1, i1]
      exact j1
    · by_cases e1 : a' = a
      · subst e1; exact Nat.le_trans (i4 b (by omega) q2 q3 q4) j2
      · exact j4 a' b (by omega) q1 q2 q3 q4
    · rcases j5 with p | p
      · rcases i5 with q | ⟨b, q1, q2, q3, q4, q5⟩
        · exact Or.inl (p.trans q)
        · exact Or.inr ⟨a, b, by omega, q2, q3, q4, p.trans q5⟩
      · exact Or.inr p
theorem refL {n : Nat} {g : Nat → Nat → Nat} (hn : n ≤ 8) : ∀ (e s f : Nat) (σ : MS) (R : Nat → Nat), s + e = 2 ^ n → e < f → σ 0 1 = nI n → (∀ a b, a < b → b < n → σ 7 (8 * a + b) = nI (g a b) ∧ g a b ≤ 3120) → (∀ i, i < s → σ 8 i = nI (R i) ∧ R i ≤ 3120 * i) → (∀ i, i < s → QM g n R i) → ∃ σ' R', X6_findMatches_b58 f σ (nI s) = some σ' ∧ (∀ k, k ≠ 8 → σ' k = σ k) ∧ (∀ i, i < 2 ^ n → σ' 8 i = nI (R' i) ∧ R' i ≤ 3120 * i) ∧ ∀ i, i < 2 ^ n → QM g n R' i := by
  have h256 := pow8 hn
  intro e
  induction e with
  | zero =>
    intro s f σ R hs hf h1 hg hR hQ
    obtain ⟨h, rfl⟩ : ∃ h, f = h + 1 := ⟨f - 1, by omega⟩
    refine ⟨σ, R, ?_, fun _ _ => rfl, fun i hi => hR i (by omega), fun i hi => hQ i (by omega)⟩
    rw [X6_findMatches_b58, h1, (full_dec n (by omega)).1, le_nI (by omega) (by omega), if_pos (by omega)]
  | succ e ih =>
    intro s f σ R hs hf h1 hg hR hQ
    obtain ⟨h, rfl⟩ : ∃ h, f = h + 1 := ⟨f - 1, by omega⟩
    obtain ⟨c, i1, -, i3, i4, i5⟩ := refO hn (show s < 256 by omega) (X6_findMatches_b58 h) h1 hg hR n 0 FU 0 (by omega) (FU_lt (by omega)) (Nat.zero_le _)
    have eR : ∀ i, i < s → tset R s c i = R i := fun i hi => tset_n _ _ _ (by omega)
    have hR' : ∀ i, i < s + 1 → su σ 8 s (nI c) 8 i = nI (tset R s c i) ∧ tset R s c i ≤ 3120 * i := by
      intro i hi
      rw [su_at]
      by_cases e1 : i = s
      · subst e1
        rw [if_pos ⟨rfl, rfl⟩, tset_s]
        exact ⟨rfl, i3⟩
      · rw [if_neg (fun z => e1 z.2), tset_n _ _ _ e1]
        exact hR i (by omega)
    have hQ' : ∀ i, i < s + 1 → QM g n (tset R s c) i := by
      intro i hi
      by_cases e1 : i = s
      · subst e1
        have r2 : ∀ a b, i.testBit a = true → rmv (rmv i a) b < i := fun a b hb => Nat.lt_of_le_of_lt (rmv_le _ _) (rmv_lt hb)
        unfold QM
        rw [tset_s]
        refine ⟨fun a b q1 q2 q3 q4 => ?_, ?_⟩
        · rw [eR _ (r2 a b q3)]
          exact i4 a b (Nat.zero_le _) q1 q2 q3 q4
        · rcases i5 with p | ⟨a, b, q1, q2, q3, q4, q5⟩
          · exact Or.inl p
          · refine Or.inr ⟨a, b, q1, q2, q3, q4, ?_⟩
            rw [eR _ (r2 a b q3)]
            exact q5
      · exact QM_cg (fun i' hi' => eR i' (by omega)) (hQ i (by omega))
    obtain ⟨σ', R', j1, j2, j3, j4⟩ := ih (s + 1) h (su σ 8 s (nI c)) (tset R s c) (by omega) (by omega) h1 hg hR' hQ'
    refine ⟨σ', R', ?_, fun k hk => (j2 k hk).trans (su_n hk), j3, j4⟩
    have i1' : X6_findMatches_b79 (X6_findMatches_b58 h) FU (su σ 8 s 0) (nI s) 0 = X6_findMatches_b58 h (su σ 8 s (nI c)) (nI (s + 1)) := i1
    rw [X6_findMatches_b58, h1, (full_dec n (by omega)).1, le_nI (by omega) (by omega), if_neg (by omega), ai_n (by omega) (by decide), nI_clamp (by omega), i1']
    exact j1
