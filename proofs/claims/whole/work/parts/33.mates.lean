/-! PURE 23: matchOf -/
def lmt (g : Nat → Nat → Nat) (T : Nat → Nat) (a o top : Nat) : Nat → Nat → Option Nat
  | 0, _ => none
  | e + 1, j => if o.testBit j = true ∧ g a j + T (rmv o j) = top then some j else lmt g T a o top e (j + 1)
def enc (x : Option Nat) : Int32 := match x with
  | none => -1
  | some b => nI b
theorem lmt_some {g : Nat → Nat → Nat} {T : Nat → Nat} {a o top : Nat} : ∀ (e j b : Nat), lmt g T a o top e j = some b → j ≤ b ∧ b < j + e ∧ o.testBit b = true := by
  intro e
  induction e with
  | zero => intro j b h; cases h
  | succ e ih =>
    intro j b h
    unfold lmt at h
    by_cases c : o.testBit j = true ∧ g a j + T (rmv o j) = top
    · rw [if_pos c] at h
      cases h
      exact ⟨Nat.le_refl _, by omega, c.1⟩
    · rw [if_neg c] at h
      obtain ⟨h1, h2, h3⟩ := ih (j + 1) b h
      exact ⟨by omega, by omega, h3⟩
theorem rmv_id {s a : Nat} (h : s.testBit a = false) : rmv s a = s := by
  unfold rmv
  rw [if_neg (by rw [h]; decide)]
theorem mateN {n a o : Nat} {top : Int32} {τ : MS} (ho : o < 2 ^ n) (hn : n ≤ 8) : ∀ (r j f : Nat), j + r = 8 → n ≤ j → r < f → X1_leastMate_b5 τ f (nI a) (nI o) top (nI j) = some (-1) := by
  have h256 := pow8 hn
  intro r
  induction r with
  | zero =>
    intro j f hj hnj hf
    obtain ⟨h, rfl⟩ : ∃ h, f = h + 1 := ⟨f - 1, by omega⟩
    rw [X1_leastMate_b5, show (8 : Int32) = nI 8 from rfl, le_nI (by omega) (by omega), if_pos (by omega)]
  | succ r ih =>
    intro j f hj hnj hf
    obtain ⟨h, rfl⟩ : ∃ h, f = h + 1 := ⟨f - 1, by omega⟩
    have hb : ¬ o.testBit j = true := fun hb => by have := bit_n ho hb; omega
    rw [X1_leastMate_b5, show (8 : Int32) = nI 8 from rfl, le_nI (by omega) (by omega), if_neg (by omega), (bit_dec o (by omega) j (by omega)).1, bi_1, if_neg hb, nI_1]
    exact ih (j + 1) h (by omega) (by omega) (by omega)
theorem mate1 {n a o top : Nat} {g : Nat → Nat → Nat} {T : Nat → Nat} {τ : MS} (hn : n ≤ 8) (ha : a < n) (ho : o < 2 ^ n) (htop : top < 2 ^ 31) (hg : ∀ b, a < b → b < n → τ 0 (8 * a + b) = nI (g a b) ∧ g a b ≤ 3120) (hT : ∀ i, i < 2 ^ n → τ 1 i = nI (T i) ∧ T i ≤ 3120 * i) : ∀ (e j f : Nat), j + e = n → a < j → e + 8 < f → X1_leastMate_b5 τ f (nI a) (nI o) (nI top) (nI j) = some (enc (lmt g T a o top e j)) := by
  have h256 := pow8 hn
  intro e
  induction e with
  | zero =>
    intro j f hj haj hf
    exact mateN ho hn (8 - j) j f (by omega) (by omega) (by omega)
  | succ e ih =>
    intro j f hj haj hf
    obtain ⟨h, rfl⟩ : ∃ h, f = h + 1 := ⟨f - 1, by omega⟩
    rw [X1_leastMate_b5, show (8 : Int32) = nI 8 from rfl, le_nI (by omega) (by omega), if_neg (by omega), (bit_dec o (by omega) j (by omega)).1, bi_1, lmt]
    by_cases hb : o.testBit j = true
    · have hr := rmv_le o j
      obtain ⟨g1, g2⟩ := hg j haj (by omega)
      obtain ⟨t1, t2⟩ := hT (rmv o j) (by omega)
      rw [if_pos hb, together1 (by omega) (by omega) (by omega), Option.bind_some, g1, t1, nI_add]
      by_cases hv : g a j + T (rmv o j) = top
      · rw [if_pos (by rw [hv]), if_pos ⟨hb, hv⟩]; rfl
      · rw [if_neg (fun z => hv ((nI_eq (by omega) htop).mp z)), if_neg (fun z => hv z.2), nI_1]
        exact ih (j + 1) h (by omega) (by omega) (by omega)
    · rw [if_neg hb, if_neg (fun z => hb z.1), nI_1]
      exact ih (j + 1) h (by omega) (by omega) (by omega)
/-- what the reference's step with one of the people does -/
def stepM (k : MS → Int32 → Int32 → Int32 → Option (Int32 × MS)) (σ : MS) (p left a : Nat) (x : Option Nat) : Option (Int32 × MS) := match x with
  | none => k σ (nI p) (nI (rmv left a)) (nI (a + 1))
  | some b => k (su (su σ 9 a (nI b)) 9 b (nI a)) (nI p) (nI (rmv (rmv left a) b)) (nI (a + 1))
theorem ref108_0 {n p left a j f : Nat} (k : MS → Int32 → Int32 → Int32 → Option (Int32 × MS)) {σ : MS} (hl : left < 256) (ha : a < 8) : X6_matchOf_b108 k (f + 1) σ (nI p) (nI left) (nI a) 0 (nI j) = k σ (nI p) (nI (rmv left a)) (nI (a + 1)) := by
  rw [X6_matchOf_b108]
  unfold X6_matchOf_b211
  rw [(bit_dec left hl a ha).2, nI_1, if_pos (show (0 : Int32) = 0 from rfl)]
  split <;> rfl
theorem ref108 {n p left a : Nat} {g : Nat → Nat → Nat} {T : Nat → Nat} (k : MS → Int32 → Int32 → Int32 → Option (Int32 × MS)) {σ : MS} (hn : n ≤ 8) (ha : a < n) (hl : left < 2 ^ n) (h1 : σ 0 1 = nI n) (hg : ∀ b, a < b → b < n → σ 7 (8 * a + b) = nI (g a b) ∧ g a b ≤ 3120) (hT : ∀ i, i < 2 ^ n → σ 8 i = nI (T i) ∧ T i ≤ 3120 * i) : ∀ (e j f : Nat), j + e = n → a < j → e < f → X6_matchOf_b108 k f σ (nI p) (nI left) (nI a) 1 (nI j) = stepM k σ p left a (lmt g T a (rmv left a) (T left) e j) := by
  have h256 := pow8 hn
  intro e
  induction e with
  | zero =>
    intro j f hj haj hf
    obtain ⟨h, rfl⟩ : ∃ h, f = h + 1 := ⟨f - 1, by omega⟩
    rw [X6_matchOf_b108, h1, le_nI (by omega) (by omega), if_pos (show n ≤ j by omega)]
    unfold X6_matchOf_b211
    rw [(bit_dec left (by omega) a (by omega)).2, nI_1]
    rfl
  | succ e ih =>
    intro j f hj haj hf
    obtain ⟨h, rfl⟩ : ∃ h, f = h + 1 := ⟨f - 1, by omega⟩
    have hbo : (rmv left a).testBit j = left.testBit j := by
      rw [rmv_bit, decide_eq_false (show ¬ j = a by omega)]; simp
    have hra : rmv left a < 256 := Nat.lt_of_le_of_lt (rmv_le _ _) (by omega)
    have hrj : rmv (rmv left a) j < 2 ^ n := Nat.lt_of_le_of_lt (rmv_le _ _) (Nat.lt_of_le_of_lt (rmv_le _ _) hl)
    obtain ⟨g1, g2⟩ := hg j haj (by omega)
    obtain ⟨t1, t2⟩ := hT _ hrj
    obtain ⟨t3, t4⟩ := hT _ hl
    rw [X6_matchOf_b108, h1, le_nI (by omega) (by omega), if_neg (show ¬ n ≤ j by omega), if_neg (show ¬ (1 : Int32) = 0 by decide), (bit_dec left (by omega) j (by omega)).1, bi_1, lmt, hbo]
    by_cases hb : left.testBit j = true
    · rw [if_pos hb, show (8 : Int32) = nI 8 from rfl, pk_mul, nI_add, (bit_dec left (by omega) a (by omega)).2, (bit_dec _ hra j (by omega)).2, ai_n (by omega) (by decide), ai_n (by omega) (by decide), ai_n (by omega) (by decide), nI_clamp (by omega), nI_clamp (by omega), nI_clamp (by omega), g1, t1, t3, nI_add]
      by_cases hv : g a j + T (rmv (rmv left a) j) = T left
      · obtain ⟨h', rfl⟩ : ∃ h', h = h' + 1 := ⟨h - 1, by omega⟩
        rw [if_pos (by rw [hv]), if_pos ⟨hb, hv⟩, ai_n (by omega) (by decide), ai_n (by omega) (by decide), nI_clamp (by omega), nI_clamp (by omega), nI_1, ref108_0 (n := n) k (by omega) (by omega)]
        have e1 : rmv (rmv (rmv left a) j) a = rmv (rmv left a) j := rmv_id (rmv_f (rmv_s left a))
        rw [e1]
        rfl
      · rw [if_neg (fun z => hv ((nI_eq (by omega) (by omega)).mp z)), if_neg (fun z => hv z.2), nI_1]
        exact ih (j + 1) h (by omega) (by omega) (by omega)
    · rw [if_neg hb, if_neg (fun z => hb z.1), nI_1]
      exact ih (j + 1) h (by omega) (by omega) (by omega)
theorem nI_m1 {b : Nat} (h : b < 100) : ¬ nI b = -1 := by
  intro e
  have e1 := congrArg Int32.toInt e
  rw [nI_toInt (by omega)] at e1
  have e2 : (-1 : Int32).toInt = -1 := by decide
  omega
theorem mate_sim {n p : Nat} {g : Nat → Nat → Nat} {T : Nat → Nat} {τ : MS} (hn : n ≤ 8) (hp : p < n) (hg5 : ∀ a b, a < b → b < n → τ 0 (8 * a + b) = nI (g a b) ∧ g a b ≤ 3120) (hT5 : ∀ i, i < 2 ^ n → τ 1 i = nI (T i) ∧ T i ≤ 3120 * i) : ∀ (e a left f5 f6 i : Nat) (σ : MS), a + e = n → left < 2 ^ n → (∀ b, b < a → left.testBit b = false) → i ≤ a → e < f5 → e < f6 → σ 0 1 = nI n → (∀ a b, a < b → b < n → σ 7 (8 * a + b) = nI (g a b) ∧ g a b ≤ 3120) → (∀ i, i < 2 ^ n → σ 8 i = nI (T i) ∧ T i ≤ 3120 * i) → ∃ r σ'', X6_matchOf_b74 f6 σ (nI p) (nI left) (nI a) = some (r, σ'') ∧ (∀ k, k ≠ 9 → σ'' k = σ k) ∧ (left.testBit p = false → r = σ 9 p) ∧ (left.testBit p = true → σ 9 p = -1 → X1_mateOf_b8 τ f5 (nI p) (nI n) (nI left) (nI i) = some r) := by
  have h256 := pow8 hn
  intro e
  induction e with
  | zero =>
    intro a left f5 f6 i σ ha hl hlow hia h5 h6 h1 hg hT
    obtain ⟨g6, rfl⟩ : ∃ f, f6 = f + 1 := ⟨f6 - 1, by omega⟩
    refine ⟨σ 9 p, σ, ?_, fun _ _ => rfl, fun _ => rfl, fun hb => ?_⟩
    · rw [X6_matchOf_b74, h1, le_nI (by omega) (by omega), if_pos (show n ≤ a by omega), ai_n (by omega) (by decide), nI_clamp (by omega)]
    · rw [hlow p (by omega)] at hb; cases hb
  | succ e ih =>
    intro a left f5 f6 i σ ha hl hlow hia h5 h6 h1 hg hT
    obtain ⟨g6, rfl⟩ : ∃ f, f6 = f + 1 := ⟨f6 - 1, by omega⟩
    have hra : rmv left a < 2 ^ n := Nat.lt_of_le_of_lt (rmv_le _ _) hl
    have low' : ∀ b, b < a + 1 → (rmv left a).testBit b = false := by
      intro b hb
      by_cases eb : b = a
      · subst eb; exact rmv_s left b
      · exact rmv_f (hlow b (by omega))
    rw [X6_matchOf_b74, h1, le_nI (by omega) (by omega), if_neg (show ¬ n ≤ a by omega), (bit_dec left (by omega) a (by omega)).1, bi_1]
    unfold X6_matchOf_b100
    by_cases hb : left.testBit a = true
    · rw [if_pos hb, nI_1, ref108 _ hn (show a < n by omega) hl h1 (hg a) hT (n - (a + 1)) (a + 1) FU (by omega) (by omega) (FU_lt (by omega))]
      have hls : lsb 7 0 left = a := lsb_eq (by omega) (by omega) hb hlow
      have hl0 : left ≠ 0 := by
        intro e1
        rw [e1, Nat.zero_testBit] at hb
        cases hb
      obtain ⟨t3, t4⟩ := hT5 left hl
      -- the class's step
      have cls : ∀ g5, X1_mateOf_b8 τ (g5 + 1) (nI p) (nI n) (nI left) (nI i) = if nI a = nI p then some (enc (lmt g T a (rmv left a) (T left) (n - (a + 1)) (a + 1))) else if enc (lmt g T a (rmv left a) (T left) (n - (a + 1)) (a + 1)) = nI p then some (nI a) else if enc (lmt g T a (rmv left a) (T left) (n - (a + 1)) (a + 1)) = -1 then X1_mateOf_b8 τ g5 (nI p) (nI n) (nI (rmv left a)) (nI (i + 1)) else X1_mateOf_b8 τ g5 (nI p) (nI n) (nI (rmv left a) &&& (((1 : Int32) <<< (enc (lmt g T a (rmv left a) (T left) (n - (a + 1)) (a + 1)) &&& 31)) ^^^ (-1 : Int32))) (nI (i + 1)) := by
        intro g5
        have em : X1_leastMate τ (nI a) (nI (rmv left a)) (nI (T left)) = some (enc (lmt g T a (rmv left a) (T left) (n - (a + 1)) (a + 1))) := by
          unfold X1_leastMate
          rw [nI_1]
          exact mate1 hn (by omega) hra (by omega) (hg5 a) hT5 (n - (a + 1)) (a + 1) FU (by omega) (by omega) (FU_lt (by omega))
        rw [X1_mateOf_b8, le_nI (by omega) (by omega), if_neg (show ¬ n ≤ i by omega), if_neg (fun z => hl0 ((nI_eq0 (by omega)).mp z)), least1 (by omega), Option.bind_some, hls, (bit_dec left (by omega) a (by omega)).2, ai_n (by omega) (by decide), nI_clamp (by omega), t3, em, Option.bind_some, nI_1]
      cases hlm : lmt g T a (rmv left a) (T left) (n - (a + 1)) (a + 1) with
      | none =>
        rw [hlm] at cls
        obtain ⟨r, σ'', i1, i2, i3, i4⟩ := ih (a + 1) (rmv left a) (f5 - 1) g6 (i + 1) σ (by omega) hra low' (by omega) (by omega) (by omega) h1 hg hT
        refine ⟨r, σ'', i1, i2, fun hf => i3 (rmv_f hf), fun hbp hw => ?_⟩
        obtain ⟨g5, rfl⟩ : ∃ f, f5 = f + 1 := ⟨f5 - 1, by omega⟩
        rw [cls]
        by_cases hpa : a = p
        · subst hpa
          rw [if_pos rfl, i3 (rmv_s left a), hw]; rfl
        · rw [if_neg (fun z => hpa ((nI_eq (by omega) (by omega)).mp z)), if_neg (fun z => nI_m1 (b := p) (by omega) z.symm), if_pos (show enc none = -1 from rfl)]
          exact i4 (rmv_t hbp (fun z => hpa z.symm)) hw
      | some b =>
        rw [hlm] at cls
        obtain ⟨b1, b2, b3⟩ := lmt_some _ _ _ hlm
        obtain ⟨b4, b5⟩ := rmv_e b3
        have hbn : b < n := bit_n hl b4
        have hrb : rmv (rmv left a) b < 2 ^ n := Nat.lt_of_le_of_lt (rmv_le _ _) hra
        have h1' : su (su σ 9 a (nI b)) 9 b (nI a) 0 1 = nI n := h1
        obtain ⟨r, σ'', i1, i2, i3, i4⟩ := ih (a + 1) (rmv (rmv left a) b) (f5 - 1) g6 (i + 1) (su (su σ 9 a (nI b)) 9 b (nI a)) (by omega) hrb (fun b' hb' => rmv_f (low' b' hb')) (by omega) (by omega) (by omega) h1' hg hT
        have w1 : ∀ q, su (su σ 9 a (nI b)) 9 b (nI a) 9 q = if q = b then nI a else if q = a then nI b else σ 9 q := by
          intro q
          rw [su_at, su_at]
          by_cases q1 : q = b
          · rw [if_pos ⟨rfl, q1⟩, if_pos q1]
          · rw [if_neg (fun z => q1 z.2), if_neg q1]
            by_cases q2 : q = a
            · rw [if_pos ⟨rfl, q2⟩, if_pos q2]
            · rw [if_neg (fun z => q2 z.2), if_neg q2]
        refine ⟨r, σ'', i1, fun k hk => (i2 k hk).trans ((su_n hk).trans (su_n hk)), fun hf => ?_, fun hbp hw => ?_⟩
        · have hpa : p ≠ a := fun z => by rw [z, hb] at hf; cases hf
          have hpb : p ≠ b := fun z => by rw [z, b4] at hf; cases hf
          rw [i3 (rmv_f (rmv_f hf)), w1, if_neg hpb, if_neg hpa]
        · obtain ⟨g5, rfl⟩ : ∃ f, f5 = f + 1 := ⟨f5 - 1, by omega⟩
          rw [cls]
          by_cases hpa : a = p
          · subst hpa
            rw [if_pos rfl, i3 (rmv_f (rmv_s left a)), w1, if_neg (fun z => b5 z.symm), if_pos rfl]; rfl
          · rw [if_neg (fun z => hpa ((nI_eq (by omega) (by omega)).mp z))]
            by_cases hpb : b = p
            · subst hpb
              rw [if_pos (show enc (some b) = nI b from rfl), i3 (rmv_s _ _), w1, if_pos rfl]
            · have ne1 : ¬ enc (some b) = nI p := fun z => hpb ((nI_eq (by omega) (by omega)).mp z)
              have ne2 : ¬ enc (some b) = -1 := nI_m1 (by omega)
              have eb : nI (rmv left a) &&& (((1 : Int32) <<< (enc (some b) &&& 31)) ^^^ (-1 : Int32)) = nI (rmv (rmv left a) b) := (bit_dec (rmv left a) (by omega) b (by omega)).2
              rw [if_neg ne1, if_neg ne2, eb]
              exact i4 (rmv_t (rmv_t hbp (fun z => hpa z.symm)) (fun z => hpb z.symm)) (by rw [w1, if_neg (fun z => hpb z.symm), if_neg (fun z => hpa z.symm)]; exact hw)
    · have hb' : left.testBit a = false := by simpa using hb
      obtain ⟨r, σ'', i1, i2, i3, i4⟩ := ih (a + 1) left f5 g6 i σ (by omega) hl (fun b hb2 => by
        by_cases eb : b = a
        · rw [eb]; exact hb'
        · exact hlow b (by omega)) (by omega) (by omega) (by omega) h1 hg hT
      refine ⟨r, σ'', ?_, i2, i3, i4⟩
      have e0 : X6_matchOf_b108 (X6_matchOf_b74 g6) (1999 + 1) σ (nI p) (nI left) (nI a) 0 (nI (a + 1)) = _ := ref108_0 (n := n) (X6_matchOf_b74 g6) (by omega) (by omega)
      rw [if_neg hb, nI_1]
      have e1 : FU = 1999 + 1 := rfl
      rw [e1, e0, rmv_id hb']
      exact i1
theorem with6 {n p left : Nat} (hn : n ≤ 8) (hp : p < n) : ∀ (e j f : Nat) (σ : MS), j + e = n → e < f → σ 0 1 = nI n → (∀ q, q < j → σ 9 q = -1) → ∃ σ', X6_matchOf_b46 f σ (nI p) (nI left) (nI j) = X6_matchOf_b74 FU σ' (nI p) (nI left) 0 ∧ (∀ k, k ≠ 9 → σ' k = σ k) ∧ ∀ q, q < n → σ' 9 q = -1 := by
  intro e
  induction e with
  | zero =>
    intro j f σ hj hf h1 hw
    obtain ⟨h, rfl⟩ : ∃ h, f = h + 1 := ⟨f - 1, by omega⟩
    exact ⟨σ, by rw [X6_matchOf_b46, h1, le_nI (by omega) (by omega), if_pos (show n ≤ j by omega)], fun _ _ => rfl, fun q hq => hw q (by omega)⟩
  | succ e ih =>
    intro j f σ hj hf h1 hw
    obtain ⟨h, rfl⟩ : ∃ h, f = h + 1 := ⟨f - 1, by omega⟩
    obtain ⟨σ', i1, i2, i3⟩ := ih (j + 1) h (su σ 9 j (-1)) (by omega) (by omega) h1 (fun q hq => by
      rw [su_at]
      by_cases e1 : q = j
      · rw [if_pos ⟨rfl, e1⟩]
      · rw [if_neg (fun z => e1 z.2)]; exact hw q (by omega))
    refine ⟨σ', ?_, fun k hk => (i2 k hk).trans (su_n hk), i3⟩
    rw [X6_matchOf_b46, h1, le_nI (by omega) (by omega), if_neg (show ¬ n ≤ j by omega), ai_n (by omega) (by decide), nI_clamp (by omega), nI_1]
    exact i1
theorem full_bit {n p : Nat} (h : p < n) : (2 ^ n - 1).testBit p = true := by
  rw [Nat.testBit_two_pow_sub_one]
  exact decide_eq_true h
theorem st_matchOf : St_matchOf Rel := by
  intro k X σ p1 p2 hk h
  obtain ⟨hs, n, mi, w, t, hi⟩ := h.1
  have hn := hi.1.1
  have h1 : σ 0 1 = nI n := hi.2.1.1
  have h2 : X 0 11 4 = nI n := by rw [← hs.1.2.1]; exact h1
  have h256 := pow8 hn
  have h1' : 1 ≤ 2 ^ n := Nat.one_le_two_pow
  unfold X5_matchOf X6_matchOf X5_matchOf_b21 X6_matchOf_b20
  have e8 : inr (0 : Int32).toInt (30 : Int32).toInt p2 = inr 0 30 p2 := rfl
  have f8 : inr (0 : Int64).toInt (30 : Int64).toInt p2 = inr 0 30 p2 := rfl
  simp only [out_eq, in32, e8, f8, Option.bind_some, if_bi, isThere4 h2 hn, isPerson6 h1 hn, bind_et]
  cases hpp : isP n p1
  · exact bf_0 h
  · obtain ⟨p, hp, rfl⟩ := isP_ex (by omega) hpp
    cases hb : inr 0 30 p2
    · exact bf_0 h
    · simp only [Bool.not_true, if_true, Bool.false_eq_true, if_false]
      obtain ⟨d, hd, rfl⟩ := inr_nat (n := 31) (by decide) hb
      obtain ⟨X', σ', T, q1, q2, q3, q4, q5, q6⟩ := weigh_both hk h hi (show d ≤ 30 by omega)
      have h2' : σ' 0 1 = nI n := by rw [q4]; exact h1
      have h4 : X' 0 11 4 = nI n := people5 q3 h2'
      obtain ⟨σ1, w1, w2, w3⟩ := with6 (p := p) (left := 2 ^ n - 1) hn hp n 0 FU σ' (by omega) (FU_lt (by omega)) h2' (fun q hq => by omega)
      have r7 : σ1 7 = σ' 7 := w2 7 (by decide)
      have r8 : σ1 8 = σ' 8 := w2 8 (by decide)
      obtain ⟨r, σ'', m1, m2, -, m4⟩ := mate_sim (τ := X' 4) (g := gN (σ 0) d) (T := T) hn hp (fun a b a1 a2 => ⟨(q5 a b a1 a2).1, (q5 a b a1 a2).2.2⟩) (fun i hi2 => ⟨(q6 i hi2).1, (q6 i hi2).2.2⟩) n 0 (2 ^ n - 1) FU FU 0 σ1 (by omega) (by omega) (fun b hb2 => by omega) (Nat.le_refl _) (FU_lt (by omega)) (FU_lt (by omega)) (by rw [w2 0 (by decide)]; exact h2') (fun a b a1 a2 => by rw [r7]; exact (q5 a b a1 a2).2) (fun i hi2 => by rw [r8]; exact (q6 i hi2).2)
      have m5 := m4 (full_bit hp) (w3 p hp)
      have em : X1_mateOf (X' 4) (nI p) (nI n) = some r := by
        unfold X1_mateOf
        rw [every1 hn, Option.bind_some]
        exact m5
      have hM : FM σ' σ'' := by
        have z : ∀ k, k ≠ 9 → σ'' k = σ' k := fun k hk => (m2 k hk).trans (w2 k hk)
        exact ⟨z 0 (by decide), z 1 (by decide), z 4 (by decide), z 12 (by decide), z 18 (by decide), z 19 (by decide), z 20 (by decide), by rw [z 22 (by decide)], by rw [z 22 (by decide)]⟩
      rw [q1, q2, Option.bind_some, Option.bind_some, h2', h4, (full_dec n (by omega)).2, em, Option.bind_some]
      have w1' : X6_matchOf_b46 FU σ' (nI p) (nI (2 ^ n - 1)) 0 = X6_matchOf_b74 FU σ1 (nI p) (nI (2 ^ n - 1)) 0 := w1
      rw [w1']
      exact ⟨r, X', σ'', rfl, m1, (q3.fr (FX.rf X') hM).up⟩
