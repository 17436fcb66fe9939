/-! PURE 20: what each pair gives, in both tables; sets as numbers -/
theorem cms_n {n : Nat} : ∀ (d acc : Nat) {B mi w t : Nat} {v : Nat → Int32}, Iv B n mi w t v → ∃ c : Nat, c ≤ 104 * d ∧ cms d v (nI acc) = nI (acc + c) := by
  intro d
  induction d with
  | zero => intro acc B mi w t v _; exact ⟨0, by omega, rfl⟩
  | succ d ih =>
    intro acc B mi w t v hi
    obtain ⟨c1, h1, e1⟩ := cme_n hi
    obtain ⟨w1, t1, hi1⟩ := iv_nxt hi
    obtain ⟨c2, h2, e2⟩ := ih (acc + c1) hi1
    refine ⟨c1 + c2, by omega, ?_⟩
    rw [cms, e1, nI_add, e2, Nat.add_assoc]
theorem gvn_n {n a b d B mi w t : Nat} {v : Nat → Int32} (hi : Iv B n mi w t v) (ha : a < n) (hb : b < n) (hab : a ≠ b) : ∃ c : Nat, c ≤ 104 * d ∧ gvn v a b d = nI c := by
  obtain ⟨c, h1, h2⟩ := cms_n d 0 (iv_seat hi ha hb hab)
  refine ⟨c, h1, ?_⟩
  unfold gvn
  rw [Nat.zero_add] at h2
  exact h2
def gN (v : Nat → Int32) (d a b : Nat) : Nat := (gvn v a b d).toNatClampNeg
theorem gN_ok {n a b d B mi w t : Nat} {v : Nat → Int32} (hi : Iv B n mi w t v) (ha : a < n) (hb : b < n) (hab : a ≠ b) (hd : d ≤ 30) : gvn v a b d = nI (gN v d a b) ∧ gN v d a b ≤ 3120 := by
  obtain ⟨c, h1, h2⟩ := gvn_n (d := d) hi ha hb hab
  unfold gN
  rw [h2, nI_clamp (by omega)]
  exact ⟨rfl, by omega⟩
theorem gain_b2 {k n a b d : Nat} {X : XS} {σ : MS} (hk : k < 512) (h : Rel k X σ) (hn1 : σ 0 1 = nI n) (hn8 : n ≤ 8) (ha : a < n) (hb : b < n) (hab : a ≠ b) (hd : d ≤ 60) : ∃ τ' c, X5_gain X (nI a) (nI b) (nI d) = some (gvn (σ 0) a b d, va_up X 1 τ') ∧ X6_given σ (nI a) (nI b) (nI d) = some (gvn (σ 0) a b d, bk σ c) ∧ Rel k (va_up X 1 τ') (bk σ c) := by
  obtain ⟨hs, n', mi, w, t, hi⟩ := h.1
  have hm := hi.1.2.1
  have en : n' = n := by
    have h1 : σ 0 1 = nI n' := hi.2.1.1
    rw [hn1] at h1
    have := hi.1.1
    exact ((nI_eq (by omega) (by omega)).mp h1).symm
  subst en
  obtain ⟨τ', e1⟩ := gain5 (d := d) hs hi ha hb hab (by omega) (by omega)
  exact ⟨τ', _, e1, given6 (d := d) hi ha hb hab (by omega), h.tried τ' _⟩
def Tb (v0 : Nat → Int32) (d n a j : Nat) (M σ : MS) : Prop := ∀ a' b', a' < b' → b' < n → (a' < a ∨ (a' = a ∧ b' < j)) → M 0 (8 * a' + b') = gvn v0 a' b' d ∧ σ 7 (8 * a' + b') = gvn v0 a' b' d
theorem fm_7 (σ : MS) (j : Nat) (x : Int32) : FM σ (su σ 7 j x) := ⟨rfl, rfl, rfl, rfl, rfl, rfl, rfl, rfl, rfl⟩
theorem fm_8 (σ : MS) (j : Nat) (x : Int32) : FM σ (su σ 8 j x) := ⟨rfl, rfl, rfl, rfl, rfl, rfl, rfl, rfl, rfl⟩
theorem fm_9 (σ : MS) (j : Nat) (x : Int32) : FM σ (su σ 9 j x) := ⟨rfl, rfl, rfl, rfl, rfl, rfl, rfl, rfl, rfl⟩
theorem wp_in {k n d a : Nat} {v0 : Nat → Int32} (hk : k < 512) (hn8 : n ≤ 8) (hd : d ≤ 30) (ha : a < n) (h1 : v0 1 = nI n) (k5 : XS → Int32 → Int32 → Option XS) (k6 : MS → Int32 → Int32 → Option MS) (P : Option XS → Option MS → Prop) (hK : ∀ (X : XS) (σ : MS), Rel k X σ → σ 0 = v0 → Tb v0 d n a n (X 4) σ → P (k5 X (nI d) (nI (a + 1))) (k6 σ (nI d) (nI (a + 1)))) : ∀ (e j f5 f6 : Nat) (X : XS) (σ : MS), j + e = n → a < j → e < f5 → e < f6 → Rel k X σ → σ 0 = v0 → Tb v0 d n a j (X 4) σ → P (X5_weighPairs_b17 k5 f5 X (nI d) (nI a) (nI j)) (X6_findMatches_b16 k6 f6 σ (nI d) (nI a) (nI j)) := by
  intro e
  induction e with
  | zero =>
    intro j f5 f6 X σ hj haj h5 h6 hR h0 hT
    obtain ⟨g5, rfl⟩ : ∃ f, f5 = f + 1 := ⟨f5 - 1, by omega⟩
    obtain ⟨g6, rfl⟩ : ∃ f, f6 = f + 1 := ⟨f6 - 1, by omega⟩
    have h1' : σ 0 1 = nI n := by rw [h0]; exact h1
    rw [X5_weighPairs_b17, X6_findMatches_b16, people5 hR h1', h1', le_nI (by omega) (by omega), le_nI (by omega) (by omega), if_pos (show n ≤ j by omega), if_pos (show n ≤ j by omega), nI_1]
    have ej : j = n := by omega
    subst ej
    exact hK X σ hR h0 hT
  | succ e ih =>
    intro j f5 f6 X σ hj haj h5 h6 hR h0 hT
    obtain ⟨g5, rfl⟩ : ∃ f, f5 = f + 1 := ⟨f5 - 1, by omega⟩
    obtain ⟨g6, rfl⟩ : ∃ f, f6 = f + 1 := ⟨f6 - 1, by omega⟩
    have h1' : σ 0 1 = nI n := by rw [h0]; exact h1
    obtain ⟨τ', c, q1, q2, hR'⟩ := gain_b2 hk hR h1' hn8 ha (show j < n by omega) (by omega) (show d ≤ 60 by omega)
    rw [h0] at q1 q2
    have ew : X1_weigh (va_up X 1 τ' 4) (nI a) (nI j) (gvn v0 a j d) = some (su (X 4) 0 (8 * a + j) (gvn v0 a j d)) := by
      unfold X1_weigh X5_pairNumber
      rw [Option.bind_some, show (8 : Int32) = nI 8 from rfl, pk_mul, nI_add, ai_n (by omega) (by decide), nI_clamp (by omega), va_up_ne _ _ (show (4 : Nat) ≠ 1 by decide)]
    rw [X5_weighPairs_b17, X6_findMatches_b16, people5 hR h1', h1', le_nI (by omega) (by omega), le_nI (by omega) (by omega), if_neg (show ¬ n ≤ j by omega), if_neg (show ¬ n ≤ j by omega), q1, q2, Option.bind_some, Option.bind_some, ew, Option.bind_some, show (8 : Int32) = nI 8 from rfl, pk_mul, nI_add, ai_n (by omega) (by decide), nI_clamp (by omega), nI_1]
    refine ih (j + 1) g5 g6 _ _ (by omega) (by omega) (by omega) (by omega) (hR'.fr (FX.u4 _ _) (fm_7 _ _ _)) h0 ?_
    intro a' b' hab hbn hdone
    rw [va_up_self]
    have r7 : su (bk σ c) 7 (8 * a + j) (gvn v0 a j d) 7 (8 * a' + b') = if 8 * a' + b' = 8 * a + j then gvn v0 a j d else σ 7 (8 * a' + b') := by
      rw [su_at]
      by_cases e1 : 8 * a' + b' = 8 * a + j
      · rw [if_pos ⟨rfl, e1⟩, if_pos e1]
      · rw [if_neg (fun z => e1 z.2), if_neg e1]; rfl
    have r4 : su (X 4) 0 (8 * a + j) (gvn v0 a j d) 0 (8 * a' + b') = if 8 * a' + b' = 8 * a + j then gvn v0 a j d else X 4 0 (8 * a' + b') := by
      rw [su_at]
      by_cases e1 : 8 * a' + b' = 8 * a + j
      · rw [if_pos ⟨rfl, e1⟩, if_pos e1]
      · rw [if_neg (fun z => e1 z.2), if_neg e1]
    rw [r7, r4]
    by_cases e1 : 8 * a' + b' = 8 * a + j
    · have ea : a' = a := by omega
      have eb : b' = j := by omega
      subst ea; subst eb
      rw [if_pos rfl, if_pos rfl]
      exact ⟨rfl, rfl⟩
    · rw [if_neg e1, if_neg e1]
      refine hT a' b' hab hbn ?_
      rcases hdone with h | ⟨h, h'⟩
      · exact Or.inl h
      · refine Or.inr ⟨h, ?_⟩
        have : b' ≠ j := fun z => e1 (by rw [h, z])
        omega
theorem wp_out {k n d : Nat} {v0 : Nat → Int32} (hk : k < 512) (hn8 : n ≤ 8) (hd : d ≤ 30) (h1 : v0 1 = nI n) (P : Option XS → Option MS → Prop) (hP : ∀ (X : XS) (σ : MS), Rel k X σ → σ 0 = v0 → Tb v0 d n n n (X 4) σ → P ((X1_solve (X 4) (nI n)).bind fun s8 => some (va_up X 4 s8)) (X6_findMatches_b58 FU σ 0)) : ∀ (e a f5 f6 : Nat) (X : XS) (σ : MS), a + e = n → e < f5 → e < f6 → Rel k X σ → σ 0 = v0 → Tb v0 d n a a (X 4) σ → P (X5_weighPairs_b2 f5 X (nI d) (nI a)) (X6_findMatches_b2 f6 σ (nI d) (nI a)) := by
  intro e
  induction e with
  | zero =>
    intro a f5 f6 X σ ha h5 h6 hR h0 hT
    obtain ⟨g5, rfl⟩ : ∃ f, f5 = f + 1 := ⟨f5 - 1, by omega⟩
    obtain ⟨g6, rfl⟩ : ∃ f, f6 = f + 1 := ⟨f6 - 1, by omega⟩
    have h1' : σ 0 1 = nI n := by rw [h0]; exact h1
    rw [X5_weighPairs_b2, X6_findMatches_b2, people5 hR h1', h1', le_nI (by omega) (by omega), le_nI (by omega) (by omega), if_pos (show n ≤ a by omega), if_pos (show n ≤ a by omega)]
    have ea : a = n := by omega
    subst ea
    exact hP X σ hR h0 hT
  | succ e ih =>
    intro a f5 f6 X σ ha h5 h6 hR h0 hT
    obtain ⟨g5, rfl⟩ : ∃ f, f5 = f + 1 := ⟨f5 - 1, by omega⟩
    obtain ⟨g6, rfl⟩ : ∃ f, f6 = f + 1 := ⟨f6 - 1, by omega⟩
    have h1' : σ 0 1 = nI n := by rw [h0]; exact h1
    rw [X5_weighPairs_b2, X6_findMatches_b2, people5 hR h1', h1', le_nI (by omega) (by omega), le_nI (by omega) (by omega), if_neg (show ¬ n ≤ a by omega), if_neg (show ¬ n ≤ a by omega), nI_1]
    refine wp_in hk hn8 hd (show a < n by omega) h1 _ _ P (fun X σ hR h0 hT => ?_) (n - (a + 1)) (a + 1) FU FU X σ (by omega) (by omega) (FU_lt (by omega)) (FU_lt (by omega)) hR h0 (fun a' b' q1 q2 q3 => hT a' b' q1 q2 (by omega))
    exact ih (a + 1) g5 g6 X σ (by omega) (by omega) (by omega) hR h0 (fun a' b' q1 q2 q3 => hT a' b' q1 q2 (by omega))
/-- sets of people as numbers -/
def rmv (s a : Nat) : Nat := if s.testBit a then s ^^^ 2 ^ a else s
theorem rmv_bit (s a i : Nat) : (rmv s a).testBit i = (s.testBit i && !decide (i = a)) := by
  unfold rmv
  by_cases h : s.testBit a = true
  · rw [if_pos h, Nat.testBit_xor, Nat.testBit_two_pow]
    by_cases e : i = a
    · subst e; rw [h]; simp
    · have e2 : ¬ a = i := fun z => e z.symm
      rw [decide_eq_false e, decide_eq_false e2]; simp
  · rw [if_neg h]
    by_cases e : i = a
    · subst e
      have h2 : s.testBit i = false := by simpa using h
      rw [h2]; rfl
    · rw [decide_eq_false e]; simp
theorem rmv_cm (s a b : Nat) : rmv (rmv s a) b = rmv (rmv s b) a := by
  apply Nat.eq_of_testBit_eq
  intro i
  rw [rmv_bit, rmv_bit, rmv_bit, rmv_bit]
  cases s.testBit i <;> cases decide (i = a) <;> cases decide (i = b) <;> rfl
theorem rmv_le (s a : Nat) : rmv s a ≤ s := by
  apply Nat.le_of_testBit
  intro i h
  rw [rmv_bit] at h
  cases hs : s.testBit i
  · rw [hs] at h; cases h
  · rfl
theorem rmv_lt {s a : Nat} (h : s.testBit a = true) : rmv s a < s := by
  refine Nat.lt_of_le_of_ne (rmv_le s a) (fun e => ?_)
  have := rmv_bit s a a
  rw [e, h] at this
  simp at this
def lsb : Nat → Nat → Nat → Nat
  | 0, i, _ => i
  | d + 1, i, s => if s.testBit i then i else lsb d (i + 1) s
theorem lsb_dec : ∀ s, s < 256 → s ≠ 0 → lsb 7 0 s < 8 ∧ s.testBit (lsb 7 0 s) = true ∧ ∀ i, i < 8 → i < lsb 7 0 s → s.testBit i = false := by decide +kernel
theorem bit_dec : ∀ s, s < 256 → ∀ a, a < 8 → ((nI s >>> (nI a &&& 31)) &&& (1 : Int32)) = bi (s.testBit a) ∧ (nI s &&& (((1 : Int32) <<< (nI a &&& 31)) ^^^ (-1 : Int32))) = nI (rmv s a) := by decide +kernel
theorem full_dec : ∀ n, n < 9 → ((1 : Int32) <<< (nI n &&& 31)) = nI (2 ^ n) ∧ ((1 : Int32) <<< (nI n &&& 31)) - 1 = nI (2 ^ n - 1) := by decide +kernel
theorem bit2_dec : ∀ a, a < 8 → ∀ b, b < 8 → ∀ s, s < 256 → (decide ((nI s &&& (((1 : Int32) <<< (nI a &&& 31)) ||| ((1 : Int32) <<< (nI b &&& 31)))) = (((1 : Int32) <<< (nI a &&& 31)) ||| ((1 : Int32) <<< (nI b &&& 31)))) = (s.testBit a && s.testBit b)) ∧ (nI s &&& ((((1 : Int32) <<< (nI a &&& 31)) ||| ((1 : Int32) <<< (nI b &&& 31))) ^^^ (-1 : Int32))) = nI (rmv (rmv s a) b) := by decide +kernel
