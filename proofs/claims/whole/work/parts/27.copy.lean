/-! PURE 17: copy, load, judge -/
theorem i32_0 : (0 : Int32).toInt = 0 := by decide
theorem lt_i {x y : Int32} : x < y ↔ x.toInt < y.toInt := Int32.lt_iff_toInt_lt
theorem le_i {x y : Int32} : x ≤ y ↔ x.toInt ≤ y.toInt := Int32.le_iff_toInt_le
theorem sub_i {sz : Nat} (hsz : sz ≤ 40) {x : Int32} (hx : 0 ≤ x.toInt) : (nI sz - x).toInt = (sz : Int) - x.toInt := by
  rw [Int32.toInt_sub, nI_toInt (by omega)]
  have h := Int32.toInt_lt x
  exact Int.bmod_eq_of_le (by omega) (by omega)
theorem range3 {η : MS} {sz : Nat} (hsz : sz ≤ 40) (h2 : η 3 2 = nI sz) (a m : Int32) : X3_hasRange η a m = some (bi (decide (0 ≤ a.toInt ∧ 0 ≤ m.toInt ∧ a.toInt + m.toInt ≤ sz))) := by
  have es : (nI sz).toInt = (sz : Int) := nI_toInt (by omega)
  unfold X3_hasRange
  rw [h2]
  by_cases c1 : a < (0 : Int32)
  · have := lt_i.mp c1
    rw [i32_0] at this
    rw [if_pos c1, decide_eq_false (by omega)]; rfl
  · have d1 : ¬ a.toInt < 0 := fun e => c1 (lt_i.mpr (by rw [i32_0]; exact e))
    rw [if_neg c1]
    by_cases c2 : m < (0 : Int32)
    · have := lt_i.mp c2
      rw [i32_0] at this
      rw [if_pos c2, decide_eq_false (by omega)]; rfl
    · have d2 : ¬ m.toInt < 0 := fun e => c2 (lt_i.mpr (by rw [i32_0]; exact e))
      rw [if_neg c2]
      by_cases c3 : nI sz < m
      · have := lt_i.mp c3
        rw [es] at this
        rw [if_pos c3, decide_eq_false (by omega)]; rfl
      · have d3 : ¬ (sz : Int) < m.toInt := fun e => c3 (lt_i.mpr (by rw [es]; exact e))
        rw [if_neg c3]
        by_cases c4 : nI sz - m < a
        · have := lt_i.mp c4
          rw [sub_i hsz (by omega)] at this
          rw [if_pos c4, decide_eq_false (by omega)]; rfl
        · have d4 : ¬ (sz : Int) - m.toInt < a.toInt := fun e => c4 (lt_i.mpr (by rw [sub_i hsz (by omega)]; exact e))
          rw [if_neg c4, decide_eq_true (by omega)]; rfl
theorem copyL2 {t b d : Nat} (ht : t < 4) (hb : b + d ≤ 40) : ∀ (e j fuel : Nat) (σ : MS), j + e = d → e < fuel → ∃ σ2, X6_copy_b158 fuel σ (nI t) (nI b) (nI d) (nI j) = some (nI d, σ2) ∧ (∀ k, k ≠ 20 → σ2 k = σ k) ∧ (∀ i, j ≤ i → i < d → σ2 20 (40 * t + b + i) = σ 21 i) ∧ (∀ q, q < 40 * t + b + j ∨ 40 * t + b + d ≤ q → σ2 20 q = σ 20 q) := by
  intro e
  induction e with
  | zero =>
    intro j fuel σ hj hf
    obtain ⟨f, rfl⟩ : ∃ f, fuel = f + 1 := ⟨fuel - 1, by omega⟩
    exact ⟨σ, by rw [X6_copy_b158, le_nI (by omega) (by omega), if_pos (by omega)], fun _ _ => rfl, fun i h1 h2 => by omega, fun _ _ => rfl⟩
  | succ e ih =>
    intro j fuel σ hj hf
    obtain ⟨f, rfl⟩ : ∃ f, fuel = f + 1 := ⟨fuel - 1, by omega⟩
    obtain ⟨σ2, q1, q2, q3, q4⟩ := ih (j + 1) f (su σ 20 (40 * t + b + j) (σ 21 j)) (by omega) (by omega)
    refine ⟨σ2, ?_, fun k hk => ?_, fun i h1 h2 => ?_, fun q hq => ?_⟩
    · rw [X6_copy_b158, le_nI (by omega) (by omega), if_neg (by omega), show (40 : Int32) = nI 40 from rfl, pk_mul, nI_add, nI_add, ai_n (by omega) (by decide), ai_n (by omega) (by decide), nI_clamp (by omega), nI_clamp (by omega), nI_1]
      exact q1
    · rw [q2 k hk]; exact su_n hk
    · by_cases e1 : i = j
      · subst e1
        rw [q4 _ (Or.inl (by omega)), su_at, if_pos ⟨rfl, rfl⟩]
      · rw [q3 i (by omega) h2]; rfl
    · rw [q4 q (by omega), su_at, if_neg (by omega)]
theorem copyL1 {s a t b d : Nat} (hs : s < 4) (ha : a + d ≤ 40) : ∀ (e j fuel : Nat) (σ : MS), j + e = d → e < fuel → ∃ σ1, X6_copy_b121 fuel σ (nI s) (nI a) (nI t) (nI b) (nI d) (nI j) = X6_copy_b158 FU σ1 (nI t) (nI b) (nI d) (nI 0) ∧ (∀ k, k ≠ 21 → σ1 k = σ k) ∧ (∀ i, j ≤ i → i < d → σ1 21 i = σ 20 (40 * s + a + i)) ∧ (∀ i, i < j → σ1 21 i = σ 21 i) := by
  intro e
  induction e with
  | zero =>
    intro j fuel σ hj hf
    obtain ⟨f, rfl⟩ : ∃ f, fuel = f + 1 := ⟨fuel - 1, by omega⟩
    exact ⟨σ, by rw [X6_copy_b121, le_nI (by omega) (by omega), if_pos (by omega)]; rfl, fun _ _ => rfl, fun i h1 h2 => by omega, fun _ _ => rfl⟩
  | succ e ih =>
    intro j fuel σ hj hf
    obtain ⟨f, rfl⟩ : ∃ f, fuel = f + 1 := ⟨fuel - 1, by omega⟩
    obtain ⟨σ1, q1, q2, q3, q4⟩ := ih (j + 1) f (su σ 21 j (σ 20 (40 * s + a + j))) (by omega) (by omega)
    refine ⟨σ1, ?_, fun k hk => ?_, fun i h1 h2 => ?_, fun i hi => ?_⟩
    · rw [X6_copy_b121, le_nI (by omega) (by omega), if_neg (by omega), show (40 : Int32) = nI 40 from rfl, pk_mul, nI_add, nI_add, ai_n (by omega) (by decide), ai_n (by omega) (by decide), nI_clamp (by omega), nI_clamp (by omega), nI_1]
      exact q1
    · rw [q2 k hk]; exact su_n hk
    · by_cases e1 : i = j
      · subst e1
        rw [q4 _ (by omega), su_at, if_pos ⟨rfl, rfl⟩]
      · rw [q3 i (by omega) h2]; rfl
    · rw [q4 i (by omega), su_at, if_neg (by omega)]
theorem cpk_n {α : Type} {a b d : Nat} {x : Option α} (ha : a + d ≤ 40) (hb : b + d ≤ 40) : cpk (nI a) (nI b) (nI d) x = x := by
  unfold cpk
  rw [if_neg]
  rw [nI_clamp (by omega), nI_clamp (by omega), nI_clamp (by omega)]
  rintro (h | h | h | h | h)
  · exact nI_pos (by omega) h
  · exact nI_pos (by omega) h
  · exact nI_pos (by omega) h
  · omega
  · omega
theorem st_copy : St_copy Rel := by
  intro k X σ p1 p2 p3 p4 p5 hk h
  unfold X5_copy X6_copy X5_copy_b111 X5_copy_b45 X5_copy_b14 X6_copy_b111 X6_copy_b39 X6_copy_b14
  simp only [noSheet5, isOne6, missing3, Option.bind_some, if_bi, bind_et]
  cases hp : inr 0 3 p1
  · exact bf_0 h
  · obtain ⟨s, hs, rfl⟩ := inr_nat (n := 4) (by decide) hp
    cases hp3 : inr 0 3 p3
    · exact bf_0 h
    · obtain ⟨t, ht, rfl⟩ := inr_nat (n := 4) (by decide) hp3
      obtain ⟨b1, b2, sz, b3, b4, b5, b6⟩ := h.2.2.2.2 s hs
      obtain ⟨c1, c2, tz, c3, c4, c5, c6⟩ := h.2.2.2.2 t ht
      simp only [Bool.not_true, if_true, Bool.false_eq_true, if_false, ai_n hs (show 4 < 2 ^ 31 by decide), ai_n ht (show 4 < 2 ^ 31 by decide), nI_clamp (show s < 2 ^ 31 by omega), nI_clamp (show t < 2 ^ 31 by omega), b1, c1, decide_eq_true_eq, b5, c5]
      by_cases z1 : σ 18 s = 0
      · simp only [if_pos z1]; exact bf_5 h
      · simp only [if_neg z1]
        by_cases z2 : σ 18 t = 0
        · simp only [if_pos z2]; exact bf_5 h
        · simp only [if_neg z2]
          by_cases z3 : σ 18 s = σ 18 t
          · simp only [if_pos z3, range3 b3 b4, range3 c3 c4, Option.bind_some, if_bi, decide_eq_true_eq]
            have es : (nI sz).toInt = (sz : Int) := nI_toInt (by omega)
            have et : (nI tz).toInt = (tz : Int) := nI_toInt (by omega)
            by_cases ok : (0 ≤ p2.toInt ∧ 0 ≤ p5.toInt ∧ p2.toInt + p5.toInt ≤ sz) ∧ (0 ≤ p4.toInt ∧ 0 ≤ p5.toInt ∧ p4.toInt + p5.toInt ≤ tz)
            · obtain ⟨ok1, ok2⟩ := ok
              simp only [if_pos ok1, if_pos ok2]
              obtain ⟨a, ha, rfl⟩ := inr_nat (n := 41) (x := p2) (by decide) (decide_eq_true (by omega))
              obtain ⟨b, hb, rfl⟩ := inr_nat (n := 41) (x := p4) (by decide) (decide_eq_true (by omega))
              obtain ⟨d, hd, rfl⟩ := inr_nat (n := 41) (x := p5) (by decide) (decide_eq_true (by omega))
              rw [nI_toInt (by omega), nI_toInt (by omega)] at ok1 ok2
              rw [if_neg (nI_pos (by omega)), if_neg (nI_pos (by omega)), if_neg (nI_pos (by omega)), cpk_n (by omega) (by omega), nI_clamp (by omega), nI_clamp (by omega), nI_clamp (by omega), pk_sub (by omega), pk_sub (by omega), if_neg (nI_nlt (by omega) (by omega)), if_pos (nI_le (by omega) (by omega))]
              obtain ⟨σ1, q1, q2, q3, -⟩ := copyL1 (t := t) (b := b) hs (show a + d ≤ 40 by omega) d 0 FU σ (by omega) (FU_lt (by omega))
              obtain ⟨σ2, r1, r2, r3, r4⟩ := copyL2 ht (show b + d ≤ 40 by omega) d 0 FU σ1 (by omega) (FU_lt (by omega))
              have n0 : (0 : Int32) = nI 0 := rfl
              rw [n0, q1, r1]
              have e20 : ∀ q, σ1 20 q = σ 20 q := fun q => by rw [q2 20 (by decide)]
              have e18 : σ2 18 = σ 18 := (r2 18 (by decide)).trans (q2 18 (by decide))
              have e19 : σ2 19 = σ 19 := (r2 19 (by decide)).trans (q2 19 (by decide))
              refine ⟨nI d, _, σ2, rfl, rfl, h.setSh ht _ ?_ ?_ ⟨(r2 0 (by decide)).trans (q2 0 (by decide)), (r2 1 (by decide)).trans (q2 1 (by decide)), (r2 4 (by decide)).trans (q2 4 (by decide)), (r2 12 (by decide)).trans (q2 12 (by decide)), ?_, ?_⟩⟩
              · rw [e18, e19]
                refine ⟨c1, c2, tz, c3, c4, c5, fun j hj => ?_⟩
                show va_cpy (X (5 + s) 0) (X (5 + t) 0) a b d j = σ2 20 (40 * t + j)
                by_cases hin : b ≤ j ∧ j < b + d
                · rw [pk_cpy_in hin.1 hin.2, b6 _ (by omega)]
                  have e1 := r3 (j - b) (by omega) (by omega)
                  rw [show 40 * t + b + (j - b) = 40 * t + j by omega] at e1
                  rw [e1, q3 (j - b) (by omega) (by omega)]
                  show σ 20 (40 * s + (a + (j - b))) = _
                  rw [show 40 * s + (a + (j - b)) = 40 * s + a + (j - b) by omega]
                · rw [pk_cpy_out (by omega), c6 j hj, r4 _ (by omega), e20]
              · intro s' hs' hne
                rw [e18, e19]
                exact ⟨rfl, rfl, fun j hj => by rw [r4 _ (by omega), e20]⟩
              · rw [r2 22 (by decide), q2 22 (by decide)]
              · rw [r2 22 (by decide), q2 22 (by decide)]
            · have e5 : (if 0 ≤ p2.toInt ∧ 0 ≤ p5.toInt ∧ p2.toInt + p5.toInt ≤ sz then (if 0 ≤ p4.toInt ∧ 0 ≤ p5.toInt ∧ p4.toInt + p5.toInt ≤ tz then cpk p2 p4 p5 (some (p5, va_up X (5 + t) (sr (X (5 + t)) 0 (va_cpy (X (5 + s) 0) (X (5 + t) 0) p2.toNatClampNeg p4.toNatClampNeg p5.toNatClampNeg)))) else X5_found X (-1000001)) else X5_found X (-1000001)) = X5_found X (-1000001) := by
                by_cases g1 : 0 ≤ p2.toInt ∧ 0 ≤ p5.toInt ∧ p2.toInt + p5.toInt ≤ sz
                · rw [if_pos g1, if_neg (fun g2 => ok ⟨g1, g2⟩)]
                · rw [if_neg g1]
              have e6 : (if p2 < 0 then X6_finds σ (-1000001) else if p4 < 0 then X6_finds σ (-1000001) else if p5 < 0 then X6_finds σ (-1000001) else if nI sz - p2 < p5 then X6_finds σ (-1000001) else if p5 ≤ nI tz - p4 then X6_copy_b121 FU σ (nI s) p2 (nI t) p4 p5 0 else X6_finds σ (-1000001)) = X6_finds σ (-1000001) := by
                by_cases g1 : p2 < (0 : Int32)
                · rw [if_pos g1]
                · rw [if_neg g1]
                  have d1 : ¬ p2.toInt < 0 := fun e => g1 (lt_i.mpr (by rw [i32_0]; exact e))
                  by_cases g2 : p4 < (0 : Int32)
                  · rw [if_pos g2]
                  · rw [if_neg g2]
                    have d2 : ¬ p4.toInt < 0 := fun e => g2 (lt_i.mpr (by rw [i32_0]; exact e))
                    by_cases g3 : p5 < (0 : Int32)
                    · rw [if_pos g3]
                    · rw [if_neg g3]
                      have d3 : ¬ p5.toInt < 0 := fun e => g3 (lt_i.mpr (by rw [i32_0]; exact e))
                      by_cases g4 : nI sz - p2 < p5
                      · rw [if_pos g4]
                      · rw [if_neg g4]
                        have d4 : ¬ (sz : Int) - p2.toInt < p5.toInt := fun e => g4 (lt_i.mpr (by rw [sub_i b3 (by omega)]; exact e))
                        rw [if_neg]
                        intro g5
                        have d5 := le_i.mp g5
                        rw [sub_i c3 (by omega)] at d5
                        exact ok ⟨⟨by omega, by omega, by omega⟩, by omega, by omega, by omega⟩
              rw [e5, e6]
              exact bf_0 h
          · simp only [if_neg z3]; exact bf_2 h
theorem load_L {k n s sz B mi w t : Nat} {X : XS} {σ : MS} (hs : s < 4) (hsz : sz ≤ 40) (b4 : X (5 + s) 3 2 = nI sz) (b5 : σ 19 s = nI sz) (b6 : ∀ j, j < sz → X (5 + s) 0 j = σ 20 (40 * s + j)) : ∀ (e j f5 f6 : Nat) (τ σ' : MS), j + e = sz → e < f5 → e < f6 → Sq τ (σ' 0) → Iv B n mi w t (σ' 0) → FM0 σ σ' → ∃ r τ' σ'', X5_load_b26 f5 (va_up X 0 τ) s (nI j) = some (r, va_up X 0 τ') ∧ X6_load_b18 f6 σ' (nI s) (nI j) = some (r, σ'') ∧ Sq τ' (σ'' 0) ∧ Iv B n mi w t (σ'' 0) ∧ FM0 σ σ'' := by
  intro e
  induction e with
  | zero =>
    intro j f5 f6 τ σ' hj h5 h6 hq hi hM
    obtain ⟨g5, rfl⟩ : ∃ f, f5 = f + 1 := ⟨f5 - 1, by omega⟩
    obtain ⟨g6, rfl⟩ : ∃ f, f6 = f + 1 := ⟨f6 - 1, by omega⟩
    refine ⟨nI j, τ, σ', ?_, ?_, hq, hi, hM⟩
    · rw [X5_load_b26, va_up_ne _ _ (show 5 + s ≠ 0 by omega), b4, le_nI (by omega) (by omega), if_pos (by omega)]
    · rw [X6_load_b18, ai_n hs (by decide), nI_clamp (by omega), hM.2.2.2.2.1, b5, le_nI (by omega) (by omega), if_pos (by omega)]
  | succ e ih =>
    intro j f5 f6 τ σ' hj h5 h6 hq hi hM
    obtain ⟨g5, rfl⟩ : ∃ f, f5 = f + 1 := ⟨f5 - 1, by omega⟩
    obtain ⟨g6, rfl⟩ : ∃ f, f6 = f + 1 := ⟨f6 - 1, by omega⟩
    have hn := hi.1.1
    have ht := hi.1.2.2.2
    have h1 : σ' 0 1 = nI n := hi.2.1.1
    have h3 : σ' 0 3 = nI t := hi.2.1.2.2.2
    have h4 : τ 11 4 = nI n := by rw [← hq.1.2.1]; exact h1
    have h7 : τ 11 7 = nI t := by rw [← hq.1.2.2.2.1]; exact h3
    have num : X (5 + s) 0 j = σ 20 (40 * s + j) := b6 j (by omega)
    rw [X5_load_b26, X6_load_b18, va_up_ne _ _ (show 5 + s ≠ 0 by omega), b4, ai_n hs (by decide), nI_clamp (n := s) (by omega), hM.2.2.2.2.1, hM.2.2.2.2.2.1, b5, le_nI (by omega) (by omega), le_nI (by omega) (by omega), if_neg (show ¬ sz ≤ j by omega), if_neg (show ¬ sz ≤ j by omega), va_up_self, isThere4 h4 hn, isP_n (by omega), Option.bind_some, if_bi, h1, le_nI (by omega) (by omega)]
    by_cases hjn : j < n
    · rw [if_neg (show ¬ n ≤ j by omega), if_pos (decide_eq_true hjn), show (40 : Int32) = nI 40 from rfl, pk_mul, nI_add, ai_n (n := 40) (show j < 40 by omega) (by decide), ai_n (n := 40) (show j < 40 by omega) (by decide), ai_n (n := 160) (by omega) (by decide), nI_clamp (n := j) (by omega), nI_clamp (n := 40 * s + j) (by omega), num, out_eq, isView6, Option.bind_some, Option.bind_some, if_bi, if_bi]
      have e9 : inr (-9 : Int32).toInt (9 : Int32).toInt (σ 20 (40 * s + j)) = inr (-9) 9 (σ 20 (40 * s + j)) := rfl
      rw [e9]
      cases hv : inr (-9) 9 (σ 20 (40 * s + j))
      · exact ⟨nI j, τ, σ', rfl, rfl, hq, hi, hM⟩
      · simp only [Bool.not_true, if_true, Bool.false_eq_true, if_false]
        rw [h7, h3, setView4 (by omega) ht, show (2 : Int32) = nI 2 from rfl, nI_add, place6, Option.bind_some, Option.bind_some, bx_uu, ai_n (n := 160) (by omega) (by decide), ai_n (n := 81) (by omega) (by decide), nI_clamp (by omega), nI_1, show 7 + 8 * j + (2 + t) = 9 + 8 * j + t by omega]
        exact ih (j + 1) g5 g6 (su τ 2 (j * 6 + t) (σ 20 (40 * s + j))) (su σ' 0 (9 + 8 * j + t) (σ 20 (40 * s + j))) (by omega) (by omega) (by omega) (hq.uv _ (by omega) ht) (setV hi (by omega) ht _ hv) (fm0_su hM _ _)
    · rw [if_pos (show n ≤ j by omega), if_neg (by rw [decide_eq_false hjn]; decide)]
      exact ⟨nI j, τ, σ', rfl, rfl, hq, hi, hM⟩
theorem upd0_id (X : XS) : va_up X 0 (X 0) = X := by
  funext c
  by_cases hc : c = 0
  · subst hc; exact va_up_self _ _ _
  · exact va_up_ne _ _ hc
theorem st_load : St_load Rel := by
  intro k X σ p1 hk h
  unfold X5_load X6_load
  rw [lack5 h, wrong6, Option.bind_some, Option.bind_some]
  simp only [bind_et]
  refine lk_both h p1 (fun s hs ep hz => ?_)
  subst ep
  obtain ⟨hq, n, mi, w, t, hi⟩ := h.1.up (B' := 100 * (k + 1)) (by omega)
  obtain ⟨b1, b2, sz, b3, b4, b5, b6⟩ := h.2.2.2.2 s hs
  obtain ⟨r, τ', σ'', e1, e2, e3, e4, e5⟩ := load_L (k := k) (σ := σ) hs b3 b4 b5 b6 sz 0 FU FU (X 0) σ (by omega) (FU_lt (by omega)) (FU_lt (by omega)) hq hi (fm0_rf σ)
  rw [upd0_id] at e1
  rw [ai_n hs (by decide), nI_clamp (by omega)]
  exact ⟨r, _, σ'', e1, e2, h.set0 ⟨e3, n, mi, w, t, e4⟩ (up0 X _) e5⟩
theorem judge_L {n s sz B mi w t : Nat} {X : XS} {σ : MS} (hs : s < 4) (hsz : sz ≤ 40) (b4 : X (5 + s) 3 2 = nI sz) (b5 : σ 19 s = nI sz) (b6 : ∀ j, j < sz → X (5 + s) 0 j = σ 20 (40 * s + j)) (hq : Sq (X 0) (σ 0)) (hi : Iv B n mi w t (σ 0)) : ∀ (e j f5 f6 : Nat), j + e = sz → e < f5 → e < f6 → ∃ r, X5_judge_b26 f5 X s (nI j) = some (r, X) ∧ X6_judge_b18 f6 σ (nI s) (nI j) = some (r, σ) := by
  intro e
  induction e with
  | zero =>
    intro j f5 f6 hj h5 h6
    obtain ⟨g5, rfl⟩ : ∃ f, f5 = f + 1 := ⟨f5 - 1, by omega⟩
    obtain ⟨g6, rfl⟩ : ∃ f, f6 = f + 1 := ⟨f6 - 1, by omega⟩
    refine ⟨0, ?_, ?_⟩
    · rw [X5_judge_b26, b4, le_nI (by omega) (by omega), if_pos (by omega)]
    · rw [X6_judge_b18, ai_n hs (by decide), nI_clamp (by omega), b5, le_nI (by omega) (by omega), if_pos (by omega)]
  | succ e ih =>
    intro j f5 f6 hj h5 h6
    obtain ⟨g5, rfl⟩ : ∃ f, f5 = f + 1 := ⟨f5 - 1, by omega⟩
    obtain ⟨g6, rfl⟩ : ∃ f, f6 = f + 1 := ⟨f6 - 1, by omega⟩
    have hn := hi.1.1
    have ht := hi.1.2.2.2
    have h1 : σ 0 1 = nI n := hi.2.1.1
    have h3 : σ 0 3 = nI t := hi.2.1.2.2.2
    have h4 : X 0 11 4 = nI n := by rw [← hq.1.2.1]; exact h1
    have h7 : X 0 11 7 = nI t := by rw [← hq.1.2.2.2.1]; exact h3
    have num : X (5 + s) 0 j = σ 20 (40 * s + j) := b6 j (by omega)
    rw [X5_judge_b26, X6_judge_b18, b4, ai_n hs (by decide), nI_clamp (n := s) (by omega), b5, le_nI (by omega) (by omega), le_nI (by omega) (by omega), if_neg (show ¬ sz ≤ j by omega), if_neg (show ¬ sz ≤ j by omega), isThere4 h4 hn, isP_n (by omega), Option.bind_some, if_bi, h1, le_nI (by omega) (by omega)]
    unfold X5_judge_b73 X6_judge_b65
    by_cases hjn : j < n
    · rw [if_neg (show ¬ n ≤ j by omega), if_pos (decide_eq_true hjn), show (40 : Int32) = nI 40 from rfl, pk_mul, nI_add, h7, h3, viewOn4 (by omega) ht, show (2 : Int32) = nI 2 from rfl, nI_add, its6 (by omega) (by omega), Option.bind_some, Option.bind_some, ai_n (n := 40) (show j < 40 by omega) (by decide), ai_n (n := 160) (by omega) (by decide), nI_clamp (n := j) (by omega), nI_clamp (n := 40 * s + j) (by omega), num, ← (hq.2.1 j (by omega)).2.2 t ht, show 7 + 8 * j + (2 + t) = 9 + 8 * j + t by omega]
      obtain ⟨r, i1, i2⟩ := ih (j + 1) g5 g6 (by omega) (by omega) (by omega)
      by_cases hv : σ 20 (40 * s + j) = σ 0 (9 + 8 * j + t)
      · rw [if_pos hv, if_pos hv.symm, nI_1]
        exact ⟨r, i1, i2⟩
      · rw [if_neg hv, if_neg (fun q => hv q.symm)]
        exact ⟨_, rfl, rfl⟩
    · rw [if_pos (show n ≤ j by omega), if_neg (by rw [decide_eq_false hjn]; decide)]
      exact ⟨_, rfl, rfl⟩
theorem st_judge : St_judge Rel := by
  intro k X σ p1 hk h
  unfold X5_judge X6_judge
  rw [lack5 h, wrong6, Option.bind_some, Option.bind_some]
  simp only [bind_et]
  refine lk_both h p1 (fun s hs ep hz => ?_)
  subst ep
  obtain ⟨hq, n, mi, w, t, hi⟩ := h.1
  obtain ⟨b1, b2, sz, b3, b4, b5, b6⟩ := h.2.2.2.2 s hs
  obtain ⟨r, e1, e2⟩ := judge_L hs b3 b4 b5 b6 hq hi sz 0 FU FU (by omega) (FU_lt (by omega)) (FU_lt (by omega))
  rw [ai_n hs (by decide), nI_clamp (by omega)]
  exact h.asks r e1 e2
