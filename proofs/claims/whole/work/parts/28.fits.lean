/-! PURE 18: fits, thought, kinds -/
/-- whether water is as told, from a minute on -/
def tld (f : Nat → Int32) : Nat → Nat → (Nat → Int32) → Bool
  | 0, _, _ => true
  | e + 1, j, u => if f j = -1 then tld f e (j + 1) (nxt u) else if f j = u 2 then tld f e (j + 1) (nxt u) else false
theorem told5 {n s sz : Nat} {X : XS} {f : Nat → Int32} (hsz : sz ≤ 40) (b4 : X (5 + s) 3 2 = nI sz) (b6 : ∀ j, j < sz → X (5 + s) 0 j = f j) : ∀ (e j fuel : Nat) {B mi w t : Nat} {τ : MS} {v : Nat → Int32}, j + e = sz → e < fuel → mi + e ≤ 99999 → Sq τ v → Iv B n mi w t v → ∃ τ', X5_isAsTold_b25 fuel (va_up X 1 τ) s (nI j) = some (bi (tld f e j v), va_up X 1 τ') := by
  intro e
  induction e with
  | zero =>
    intro j fuel B mi w t τ v hj hf hm hs hi
    obtain ⟨g, rfl⟩ : ∃ g, fuel = g + 1 := ⟨fuel - 1, by omega⟩
    refine ⟨τ, ?_⟩
    rw [X5_isAsTold_b25, va_up_ne _ _ (show 5 + s ≠ 1 by omega), b4, le_nI (by omega) (by omega), if_pos (by omega)]; rfl
  | succ e ih =>
    intro j fuel B mi w t τ v hj hf hm hs hi
    obtain ⟨g, rfl⟩ : ∃ g, fuel = g + 1 := ⟨fuel - 1, by omega⟩
    obtain ⟨τ1, e1, hs1⟩ := pass4 hs hi (by omega)
    obtain ⟨w1, t1, hi1⟩ := iv_nxt hi
    obtain ⟨τ2, e2⟩ := ih (j + 1) g (by omega) (by omega) (by omega) hs1 hi1
    have e6 : τ 11 6 = v 2 := hs.1.2.2.1.symm
    rw [X5_isAsTold_b25, va_up_ne _ _ (show 5 + s ≠ 1 by omega), b4, le_nI (by omega) (by omega), if_neg (by omega), ai_n (by omega) (by decide), ai_n (by omega) (by decide), nI_clamp (by omega), b6 j (by omega), va_up_self, e6, tld]
    unfold X5_isAsTold_b64
    rw [va_up_self, e1, Option.bind_some, bx_uu, nI_1]
    by_cases c1 : f j = -1
    · rw [if_pos c1, if_pos c1]; exact ⟨τ2, e2⟩
    · rw [if_neg c1, if_neg c1]
      by_cases c2 : f j = v 2
      · rw [if_pos c2, if_pos c2]; exact ⟨τ2, e2⟩
      · rw [if_neg c2, if_neg c2]; exact ⟨τ, rfl⟩
theorem isTold5 {n s sz p wt B mi w t : Nat} {X : XS} {f v0 : Nat → Int32} {x : Int32} (hsz : sz ≤ 40) (b4 : X (5 + s) 3 2 = nI sz) (b6 : ∀ j, j < sz → X (5 + s) 0 j = f j) (hs : Sq (X 0) v0) (hv : Iv B n mi w t (upd v0 (7 + 8 * p + wt) x)) (hp : p < 8) (hw : wt < 8) (hm : mi + sz ≤ 99999) (τ : MS) : ∃ τ', X5_isAsTold (va_up X 1 τ) s (nI p) (nI wt) x = some (bi (tld f sz 0 (upd v0 (7 + 8 * p + wt) x)), va_up X 1 τ') := by
  obtain ⟨Xr, e1, hq⟩ := takeOver4 τ (X 0) hs
  obtain ⟨τ1, e2, hq1⟩ := setTrait4 hq (p := p) (w := wt) hp hw x
  obtain ⟨τ2, e3⟩ := told5 hsz b4 b6 sz 0 FU (by omega) (FU_lt (by omega)) hm hq1 hv
  have e1' : X4_takeOver (pr2 (va_up X 1 τ 1) (va_up X 1 τ 0)) = some Xr := by
    rw [va_up_self, va_up_ne _ _ (show (0 : Nat) ≠ 1 by decide)]; exact e1
  refine ⟨τ2, ?_⟩
  unfold X5_isAsTold
  rw [e1', Option.bind_some]
  simp only [bx_uu, va_up_self]
  rw [e2, Option.bind_some]
  exact e3
theorem told6 {n s sz : Nat} {σ : MS} (hs : s < 4) (hsz : sz ≤ 40) (b5 : σ 19 s = nI sz) : ∀ (e j fuel : Nat) {B mi w t : Nat} {v : Nat → Int32} (c : Int32), j + e = sz → e < fuel → Iv B n mi w t v → (∀ i, 81 ≤ i → v i = σ 0 i) → ∃ c', X6_isTold_b8 fuel (trs σ v c) (nI s) 1 (nI j) = some (bi (tld (fun i => σ 20 (40 * s + i)) e j v), bk σ c') := by
  have r19 : ∀ v c, trs σ v c 19 = σ 19 := fun _ _ => rfl
  have r20 : ∀ v c, trs σ v c 20 = σ 20 := fun _ _ => rfl
  intro e
  induction e with
  | zero =>
    intro j fuel B mi w t v c hj hf hi hv
    obtain ⟨g, rfl⟩ : ∃ g, fuel = g + 1 := ⟨fuel - 1, by omega⟩
    refine ⟨c, ?_⟩
    rw [X6_isTold_b8, ai_n hs (by decide), nI_clamp (by omega), r19, b5, le_nI (by omega) (by omega), if_pos (by omega)]
    unfold X6_isTold_b68 X6_isTold_b78
    rw [if_neg (by decide), trs_back σ c _ hv]
    rfl
  | succ e ih =>
    intro j fuel B mi w t v c hj hf hi hv
    obtain ⟨g, rfl⟩ : ∃ g, fuel = g + 1 := ⟨fuel - 1, by omega⟩
    obtain ⟨w1, t1, hi1⟩ := iv_nxt hi
    have hv1 : ∀ i, 81 ≤ i → nxt v i = σ 0 i := fun i h => (nxt_hi hi h).trans (hv i h)
    obtain ⟨c2, e2⟩ := ih (j + 1) g (c + cme v) (by omega) (by omega) hi1 hv1
    rw [X6_isTold_b8, ai_n hs (by decide), nI_clamp (n := s) (by omega), r19, b5, le_nI (by omega) (by omega), if_neg (show ¬ sz ≤ j by omega), if_neg (by decide), show (40 : Int32) = nI 40 from rfl, pk_mul, nI_add, ai_n (by omega) (by decide), nI_clamp (by omega), r20, trs_0, tld]
    unfold X6_isTold_b57
    rw [trs_min hi, Option.bind_some, Option.bind_some, nI_1]
    by_cases c1 : σ 20 (40 * s + j) = -1
    · rw [if_pos c1, if_pos c1]; exact ⟨c2, e2⟩
    · rw [if_neg c1, if_neg c1]
      by_cases c3 : σ 20 (40 * s + j) = v 2
      · rw [if_pos c3, if_pos c3]; exact ⟨c2, e2⟩
      · rw [if_neg c3, if_neg c3]
        obtain ⟨h, rfl⟩ : ∃ h, g = h + 1 := ⟨g - 1, by omega⟩
        refine ⟨c + cme v, ?_⟩
        rw [X6_isTold_b8, ai_n hs (by decide), if_pos (show (0 : Int32) = 0 from rfl)]
        have done : X6_isTold_b68 (trs σ (nxt v) (c + cme v)) 0 = some (0, bk σ (c + cme v)) := by
          unfold X6_isTold_b68 X6_isTold_b78
          rw [if_pos rfl, trs_back σ _ _ hv1, Option.bind_some, if_neg (show ¬ (0 : Int32) = 1 by decide)]
        rw [done]
        split <;> rfl
theorem isTold6 {n s sz B mi w t : Nat} {σ : MS} (hs : s < 4) (hsz : sz ≤ 40) (b5 : σ 19 s = nI sz) (hi : Iv B n mi w t (σ 0)) : ∃ c', X6_isTold σ (nI s) = some (bi (tld (fun i => σ 20 (40 * s + i)) sz 0 (σ 0)), bk σ c') := by
  unfold X6_isTold
  rw [lays6, Option.bind_some, trs_lay]
  exact told6 hs hsz b5 sz 0 FU (σ 22 6) (by omega) (FU_lt (by omega)) hi (fun _ _ => rfl)
def fitC (P : Nat → Bool) : Nat → Nat → Nat → Nat
  | 0, _, c => c
  | e + 1, j, c => if P j then fitC P e (j + 1) (c + 1) else fitC P e (j + 1) c
def fitL (P : Nat → Bool) : Nat → Nat → Nat → Int32 → Int32
  | 0, _, _, l => l
  | e + 1, j, c, l => if P j then fitL P e (j + 1) (c + 1) (if c = 0 then xv j else l) else fitL P e (j + 1) c l
theorem fitC_ge (P : Nat → Bool) : ∀ e j c, c ≤ fitC P e j c ∧ fitC P e j c ≤ c + e := by
  intro e
  induction e with
  | zero => intro j c; exact ⟨Nat.le_refl _, Nat.le_refl _⟩
  | succ e ih =>
    intro j c
    unfold fitC
    by_cases h : P j = true
    · rw [if_pos h]
      have := ih (j + 1) (c + 1)
      omega
    · rw [if_neg h]
      have := ih (j + 1) c
      omega
theorem fitL_c (P : Nat → Bool) : ∀ e j c l, fitL P e j (c + 1) l = l := by
  intro e
  induction e with
  | zero => intro j c l; rfl
  | succ e ih =>
    intro j c l
    unfold fitL
    rw [if_neg (Nat.succ_ne_zero c), ih, ih]
    split <;> rfl
theorem fm0_22 {σ σ' : MS} (h : FM0 σ σ') (x y : Int32) : FM0 σ (su (su σ' 22 11 x) 22 10 y) := ⟨h.1, h.2.1, h.2.2.1, h.2.2.2.1, h.2.2.2.2.1, h.2.2.2.2.2.1, h.2.2.2.2.2.2.1, h.2.2.2.2.2.2.2⟩
theorem bk22 (σ : MS) (c : Int32) {j : Nat} (h : j ≠ 6) : bk σ c 22 j = σ 22 j := by
  unfold bk
  rw [su_at, if_neg (by omega)]
  rfl
theorem fitsL6 {n s sz q : Nat} {σ : MS} (hs : s < 4) (hsz : sz ≤ 40) (b5 : σ 19 s = nI sz) (hq : q < 81) (hI : ∀ j, j < 19 → ∃ B mi w t, Iv B n mi w t (upd (σ 0) q (xv j))) : ∀ (e j fuel : Nat) (σ' : MS) (x : Int32) (c : Nat), j + e = 19 → e < fuel → σ' 0 = upd (σ 0) q x → FM0 σ σ' → σ' 22 10 = nI c → c ≤ j → ∃ σ'', X6_findFits_b35 fuel σ' (nI s) (nI q) (σ 0 q) (xv j) = some σ'' ∧ σ'' 0 = σ 0 ∧ FM0 σ σ'' ∧ σ'' 22 10 = nI (fitC (fun j => tld (fun i => σ 20 (40 * s + i)) sz 0 (upd (σ 0) q (xv j))) e j c) ∧ σ'' 22 11 = fitL (fun j => tld (fun i => σ 20 (40 * s + i)) sz 0 (upd (σ 0) q (xv j))) e j c (σ' 22 11) := by
  intro e
  induction e with
  | zero =>
    intro j fuel σ' x c hj hf h0 hM h10 hc
    obtain ⟨g, rfl⟩ : ∃ g, fuel = g + 1 := ⟨fuel - 1, by omega⟩
    refine ⟨su σ' 0 q (σ 0 q), ?_, by rw [su_row h0, upd_self], fm0_su hM q _, h10, rfl⟩
    rw [X6_findFits_b35, if_pos ((xv_hi j (by omega)).mpr (by omega)), ai_n hq (by decide), nI_clamp (by omega)]
  | succ e ih =>
    intro j fuel σ' x c hj hf h0 hM h10 hc
    obtain ⟨g, rfl⟩ : ∃ g, fuel = g + 1 := ⟨fuel - 1, by omega⟩
    obtain ⟨B, mi, w, t, hv⟩ := hI j (by omega)
    have hr := su_row h0 (xv j)
    have h19 : su σ' 0 q (xv j) 19 s = nI sz := by
      show σ' 19 s = nI sz
      rw [hM.2.2.2.2.1]; exact b5
    have h20 : su σ' 0 q (xv j) 20 = σ 20 := hM.2.2.2.2.2.1
    obtain ⟨c', e1⟩ := isTold6 (σ := su σ' 0 q (xv j)) hs hsz h19 (by rw [hr]; exact hv)
    rw [hr, h20] at e1
    have hM' := fm0_bk (fm0_su hM q (xv j)) c'
    have hr' : bk (su σ' 0 q (xv j)) c' 0 = upd (σ 0) q (xv j) := hr
    have g10 : bk (su σ' 0 q (xv j)) c' 22 10 = nI c := (bk22 _ c' (by decide)).trans h10
    have g11 : bk (su σ' 0 q (xv j)) c' 22 11 = σ' 22 11 := bk22 _ c' (by decide)
    rw [X6_findFits_b35, if_neg (fun q2 => absurd ((xv_hi j (by omega)).mp q2) (by omega)), ai_n hq (by decide), nI_clamp (by omega), e1, Option.bind_some, if_bi, fitC, fitL]
    by_cases hP : tld (fun i => σ 20 (40 * s + i)) sz 0 (upd (σ 0) q (xv j)) = true
    · rw [if_pos hP, if_pos hP, if_pos hP]
      have step : ∀ y : Int32, ∃ σ'', X6_findFits_b75 (X6_findFits_b35 g) (bk (su σ' 0 q (xv j)) c') (nI s) (nI q) (σ 0 q) (xv j) y = some σ'' ∧ σ'' 0 = σ 0 ∧ FM0 σ σ'' ∧ σ'' 22 10 = nI (fitC (fun j => tld (fun i => σ 20 (40 * s + i)) sz 0 (upd (σ 0) q (xv j))) e (j + 1) (c + 1)) ∧ σ'' 22 11 = fitL (fun j => tld (fun i => σ 20 (40 * s + i)) sz 0 (upd (σ 0) q (xv j))) e (j + 1) (c + 1) y := by
        intro y
        unfold X6_findFits_b75
        have a10 : su (bk (su σ' 0 q (xv j)) c') 22 11 y 22 10 = nI c := by rw [su_at, if_neg (by decide)]; exact g10
        rw [a10, nI_1, ← xv_s]
        obtain ⟨σ2, i1, i2, i3, i4, i5⟩ := ih (j + 1) g (su (su (bk (su σ' 0 q (xv j)) c') 22 11 y) 22 10 (nI (c + 1))) (xv j) (c + 1) (by omega) (by omega) hr' (fm0_22 hM' _ _) (by rw [su_at, if_pos ⟨rfl, rfl⟩]) (by omega)
        refine ⟨σ2, i1, i2, i3, i4, ?_⟩
        rw [i5, su_at, if_neg (by decide), su_at, if_pos ⟨rfl, rfl⟩]
      by_cases hc0 : c = 0
      · have : bk (su σ' 0 q (xv j)) c' 22 10 = 0 := by rw [g10, hc0]; rfl
        rw [if_pos this, if_pos hc0]
        exact step (xv j)
      · have : ¬ bk (su σ' 0 q (xv j)) c' 22 10 = 0 := by rw [g10]; exact fun z => hc0 ((nI_eq0 (by omega)).mp z)
        rw [if_neg this, if_neg hc0, ← g11]
        exact step _
    · rw [if_neg hP, if_neg hP, if_neg hP, ← xv_s, ← g11]
      exact ih (j + 1) g (bk (su σ' 0 q (xv j)) c') (xv j) c (by omega) (by omega) hr' hM' g10 (by omega)
theorem fitsL5 {n s sz p t mi : Nat} {X : XS} {f v0 : Nat → Int32} (hs4 : s < 4) (hsz : sz ≤ 40) (b4 : X (5 + s) 3 2 = nI sz) (b6 : ∀ j, j < sz → X (5 + s) 0 j = f j) (hs : Sq (X 0) v0) (hp : p < 8) (ht : t < 6) (h3 : v0 3 = nI t) (hm : mi + sz ≤ 99999) (hI : ∀ j, j < 19 → ∃ B w t', Iv B n mi w t' (upd v0 (7 + 8 * p + (2 + t)) (xv j))) : ∀ (e j fuel : Nat) (τ : MS) (c : Nat), j + e = 19 → e < fuel → ∃ τ', X5_fits_b24 fuel (va_up X 1 τ) (nI s) (nI p) (nI c) (xv j) = some (nI (fitC (fun j => tld f sz 0 (upd v0 (7 + 8 * p + (2 + t)) (xv j))) e j c), va_up X 1 τ') := by
  have h7 : X 0 11 7 = nI t := by rw [← hs.1.2.2.2.1]; exact h3
  intro e
  induction e with
  | zero =>
    intro j fuel τ c hj hf
    obtain ⟨g, rfl⟩ : ∃ g, fuel = g + 1 := ⟨fuel - 1, by omega⟩
    exact ⟨τ, by rw [X5_fits_b24, if_pos ((xv_hi j (by omega)).mpr (by omega))]; rfl⟩
  | succ e ih =>
    intro j fuel τ c hj hf
    obtain ⟨g, rfl⟩ : ∃ g, fuel = g + 1 := ⟨fuel - 1, by omega⟩
    obtain ⟨B, w, t', hv⟩ := hI j (by omega)
    obtain ⟨τ1, e1⟩ := isTold5 hsz b4 b6 hs hv hp (show 2 + t < 8 by omega) hm τ
    rw [X5_fits_b24, if_neg (fun q2 => absurd ((xv_hi j (by omega)).mp q2) (by omega)), ai_n hs4 (by decide), nI_clamp (by omega), va_up_ne _ _ (show (0 : Nat) ≠ 1 by decide), h7, show (2 : Int32) = nI 2 from rfl, nI_add, e1, Option.bind_some, if_bi, ← xv_s, nI_1, fitC]
    by_cases hP : tld f sz 0 (upd v0 (7 + 8 * p + (2 + t)) (xv j)) = true
    · rw [if_pos hP, if_pos hP]
      exact ih (j + 1) g τ1 (c + 1) (by omega) (by omega)
    · rw [if_neg hP, if_neg hP]
      exact ih (j + 1) g τ1 c (by omega) (by omega)
theorem thouL5 {n s sz p t mi : Nat} {X : XS} {f v0 : Nat → Int32} (hs4 : s < 4) (hsz : sz ≤ 40) (b4 : X (5 + s) 3 2 = nI sz) (b6 : ∀ j, j < sz → X (5 + s) 0 j = f j) (hs : Sq (X 0) v0) (hp : p < 8) (ht : t < 6) (h3 : v0 3 = nI t) (hm : mi + sz ≤ 99999) (hI : ∀ j, j < 19 → ∃ B w t', Iv B n mi w t' (upd v0 (7 + 8 * p + (2 + t)) (xv j))) : ∀ (e j fuel : Nat) (τ : MS), j + e = 19 → e < fuel → ∃ τ', X5_thought_b21 fuel (va_up X 1 τ) (nI s) (nI p) (xv j) = if fitC (fun j => tld f sz 0 (upd v0 (7 + 8 * p + (2 + t)) (xv j))) e j 0 = 0 then X5_found (va_up X 1 τ') (-1000004) else some (fitL (fun j => tld f sz 0 (upd v0 (7 + 8 * p + (2 + t)) (xv j))) e j 0 0, va_up X 1 τ') := by
  have h7 : X 0 11 7 = nI t := by rw [← hs.1.2.2.2.1]; exact h3
  intro e
  induction e with
  | zero =>
    intro j fuel τ hj hf
    obtain ⟨g, rfl⟩ : ∃ g, fuel = g + 1 := ⟨fuel - 1, by omega⟩
    refine ⟨τ, ?_⟩
    rw [X5_thought_b21, if_pos ((xv_hi j (by omega)).mpr (by omega)), bind_et, fitC, if_pos rfl]
  | succ e ih =>
    intro j fuel τ hj hf
    obtain ⟨g, rfl⟩ : ∃ g, fuel = g + 1 := ⟨fuel - 1, by omega⟩
    obtain ⟨B, w, t', hv⟩ := hI j (by omega)
    obtain ⟨τ1, e1⟩ := isTold5 hsz b4 b6 hs hv hp (show 2 + t < 8 by omega) hm τ
    rw [X5_thought_b21, if_neg (fun q2 => absurd ((xv_hi j (by omega)).mp q2) (by omega)), ai_n hs4 (by decide), nI_clamp (by omega), va_up_ne _ _ (show (0 : Nat) ≠ 1 by decide), h7, show (2 : Int32) = nI 2 from rfl, nI_add, e1, Option.bind_some, if_bi, ← xv_s, fitC, fitL]
    by_cases hP : tld f sz 0 (upd v0 (7 + 8 * p + (2 + t)) (xv j)) = true
    · refine ⟨τ1, ?_⟩
      have c1 := (fitC_ge (fun j => tld f sz 0 (upd v0 (7 + 8 * p + (2 + t)) (xv j))) e (j + 1) (0 + 1)).1
      rw [if_pos hP, if_pos hP, if_pos hP, if_neg (by omega), if_pos rfl, fitL_c]
    · rw [if_neg hP, if_neg hP, if_neg hP]
      exact ih (j + 1) g τ1 (by omega) (by omega)
theorem wrongOne6 {σ : MS} {n : Nat} (h1 : σ 0 1 = nI n) (hn : n ≤ 8) (p q : Int32) : X6_wrongOne σ p q = some (if lk σ p = 0 then (if isP n q then 0 else -1000001) else lk σ p) := by
  unfold X6_wrongOne
  rw [wrong6, Option.bind_some]
  by_cases h : lk σ p = 0
  · rw [if_pos h, if_pos h, isPerson6 h1 hn, Option.bind_some, if_bi]
    cases isP n q <;> rfl
  · rw [if_neg h, if_neg h]
theorem lackFit5 {k n : Nat} {X : XS} {σ : MS} (h : Rel k X σ) (h2 : X 0 11 4 = nI n) (hn : n ≤ 8) (p q : Int32) : X5_lackOfFit X p q = some (if lk σ p = 0 then (if isP n q then 0 else -1000001) else lk σ p) := by
  unfold X5_lackOfFit
  rw [lack5 h, Option.bind_some]
  by_cases e : lk σ p = 0
  · rw [if_pos e, if_pos e, isThere4 h2 hn, Option.bind_some, if_bi, e]
    cases isP n q <;> rfl
  · rw [if_neg e, if_neg e]
theorem lf_both {k n : Nat} {X : XS} {σ : MS} (h : Rel k X σ) (hn : n ≤ 8) (p q : Int32) {A : Option (Int32 × XS)} {B : Option (Int32 × MS)} (hg : ∀ s i : Nat, s < 4 → p = nI s → i < n → q = nI i → Con k A B) : Con k (if (if lk σ p = 0 then (if isP n q then (0 : Int32) else -1000001) else lk σ p) = 0 then A else X5_found X (if lk σ p = 0 then (if isP n q then 0 else -1000001) else lk σ p)) (if (if lk σ p = 0 then (if isP n q then (0 : Int32) else -1000001) else lk σ p) = 0 then B else X6_finds σ (if lk σ p = 0 then (if isP n q then 0 else -1000001) else lk σ p)) := by
  rcases lk_cases σ p with e | e | ⟨e, s, hs, ep, hz⟩
  · have c : (if lk σ p = 0 then (if isP n q then (0 : Int32) else -1000001) else lk σ p) = -1000001 := by rw [e]; rfl
    rw [c]; exact bf_0 h
  · have c : (if lk σ p = 0 then (if isP n q then (0 : Int32) else -1000001) else lk σ p) = -1000006 := by rw [e]; rfl
    rw [c]; exact bf_5 h
  · rw [if_pos e]
    cases hq : isP n q
    · simp only [Bool.false_eq_true, if_false]
      rw [if_neg (by decide), if_neg (by decide)]; exact bf_0 h
    · obtain ⟨i, hi, rfl⟩ := isP_ex (by omega) hq
      simp only [if_true]
      exact hg s i hs ep hi rfl
theorem findFits6 {k n mi w t s p sz : Nat} {σ : MS} (hi : Iv (100 * k) n mi w t (σ 0)) (hs : s < 4) (hp : p < n) (hsz : sz ≤ 40) (b5 : σ 19 s = nI sz) : ∃ σ'', X6_findFits σ (nI s) (nI p) = some σ'' ∧ FM σ σ'' ∧ σ'' 22 10 = nI (fitC (fun j => tld (fun i => σ 20 (40 * s + i)) sz 0 (upd (σ 0) (7 + 8 * p + (2 + t)) (xv j))) 19 0 0) ∧ σ'' 22 11 = fitL (fun j => tld (fun i => σ 20 (40 * s + i)) sz 0 (upd (σ 0) (7 + 8 * p + (2 + t)) (xv j))) 19 0 0 0 := by
  have hn := hi.1.1
  have ht := hi.1.2.2.2
  have h3 : σ 0 3 = nI t := hi.2.1.2.2.2
  obtain ⟨σ'', e1, e2, e3, e4, e5⟩ := fitsL6 (n := n) (σ := σ) (q := 7 + 8 * p + (2 + t)) hs hsz b5 (by omega) (fun j hj => ⟨100 * k, mi, w, t, by
    rw [show 7 + 8 * p + (2 + t) = 9 + 8 * p + t by omega]
    exact setV hi (by omega) ht _ (xv_in j hj)⟩) 19 0 FU (su (su σ 22 10 0) 22 11 0) (σ 0 (7 + 8 * p + (2 + t))) 0 rfl (FU_lt (by decide)) (upd_self _ _).symm ⟨rfl, rfl, rfl, rfl, rfl, rfl, rfl, rfl⟩ rfl (Nat.le_refl _)
  refine ⟨σ'', ?_, fm0_fm e2 e3, e4, e5⟩
  unfold X6_findFits
  rw [h3, show (2 : Int32) = nI 2 from rfl, nI_add, place6, Option.bind_some, ai_n (by omega) (by decide), nI_clamp (by omega)]
  exact e1
theorem st_fits : St_fits Rel := by
  intro k X σ p1 p2 hk h
  obtain ⟨hq, n, mi, w, t, hi⟩ := h.1
  have hn := hi.1.1
  have hm := hi.1.2.1
  have ht := hi.1.2.2.2
  have h1 : σ 0 1 = nI n := hi.2.1.1
  have h3 : σ 0 3 = nI t := hi.2.1.2.2.2
  have h2 : X 0 11 4 = nI n := by rw [← hq.1.2.1]; exact h1
  unfold X5_fits X6_fits
  rw [lackFit5 h h2 hn, wrongOne6 h1 hn, Option.bind_some, Option.bind_some]
  simp only [bind_et]
  refine lf_both h hn p1 p2 (fun s p hs e1 hp e2 => ?_)
  subst e1; subst e2
  obtain ⟨b1, b2, sz, b3, b4, b5, b6⟩ := h.2.2.2.2 s hs
  obtain ⟨σ'', g1, g2, g3, -⟩ := findFits6 hi hs hp b3 b5
  obtain ⟨τ', g5⟩ := fitsL5 (X := X) hs b3 b4 b6 hq (show p < 8 by omega) ht h3 (mi := mi) (by omega) (fun j hj => ⟨100 * k, w, t, by
    rw [show 7 + 8 * p + (2 + t) = 9 + 8 * p + t by omega]
    exact setV hi (by omega) ht _ (xv_in j hj)⟩) 19 0 FU (X 1) 0 rfl (FU_lt (by decide))
  rw [upd1_id] at g5
  refine ⟨_, _, σ'', g5, ?_, (h.fr (FX.u1 X τ') g2).up⟩
  rw [g1, Option.bind_some, g3]
theorem st_thought : St_thought Rel := by
  intro k X σ p1 p2 hk h
  obtain ⟨hq, n, mi, w, t, hi⟩ := h.1
  have hn := hi.1.1
  have hm := hi.1.2.1
  have ht := hi.1.2.2.2
  have h1 : σ 0 1 = nI n := hi.2.1.1
  have h3 : σ 0 3 = nI t := hi.2.1.2.2.2
  have h2 : X 0 11 4 = nI n := by rw [← hq.1.2.1]; exact h1
  unfold X5_thought X6_thought
  rw [lackFit5 h h2 hn, wrongOne6 h1 hn, Option.bind_some, Option.bind_some]
  simp only [bind_et]
  refine lf_both h hn p1 p2 (fun s p hs e1 hp e2 => ?_)
  subst e1; subst e2
  obtain ⟨b1, b2, sz, b3, b4, b5, b6⟩ := h.2.2.2.2 s hs
  obtain ⟨σ'', g1, g2, g3, g4⟩ := findFits6 hi hs hp b3 b5
  obtain ⟨τ', g5⟩ := thouL5 (X := X) hs b3 b4 b6 hq (show p < 8 by omega) ht h3 (mi := mi) (by omega) (fun j hj => ⟨100 * k, w, t, by
    rw [show 7 + 8 * p + (2 + t) = 9 + 8 * p + t by omega]
    exact setV hi (by omega) ht _ (xv_in j hj)⟩) 19 0 FU (X 1) rfl (FU_lt (by decide))
  rw [upd1_id] at g5
  have hR := h.fr (FX.u1 X τ') g2
  have e0 : X5_thought_b21 FU X (nI s) (nI p) (-9) = X5_thought_b21 FU X (nI s) (nI p) (xv 0) := rfl
  rw [e0, g5, g1, Option.bind_some, g3, g4]
  have c2 := (fitC_ge (fun j => tld (fun i => σ 20 (40 * s + i)) sz 0 (upd (σ 0) (7 + 8 * p + (2 + t)) (xv j))) 19 0 0).2
  by_cases hc : fitC (fun j => tld (fun i => σ 20 (40 * s + i)) sz 0 (upd (σ 0) (7 + 8 * p + (2 + t)) (xv j))) 19 0 0 = 0
  · rw [if_pos hc, if_pos ((nI_eq0 (by omega)).mpr hc)]
    exact bf_3 hR
  · rw [if_neg hc, if_neg (fun z => hc ((nI_eq0 (by omega)).mp z))]
    exact hR.asks _ rfl rfl
def kdS (P : Nat → Bool) : Nat → Nat → Int32 → Int32
  | 0, _, a => a
  | e + 1, j, a => if P j then kdS P e (j + 1) (a ||| ((1 : Int32) <<< (nI j &&& 31))) else kdS P e (j + 1) a
theorem kindL5 {n s sz p mi : Nat} {X : XS} {f v0 : Nat → Int32} (hs4 : s < 4) (hsz : sz ≤ 40) (b4 : X (5 + s) 3 2 = nI sz) (b6 : ∀ j, j < sz → X (5 + s) 0 j = f j) (hs : Sq (X 0) v0) (hp : p < 8) (hm : mi + sz ≤ 99999) (hI : ∀ j, j < 7 → ∃ B w t', Iv B n mi w t' (upd v0 (7 + 8 * p + 0) (nI j))) : ∀ (e j fuel : Nat) (τ : MS) (a : Int32), j + e = 7 → e < fuel → ∃ τ', X5_kinds_b23 fuel (va_up X 1 τ) (nI s) (nI p) a (nI j) = some (kdS (fun j => tld f sz 0 (upd v0 (7 + 8 * p + 0) (nI j))) e j a, va_up X 1 τ') := by
  intro e
  induction e with
  | zero =>
    intro j fuel τ a hj hf
    obtain ⟨g, rfl⟩ : ∃ g, fuel = g + 1 := ⟨fuel - 1, by omega⟩
    exact ⟨τ, by rw [X5_kinds_b23, show (7 : Int32) = nI 7 from rfl, le_nI (by omega) (by omega), if_pos (by omega)]; rfl⟩
  | succ e ih =>
    intro j fuel τ a hj hf
    obtain ⟨g, rfl⟩ : ∃ g, fuel = g + 1 := ⟨fuel - 1, by omega⟩
    obtain ⟨B, w, t', hv⟩ := hI j (by omega)
    obtain ⟨τ1, e1⟩ := isTold5 hsz b4 b6 hs hv hp (show 0 < 8 by decide) hm τ
    have e1' : X5_isAsTold (va_up X 1 τ) s (nI p) 0 (nI j) = some (bi (tld f sz 0 (upd v0 (7 + 8 * p + 0) (nI j))), va_up X 1 τ1) := e1
    rw [X5_kinds_b23, show (7 : Int32) = nI 7 from rfl, le_nI (by omega) (by omega), if_neg (by omega), ai_n hs4 (by decide), nI_clamp (by omega), e1', Option.bind_some, if_bi, nI_1, kdS]
    by_cases hP : tld f sz 0 (upd v0 (7 + 8 * p + 0) (nI j)) = true
    · rw [if_pos hP, if_pos hP]
      exact ih (j + 1) g τ1 _ (by omega) (by omega)
    · rw [if_neg hP, if_neg hP]
      exact ih (j + 1) g τ1 a (by omega) (by omega)
theorem kindL6 {n s sz p : Nat} {σ : MS} (hs : s < 4) (hsz : sz ≤ 40) (hp : p < 8) (b5 : σ 19 s = nI sz) (hI : ∀ j, j < 7 → ∃ B mi w t, Iv B n mi w t (upd (σ 0) (7 + 8 * p + 0) (nI j))) : ∀ (e j fuel : Nat) (σ' : MS) (x a : Int32), j + e = 7 → e < fuel → σ' 0 = upd (σ 0) (7 + 8 * p + 0) x → FM0 σ σ' → ∃ σ'', X6_kinds_b31 fuel σ' (nI s) (nI p) (σ 0 (7 + 8 * p + 0)) a (nI j) = some (kdS (fun j => tld (fun i => σ 20 (40 * s + i)) sz 0 (upd (σ 0) (7 + 8 * p + 0) (nI j))) e j a, σ'') ∧ σ'' 0 = σ 0 ∧ FM0 σ σ'' := by
  intro e
  induction e with
  | zero =>
    intro j fuel σ' x a hj hf h0 hM
    obtain ⟨g, rfl⟩ : ∃ g, fuel = g + 1 := ⟨fuel - 1, by omega⟩
    refine ⟨su σ' 0 (7 + 8 * p + 0) (σ 0 (7 + 8 * p + 0)), ?_, by rw [su_row h0, upd_self], fm0_su hM _ _⟩
    have c : (6 : Int32) < nI j := (nI_ltI (a := 6) (by decide) (by omega)).mpr (by omega)
    have e0 : X6_place (nI p) 0 = some (nI (7 + 8 * p + 0)) := place6 p 0
    rw [X6_kinds_b31, if_pos c, e0, Option.bind_some, ai_n (by omega) (by decide), nI_clamp (by omega)]
    rfl
  | succ e ih =>
    intro j fuel σ' x a hj hf h0 hM
    obtain ⟨g, rfl⟩ : ∃ g, fuel = g + 1 := ⟨fuel - 1, by omega⟩
    obtain ⟨B, mi, w, t, hv⟩ := hI j (by omega)
    have hr := su_row h0 (nI j)
    have h19 : su σ' 0 (7 + 8 * p + 0) (nI j) 19 s = nI sz := by
      show σ' 19 s = nI sz
      rw [hM.2.2.2.2.1]; exact b5
    have h20 : su σ' 0 (7 + 8 * p + 0) (nI j) 20 = σ 20 := hM.2.2.2.2.2.1
    obtain ⟨c', e1⟩ := isTold6 (σ := su σ' 0 (7 + 8 * p + 0) (nI j)) hs hsz h19 (by rw [hr]; exact hv)
    rw [hr, h20] at e1
    have hM' := fm0_bk (fm0_su hM (7 + 8 * p + 0) (nI j)) c'
    have hr' : bk (su σ' 0 (7 + 8 * p + 0) (nI j)) c' 0 = upd (σ 0) (7 + 8 * p + 0) (nI j) := hr
    have c : ¬ (6 : Int32) < nI j := fun z => by have := (nI_ltI (a := 6) (by decide) (by omega)).mp z; omega
    have e0 : X6_place (nI p) 0 = some (nI (7 + 8 * p + 0)) := place6 p 0
    rw [X6_kinds_b31, if_neg c, e0, Option.bind_some, ai_n (by omega) (by decide), nI_clamp (n := 7 + 8 * p + 0) (by omega), e1, Option.bind_some, if_bi, kdS]
    unfold X6_kinds_b68
    rw [nI_1, or_0]
    by_cases hP : tld (fun i => σ 20 (40 * s + i)) sz 0 (upd (σ 0) (7 + 8 * p + 0) (nI j)) = true
    · rw [if_pos hP, if_pos hP]
      exact ih (j + 1) g _ (nI j) _ (by omega) (by omega) hr' hM'
    · rw [if_neg hP, if_neg hP]
      exact ih (j + 1) g _ (nI j) a (by omega) (by omega) hr' hM'
theorem st_kinds : St_kinds Rel := by
  intro k X σ p1 p2 hk h
  obtain ⟨hq, n, mi, w, t, hi⟩ := h.1
  have hn := hi.1.1
  have hm := hi.1.2.1
  have h1 : σ 0 1 = nI n := hi.2.1.1
  have h2 : X 0 11 4 = nI n := by rw [← hq.1.2.1]; exact h1
  unfold X5_kinds X6_kinds
  rw [lackFit5 h h2 hn, wrongOne6 h1 hn, Option.bind_some, Option.bind_some]
  simp only [bind_et]
  refine lf_both h hn p1 p2 (fun s p hs e1 hp e2 => ?_)
  subst e1; subst e2
  obtain ⟨b1, b2, sz, b3, b4, b5, b6⟩ := h.2.2.2.2 s hs
  have hI : ∀ j, j < 7 → Iv (100 * k) n mi w t (upd (σ 0) (7 + 8 * p + 0) (nI j)) := fun j hj => hi.setT (by omega) (by decide) _ ⟨j, hj, rfl⟩
  obtain ⟨σ'', g1, g2, g3⟩ := kindL6 (n := n) hs b3 (show p < 8 by omega) b5 (fun j hj => ⟨_, _, _, _, hI j hj⟩) 7 0 FU σ (σ 0 (7 + 8 * p + 0)) 0 rfl (FU_lt (by decide)) (upd_self _ _).symm (fm0_rf σ)
  obtain ⟨τ', g5⟩ := kindL5 (X := X) hs b3 b4 b6 hq (show p < 8 by omega) (mi := mi) (by omega) (fun j hj => ⟨_, _, _, hI j hj⟩) 7 0 FU (X 1) 0 rfl (FU_lt (by decide))
  rw [upd1_id] at g5
  have ei : X6_its σ (nI p) 0 = some (σ 0 (7 + 8 * p + 0)) := its6 (w := 0) (by omega) (by decide)
  refine ⟨_, _, σ'', g5, ?_, (h.fr (FX.u1 X τ') (fm0_fm g2 g3)).up⟩
  rw [ei, Option.bind_some]
  exact g1
