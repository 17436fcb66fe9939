/-! PURE 13: round -/
def eqv (f g : Nat → Int32) : Nat → Nat → Bool
  | 0, _ => true
  | d + 1, i => if f i = g i then eqv f g d (i + 1) else false
theorem eqv_iff (f g : Nat → Int32) : ∀ d i, eqv f g d i = true ↔ ∀ x, i ≤ x → x < i + d → f x = g x := by
  intro d
  induction d with
  | zero =>
    intro i
    constructor
    · intro _ x h1 h2; omega
    · intro _; rfl
  | succ d ih =>
    intro i
    unfold eqv
    by_cases h : f i = g i
    · rw [if_pos h, ih]
      constructor
      · intro q x h1 h2
        by_cases e : x = i
        · rw [e]; exact h
        · exact q x (by omega) (by omega)
      · intro q x h1 h2
        exact q x (by omega) (by omega)
    · rw [if_neg h]
      constructor
      · intro q; cases q
      · intro q; exact absurd (q i (Nat.le_refl _) (by omega)) h
theorem bool_ext {a b : Bool} (h : a = true ↔ b = true) : a = b := by
  cases a <;> cases b <;> first | rfl | exact absurd (h.mp rfl) (by decide) | exact absurd (h.mpr rfl) (by decide)
theorem thinkL {X : XS} {m : Nat} (hm : m ≤ 48) (h1 : X 0 11 4 * (6 : Int32) = nI m) : ∀ (d j fuel : Nat), j + d = m → d < fuel → X4_thinksLike_b15 X fuel (nI j) = some (bi (eqv (X 0 2) (X 1 2) d j)) := by
  intro d
  induction d with
  | zero =>
    intro j fuel hj hf
    obtain ⟨f, rfl⟩ : ∃ f, fuel = f + 1 := ⟨fuel - 1, by omega⟩
    rw [X4_thinksLike_b15, h1, le_nI (by omega) (by omega), if_pos (by omega)]; rfl
  | succ d ih =>
    intro j fuel hj hf
    obtain ⟨f, rfl⟩ : ∃ f, fuel = f + 1 := ⟨fuel - 1, by omega⟩
    rw [X4_thinksLike_b15, h1, le_nI (by omega) (by omega), if_neg (by omega), ai_n (by omega) (by decide), ai_n (by omega) (by decide), nI_clamp (by omega), eqv]
    by_cases h : X 0 2 j = X 1 2 j
    · rw [if_pos h, if_pos h, nI_1, ih (j + 1) f (by omega) (by omega)]
    · rw [if_neg h, if_neg h]; rfl
theorem asideL {σ : MS} : ∀ (d j fuel : Nat), j + d = 71 → d < fuel → X6_isAsAside_b24 σ fuel 1 (nI j) = some (bi (eqv (σ 0) (σ 3) d j)) := by
  intro d
  induction d with
  | zero =>
    intro j fuel hj hf
    obtain ⟨f, rfl⟩ : ∃ f, fuel = f + 1 := ⟨fuel - 1, by omega⟩
    rw [X6_isAsAside_b24, show (71 : Int32) = nI 71 from rfl, le_nI (by omega) (by omega), if_pos (by omega), zb_1]; rfl
  | succ d ih =>
    intro j fuel hj hf
    obtain ⟨f, rfl⟩ : ∃ f, fuel = f + 1 := ⟨fuel - 1, by omega⟩
    rw [X6_isAsAside_b24, show (71 : Int32) = nI 71 from rfl, le_nI (by omega) (by omega), if_neg (by omega), if_neg (by decide), ai_n (by omega) (by decide), ai_n (by omega) (by decide), nI_clamp (by omega), eqv]
    by_cases h : σ 0 j = σ 3 j
    · rw [if_pos h, if_pos h, nI_1, ih (j + 1) f (by omega) (by omega)]
    · obtain ⟨g, rfl⟩ : ∃ g, f = g + 1 := ⟨f - 1, by omega⟩
      rw [if_neg h, if_neg h, X6_isAsAside_b24, zb_0]
      split
      · rfl
      · rfl
theorem aside6 (σ : MS) : X6_isAsAside σ = some (bi (decide (σ 0 3 = σ 3 3) && eqv (σ 0) (σ 3) 64 7)) := by
  unfold X6_isAsAside X6_isAsAside_b20
  by_cases h : σ 0 3 = σ 3 3
  · rw [if_pos h, decide_eq_true h, Bool.true_and]
    exact asideL 64 7 FU rfl (FU_lt (by decide))
  · rw [if_neg h, decide_eq_false h, Bool.false_and]
    show X6_isAsAside_b24 σ (1999 + 1) 0 7 = _
    rw [X6_isAsAside_b24, zb_0, if_neg (by decide)]; rfl
theorem think4 {X : XS} {n : Nat} (hn : n ≤ 8) (h1 : X 0 11 4 = nI n) : X4_thinksLike X = some (bi (decide (X 0 11 7 = X 1 11 7) && eqv (X 0 2) (X 1 2) (n * 6) 0)) := by
  unfold X4_thinksLike
  have h2 : X 0 11 4 * (6 : Int32) = nI (n * 6) := by rw [h1, show (6 : Int32) = nI 6 from rfl, pk_mul]
  by_cases h : X 0 11 7 = X 1 11 7
  · rw [if_pos h, decide_eq_true h, Bool.true_and]
    exact thinkL (by omega) h2 (n * 6) 0 FU (by omega) (FU_lt (by omega))
  · rw [if_neg h, decide_eq_false h, Bool.false_and]; rfl
/-- what minutes leave alone -/
def Frm (n : Nat) (v0 u : Nat → Int32) : Prop := ∀ p, p < 8 → u (7 + 8 * p) = v0 (7 + 8 * p) ∧ u (8 + 8 * p) = v0 (8 + 8 * p) ∧ (n ≤ p → ∀ j, j < 6 → u (9 + 8 * p + j) = v0 (9 + 8 * p + j))
theorem frm_nxt {B n mi w t : Nat} {v0 u : Nat → Int32} (hi : Iv B n mi w t u) (h : Frm n v0 u) : Frm n v0 (nxt u) := by
  have hn := hi.1.1
  have ht := hi.1.2.2.2
  intro p hp
  obtain ⟨h1, h2, h3⟩ := h p hp
  have g : ∀ i, 7 ≤ i → (hd u = true → i ≠ iA u ∧ i ≠ iB u) → nxt u i = u i := fun i h0 hh => nxt_at (by omega) (by omega) (by omega) hh
  refine ⟨?_, ?_, fun hnp j hj => ?_⟩
  · rw [g _ (by omega) (fun hh => ?_)]
    · exact h1
    · obtain ⟨a, b, ha, hb, hab, h5, h6, eA, eB, eT, eIA, eIB⟩ := hAB hi hh
      rw [eIA, eIB]; omega
  · rw [g _ (by omega) (fun hh => ?_)]
    · exact h2
    · obtain ⟨a, b, ha, hb, hab, h5, h6, eA, eB, eT, eIA, eIB⟩ := hAB hi hh
      rw [eIA, eIB]; omega
  · rw [g _ (by omega) (fun hh => ?_)]
    · exact h3 hnp j hj
    · obtain ⟨a, b, ha, hb, hab, h5, h6, eA, eB, eT, eIA, eIB⟩ := hAB hi hh
      rw [eIA, eIB]; omega
def rdP (v0 u : Nat → Int32) : Bool := decide (u 3 = v0 3) && eqv u v0 64 7
theorem think_rd {τ τ0 : MS} {v0 u : Nat → Int32} {n : Nat} (hn : n ≤ 8) (hs : Sq τ u) (hs0 : Sq τ0 v0) (h1 : u 1 = nI n) (hf : Frm n v0 u) : X4_thinksLike (pr2 τ τ0) = some (bi (rdP v0 u)) := by
  have h4 : τ 11 4 = nI n := by rw [← hs.1.2.1]; exact h1
  rw [think4 (X := pr2 τ τ0) hn h4]
  have e7 : (pr2 τ τ0) 0 11 7 = u 3 := hs.1.2.2.2.1.symm
  have e70 : (pr2 τ τ0) 1 11 7 = v0 3 := hs0.1.2.2.2.1.symm
  rw [e7, e70]
  unfold rdP
  congr 3
  apply bool_ext
  rw [eqv_iff, eqv_iff]
  constructor
  · intro q x hx1 hx2
    obtain ⟨p, r, hr, rfl⟩ : ∃ p r, r < 8 ∧ x = 7 + 8 * p + r := ⟨(x - 7) / 8, (x - 7) % 8, Nat.mod_lt _ (by decide), by omega⟩
    obtain ⟨f1, f2, f3⟩ := hf p (by omega)
    rcases (show r = 0 ∨ r = 1 ∨ 2 ≤ r by omega) with rfl | rfl | h2
    · exact f1
    · rw [show 7 + 8 * p + 1 = 8 + 8 * p by omega]; exact f2
    · rw [show 7 + 8 * p + r = 9 + 8 * p + (r - 2) by omega]
      by_cases hp : n ≤ p
      · exact f3 hp (r - 2) (by omega)
      · rw [(hs.2.1 p (by omega)).2.2 (r - 2) (by omega), (hs0.2.1 p (by omega)).2.2 (r - 2) (by omega)]
        exact q (p * 6 + (r - 2)) (by omega) (by omega)
  · intro q x hx1 hx2
    obtain ⟨p, j, hj, rfl⟩ : ∃ p j, j < 6 ∧ x = p * 6 + j := ⟨x / 6, x % 6, Nat.mod_lt _ (by decide), by omega⟩
    have hp : p < n := by omega
    show τ 2 (p * 6 + j) = τ0 2 (p * 6 + j)
    rw [← (hs.2.1 p (by omega)).2.2 j hj, ← (hs0.2.1 p (by omega)).2.2 j hj]
    exact q (9 + 8 * p + j) (by omega) (by omega)
theorem aside_rd (σ : MS) (u : Nat → Int32) (c : Int32) : X6_isAsAside (trs σ u c) = some (bi (rdP (σ 0) u)) := by
  rw [aside6]
  unfold rdP
  rw [trs_0, trs_3 σ u c (show 3 < 81 by decide)]
  congr 3
theorem round5 {n : Nat} {X : XS} {v0 : Nat → Int32} (hs0 : Sq (X 0) v0) : ∀ (d j fuel : Nat) {B mi w t : Nat} {τ : MS} {v : Nat → Int32}, j + d = 301 → d < fuel → mi + d ≤ 99999 → Sq τ v → Iv B n mi w t v → Frm n v0 v → ∃ τ', X5_round_b13 fuel (va_up X 1 τ) (nI j) = orN5 (va_up X 1 τ') (nI (srch (rdP v0) d j (nxt v))) := by
  intro d
  induction d with
  | zero =>
    intro j fuel B mi w t τ v hj hf hm hs hi hfr
    obtain ⟨f, rfl⟩ : ∃ f, fuel = f + 1 := ⟨fuel - 1, by omega⟩
    refine ⟨τ, ?_⟩
    rw [X5_round_b13, if_pos ((n300 (by omega)).mpr (by omega)), bind_et]
    unfold orN5 srch
    rw [if_pos ((n300 (by omega)).mpr (by omega))]
  | succ d ih =>
    intro j fuel B mi w t τ v hj hf hm hs hi hfr
    obtain ⟨f, rfl⟩ : ∃ f, fuel = f + 1 := ⟨fuel - 1, by omega⟩
    obtain ⟨τ1, e1, hs1⟩ := pass4 hs hi (by omega)
    obtain ⟨w1, t1, hi1⟩ := iv_nxt hi
    have hf1 := frm_nxt hi hfr
    have et : X4_thinksLike (pr2 τ1 (X 0)) = some (bi (rdP v0 (nxt v))) := think_rd hi.1.1 hs1 hs0 hi1.2.1.1 hf1
    rw [X5_round_b13, if_neg (fun e => absurd ((n300 (by omega)).mp e) (by omega)), va_up_self, e1, Option.bind_some, bx_uu, va_up_self, va_up_ne _ _ (show (0 : Nat) ≠ 1 by decide), et, Option.bind_some, if_bi, srch]
    by_cases hq : rdP v0 (nxt v) = true
    · refine ⟨τ1, ?_⟩
      rw [if_pos hq, if_pos hq]
      unfold orN5
      rw [if_neg (fun e => absurd ((n300 (by omega)).mp e) (by omega))]
    · obtain ⟨τ2, e2⟩ := ih (j + 1) f (by omega) (by omega) (by omega) hs1 hi1 hf1
      refine ⟨τ2, ?_⟩
      rw [if_neg hq, if_neg hq, nI_1]
      exact e2
theorem round6 {n : Nat} {σ : MS} : ∀ (d j fuel : Nat) {B mi w t : Nat} {v : Nat → Int32} (c : Int32), j + d = 301 → d < fuel → Iv B n mi w t v → (∀ i, 81 ≤ i → v i = σ 0 i) → ∃ c', X6_round_b10 fuel (trs σ v c) (nI j) = X6_orNone (bk σ c') (nI (srch (rdP (σ 0)) d j v)) := by
  intro d
  induction d with
  | zero =>
    intro j fuel B mi w t v c hj hf hi hv
    obtain ⟨f, rfl⟩ : ∃ f, fuel = f + 1 := ⟨fuel - 1, by omega⟩
    refine ⟨c, ?_⟩
    rw [X6_round_b10, if_pos ((n300 (by omega)).mpr (by omega))]
    unfold X6_round_b34
    rw [trs_back σ c _ hv, Option.bind_some, bind_et, srch]
  | succ d ih =>
    intro j fuel B mi w t v c hj hf hi hv
    obtain ⟨f, rfl⟩ : ∃ f, fuel = f + 1 := ⟨fuel - 1, by omega⟩
    rw [X6_round_b10, if_neg (fun e => absurd ((n300 (by omega)).mp e) (by omega)), aside_rd, Option.bind_some, if_bi, srch]
    by_cases hq : rdP (σ 0) v = true
    · refine ⟨c, ?_⟩
      rw [if_pos hq, if_pos hq]
      unfold X6_round_b34
      rw [trs_back σ c _ hv, Option.bind_some, bind_et]
    · obtain ⟨w1, t1, hi1⟩ := iv_nxt hi
      obtain ⟨c2, e2⟩ := ih (j + 1) f (c + cme v) (by omega) (by omega) hi1 (fun i h => (nxt_hi hi h).trans (hv i h))
      refine ⟨c2, ?_⟩
      rw [if_neg hq, if_neg hq, trs_min hi, Option.bind_some, nI_1]
      exact e2
theorem st_round : St_round Rel := by
  intro k X σ hk h
  obtain ⟨hs, n, mi, w, t, hi⟩ := h.1
  have hm := hi.1.2.1
  obtain ⟨Xr, e1, hq⟩ := takeOver4 (X 1) (X 0) hs
  obtain ⟨τ', e2⟩ := round5 (X := X) hs 300 1 FU rfl (FU_lt (by decide)) (by omega) hq hi (fun p hp => ⟨rfl, rfl, fun _ _ _ => rfl⟩)
  obtain ⟨w1, t1, hi1⟩ := iv_nxt hi
  obtain ⟨c', e3⟩ := round6 (σ := σ) 300 1 FU (σ 22 6 + cme (σ 0)) rfl (FU_lt (by decide)) hi1 (fun i h => nxt_hi hi h)
  unfold X5_round X6_round
  rw [e1, Option.bind_some, lays6, Option.bind_some, trs_lay, trs_min hi, Option.bind_some, show (1 : Int32) = nI 1 from rfl, e2, e3]
  exact both_orN (h.tried τ' c') _
