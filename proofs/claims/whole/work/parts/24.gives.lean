/-! PURE 14: what two would give; gives, best, partner -/
def seatv (v : Nat → Int32) (a b : Nat) : Nat → Int32 := upd (upd v 5 (nI a)) 6 (nI b)
def gvn (v : Nat → Int32) (a b d : Nat) : Int32 := cms d (seatv v a b) 0
theorem iv_seat {B n mi w t a b : Nat} {v : Nat → Int32} (h : Iv B n mi w t v) (ha : a < n) (hb : b < n) (hab : a ≠ b) : Iv B n mi w t (seatv v a b) := h.setH _ _ (Or.inr ⟨a, b, ha, hb, hab, rfl, rfl⟩)
theorem pumpBy4 {B n mi w t a b d : Nat} {τ : MS} {v : Nat → Int32} (hs : Sq τ v) (hi : Iv B n mi w t v) (ha : a < n) (hb : b < n) (hab : a ≠ b) (hd : d < 2000) (hm : mi + d ≤ 99999) : ∃ τ', X4_pumpBy τ (nI a) (nI b) (nI d) = some (gvn v a b d, τ') := by
  obtain ⟨τ', e, -⟩ := pump4 d 0 FU d 0 (by omega) hd (FU_lt hd) hm ((hs.u5 (nI a)).u6 (nI b)) (iv_seat hi ha hb hab)
  refine ⟨τ', ?_⟩
  unfold X4_pumpBy X4_seat
  rw [Option.bind_some]
  exact e
theorem given6 {B n mi w t a b d : Nat} {σ : MS} (hi : Iv B n mi w t (σ 0)) (ha : a < n) (hb : b < n) (hab : a ≠ b) (hd : d < 2000) : X6_given σ (nI a) (nI b) (nI d) = some (gvn (σ 0) a b d, bk σ (gvn (σ 0) a b d)) := by
  unfold X6_given
  rw [lays6, Option.bind_some]
  have e : su (su (su (cpj σ 3 0 81) 0 5 (nI a)) 0 6 (nI b)) 22 6 0 = trs σ (seatv (σ 0) a b) 0 := by
    unfold trs seatv
    rw [su_eq_sr (cpj σ 3 0 81), su_sr]
    rfl
  have hi2 := iv_seat hi ha hb hab
  rw [e, trs_go hi2 hd, Option.bind_some, trs_6, bind_et, trs_back σ _ _ (fun i h => (itn_hi h d hi2).trans ?_)]
  · rfl
  · unfold seatv
    rw [upd_n (by omega), upd_n (by omega)]
theorem gain5 {B n mi w t a b d : Nat} {X : XS} {v : Nat → Int32} (hs : Sq (X 0) v) (hi : Iv B n mi w t v) (ha : a < n) (hb : b < n) (hab : a ≠ b) (hd : d < 2000) (hm : mi + d ≤ 99999) : ∃ τ', X5_gain X (nI a) (nI b) (nI d) = some (gvn v a b d, va_up X 1 τ') := by
  obtain ⟨Xr, e1, hq⟩ := takeOver4 (X 1) (X 0) hs
  obtain ⟨τ', e2⟩ := pumpBy4 hq hi ha hb hab hd hm
  refine ⟨τ', ?_⟩
  unfold X5_gain
  rw [e1, Option.bind_some, va_up_self, e2, Option.bind_some, bx_uu]
/-- both ask how much two give: the same answer, and the states go on alike -/
theorem gain_both {k n a b d : Nat} {X : XS} {σ : MS} (hk : k < 512) (h : Rel k X σ) (hn1 : σ 0 1 = nI n) (hn8 : n ≤ 8) (ha : a < n) (hb : b < n) (hab : a ≠ b) (hd : d ≤ 60) : ∃ X' σ', X5_gain X (nI a) (nI b) (nI d) = some (gvn (σ 0) a b d, X') ∧ X6_given σ (nI a) (nI b) (nI d) = some (gvn (σ 0) a b d, σ') ∧ Rel k X' σ' ∧ σ' 0 = σ 0 := by
  obtain ⟨hs, n', mi, w, t, hi⟩ := h.1
  have hm := hi.1.2.1
  have en : n' = n := by
    have h1 : σ 0 1 = nI n' := hi.2.1.1
    rw [hn1] at h1
    have := hi.1.1
    exact ((nI_eq (by omega) (by omega)).mp h1).symm
  subst en
  obtain ⟨τ', e1⟩ := gain5 (d := d) hs hi ha hb hab (by omega) (by omega)
  exact ⟨_, _, e1, given6 (d := d) hi ha hb hab (by omega), h.tried τ' _, rfl⟩
theorem people5 {k n : Nat} {X : XS} {σ : MS} (h : Rel k X σ) (hn1 : σ 0 1 = nI n) : X 0 11 4 = nI n := by
  obtain ⟨hs, -⟩ := h.1
  rw [← hs.1.2.1]; exact hn1
def Con (k : Nat) (a : Option (Int32 × XS)) (b : Option (Int32 × MS)) : Prop := ∃ (r : Int32) (X' : XS) (σ' : MS), a = some (r, X') ∧ b = some (r, σ') ∧ Rel (k + 1) X' σ'
theorem st_gives : St_gives Rel := by
  intro k X σ p1 p2 p3 hk h
  obtain ⟨hs, n, mi, w, t, hi⟩ := h.1
  have hn := hi.1.1
  have h1 : σ 0 1 = nI n := hi.2.1.1
  have h2 : X 0 11 4 = nI n := by rw [← hs.1.2.1]; exact h1
  unfold X5_gives X6_gives X5_gives_b19 X6_gives_b26
  have e8 : inr (0 : Int32).toInt (60 : Int32).toInt p3 = inr 0 60 p3 := rfl
  simp only [out_eq, isSoon6, e8, noPair5 h2 hn, areTwo6 h1 hn, Option.bind_some, if_bi, bind_et]
  cases htw : twoP n p1 p2
  · exact bf_0 h
  · obtain ⟨a, b, ha, hb, hab, rfl, rfl⟩ := twoP_ex hn htw
    cases hb2 : inr 0 60 p3
    · exact bf_0 h
    · obtain ⟨d, hd, rfl⟩ := inr_nat (n := 61) (by decide) hb2
      obtain ⟨X', σ', g1, g2, hR, -⟩ := gain_both hk h h1 hn ha hb hab (by omega : d ≤ 60)
      exact ⟨_, X', σ', g1, g2, hR.up⟩
/-- the best so far: none, or a pair (a person) told alike -/
def bst (x y : Int32) : Prop := (x = -1000004 ∧ y = -1) ∨ (x = y ∧ ∃ q : Nat, q < 100 ∧ x = nI q)
theorem best_in {k n d : Nat} (hk : k < 512) (hn8 : n ≤ 8) (hd : d ≤ 60) {a : Nat} (ha : a < n) (k5 : XS → Int32 → Int32 → Int32 → Int32 → Option (Int32 × XS)) (k6 : MS → Int32 → Int32 → Int32 → Int32 → Option (Int32 × MS)) (hK : ∀ (X : XS) (σ : MS) (x y m : Int32), Rel k X σ → σ 0 1 = nI n → bst x y → Con k (k5 X (nI d) x m (nI (a + 1))) (k6 σ (nI d) y m (nI (a + 1)))) : ∀ (e j f5 f6 : Nat) (X : XS) (σ : MS) (x y m : Int32), j + e = n → a < j → e < f5 → e < f6 → Rel k X σ → σ 0 1 = nI n → bst x y → Con k (X5_best_b43 k5 f5 X (nI d) x m (nI a) (nI j)) (X6_best_b38 k6 f6 σ (nI d) y m (nI a) (nI j)) := by
  intro e
  induction e with
  | zero =>
    intro j f5 f6 X σ x y m hj haj h5 h6 hR h1 hb
    obtain ⟨g5, rfl⟩ : ∃ f, f5 = f + 1 := ⟨f5 - 1, by omega⟩
    obtain ⟨g6, rfl⟩ : ∃ f, f6 = f + 1 := ⟨f6 - 1, by omega⟩
    rw [X5_best_b43, X6_best_b38, people5 hR h1, h1, le_nI (by omega) (by omega), le_nI (by omega) (by omega), if_pos (show n ≤ j by omega), if_pos (show n ≤ j by omega), nI_1]
    exact hK X σ x y m hR h1 hb
  | succ e ih =>
    intro j f5 f6 X σ x y m hj haj h5 h6 hR h1 hb
    obtain ⟨g5, rfl⟩ : ∃ f, f5 = f + 1 := ⟨f5 - 1, by omega⟩
    obtain ⟨g6, rfl⟩ : ∃ f, f6 = f + 1 := ⟨f6 - 1, by omega⟩
    obtain ⟨X', σ', q1, q2, hR', h0⟩ := gain_both hk hR h1 hn8 ha (show j < n by omega) (by omega) hd
    have h1' : σ' 0 1 = nI n := by rw [h0]; exact h1
    rw [X5_best_b43, X6_best_b38, people5 hR h1, h1, le_nI (by omega) (by omega), le_nI (by omega) (by omega), if_neg (show ¬ n ≤ j by omega), if_neg (show ¬ n ≤ j by omega), q1, q2, Option.bind_some, Option.bind_some]
    unfold X6_best_b78
    by_cases hg : gvn (σ 0) a j d ≤ m
    · rw [if_pos hg, if_pos hg, if_pos hg, nI_1]
      exact ih (j + 1) g5 g6 X' σ' x y m (by omega) (by omega) (by omega) (by omega) hR' h1' hb
    · rw [if_neg hg, if_neg hg, if_neg hg, nI_1]
      have ep : X5_pairNumber (nI a) (nI j) = some (nI (8 * a + j)) := by
        unfold X5_pairNumber
        rw [show (8 : Int32) = nI 8 from rfl, pk_mul, nI_add]
      rw [ep, Option.bind_some, show (8 : Int32) = nI 8 from rfl, pk_mul, nI_add]
      exact ih (j + 1) g5 g6 X' σ' _ _ _ (by omega) (by omega) (by omega) (by omega) hR' h1' (Or.inr ⟨rfl, 8 * a + j, by omega, rfl⟩)
theorem bst_end {k : Nat} {X : XS} {σ : MS} {x y : Int32} (hR : Rel k X σ) (hb : bst x y) : Con k (if x = (-1000004 : Int32) then X5_found X (-1000004) else some (x, X)) (if (0 : Int32) ≤ y then some (y, σ) else X6_finds σ (-1000004)) := by
  rcases hb with ⟨rfl, rfl⟩ | ⟨rfl, q, hq, rfl⟩
  · rw [if_pos rfl, if_neg (by decide)]
    exact bf_3 hR
  · rw [if_pos (nI_pos' (by omega)), if_neg]
    · exact hR.asks _ rfl rfl
    · intro e
      have e1 := congrArg Int32.toInt e
      rw [nI_toInt (by omega)] at e1
      have e2 : (-1000004 : Int32).toInt = -1000004 := by decide
      omega
theorem best_out {k n d : Nat} (hk : k < 512) (hn8 : n ≤ 8) (hd : d ≤ 60) : ∀ (e a f5 f6 : Nat) (X : XS) (σ : MS) (x y m : Int32), a + e = n → e < f5 → e < f6 → Rel k X σ → σ 0 1 = nI n → bst x y → Con k (X5_best_b25 f5 X (nI d) x m (nI a)) (X6_best_b21 f6 σ (nI d) y m (nI a)) := by
  intro e
  induction e with
  | zero =>
    intro a f5 f6 X σ x y m ha h5 h6 hR h1 hb
    obtain ⟨g5, rfl⟩ : ∃ f, f5 = f + 1 := ⟨f5 - 1, by omega⟩
    obtain ⟨g6, rfl⟩ : ∃ f, f6 = f + 1 := ⟨f6 - 1, by omega⟩
    rw [X5_best_b25, X6_best_b21, people5 hR h1, h1, le_nI (by omega) (by omega), le_nI (by omega) (by omega), if_pos (show n ≤ a by omega), if_pos (show n ≤ a by omega), bind_et, bind_et]
    exact bst_end hR hb
  | succ e ih =>
    intro a f5 f6 X σ x y m ha h5 h6 hR h1 hb
    obtain ⟨g5, rfl⟩ : ∃ f, f5 = f + 1 := ⟨f5 - 1, by omega⟩
    obtain ⟨g6, rfl⟩ : ∃ f, f6 = f + 1 := ⟨f6 - 1, by omega⟩
    rw [X5_best_b25, X6_best_b21, people5 hR h1, h1, le_nI (by omega) (by omega), le_nI (by omega) (by omega), if_neg (show ¬ n ≤ a by omega), if_neg (show ¬ n ≤ a by omega), nI_1]
    exact best_in hk hn8 hd (show a < n by omega) _ _ (fun X σ x y m hR h1 hb => ih (a + 1) g5 g6 X σ x y m (by omega) (by omega) (by omega) hR h1 hb) (n - (a + 1)) (a + 1) FU FU X σ x y m (by omega) (by omega) (FU_lt (by omega)) (FU_lt (by omega)) hR h1 hb
theorem st_best : St_best Rel := by
  intro k X σ p1 hk h
  obtain ⟨hs, n, mi, w, t, hi⟩ := h.1
  have hn := hi.1.1
  have h1 : σ 0 1 = nI n := hi.2.1.1
  unfold X5_best X6_best
  have e8 : inr (0 : Int32).toInt (60 : Int32).toInt p1 = inr 0 60 p1 := rfl
  simp only [out_eq, isSoon6, e8, Option.bind_some, if_bi, bind_et]
  cases hb : inr 0 60 p1
  · exact bf_0 h
  · obtain ⟨d, hd, rfl⟩ := inr_nat (n := 61) (by decide) hb
    exact best_out hk hn (by omega : d ≤ 60) n 0 FU FU X σ _ _ _ (by omega) (FU_lt (by omega)) (FU_lt (by omega)) h h1 (Or.inl ⟨rfl, rfl⟩)
theorem partner_in {k n d p : Nat} (hk : k < 512) (hn8 : n ≤ 8) (hd : d ≤ 60) (hp : p < n) : ∀ (e j f5 f6 : Nat) (X : XS) (σ : MS) (x y m : Int32), j + e = n → e < f5 → e < f6 → Rel k X σ → σ 0 1 = nI n → bst x y → (-1 : Int32) ≤ m → Con k (X5_partner_b37 f5 X (nI p) (nI d) x m (nI j)) (X6_partner_b30 f6 σ (nI p) (nI d) y m (nI j)) := by
  intro e
  induction e with
  | zero =>
    intro j f5 f6 X σ x y m hj h5 h6 hR h1 hb hm
    obtain ⟨g5, rfl⟩ : ∃ f, f5 = f + 1 := ⟨f5 - 1, by omega⟩
    obtain ⟨g6, rfl⟩ : ∃ f, f6 = f + 1 := ⟨f6 - 1, by omega⟩
    rw [X5_partner_b37, X6_partner_b30, people5 hR h1, h1, le_nI (by omega) (by omega), le_nI (by omega) (by omega), if_pos (show n ≤ j by omega), if_pos (show n ≤ j by omega), bind_et, bind_et]
    exact bst_end hR hb
  | succ e ih =>
    intro j f5 f6 X σ x y m hj h5 h6 hR h1 hb hm
    obtain ⟨g5, rfl⟩ : ∃ f, f5 = f + 1 := ⟨f5 - 1, by omega⟩
    obtain ⟨g6, rfl⟩ : ∃ f, f6 = f + 1 := ⟨f6 - 1, by omega⟩
    rw [X5_partner_b37, X6_partner_b30, people5 hR h1, h1, le_nI (by omega) (by omega), le_nI (by omega) (by omega), if_neg (show ¬ n ≤ j by omega), if_neg (show ¬ n ≤ j by omega)]
    unfold X5_partner_b67 X6_partner_b59 X6_partner_b74
    by_cases ejp : j = p
    · subst ejp
      rw [if_pos rfl, if_pos rfl, if_pos hm, if_pos hm, if_pos hm, nI_1]
      exact ih (j + 1) g5 g6 X σ x y m (by omega) (by omega) (by omega) hR h1 hb hm
    · have ne : ¬ nI j = nI p := fun q => ejp ((nI_eq (by omega) (by omega)).mp q)
      obtain ⟨X', σ', q1, q2, hR', h0⟩ := gain_both hk hR h1 hn8 hp (show j < n by omega) (fun q => ejp q.symm) hd
      have h1' : σ' 0 1 = nI n := by rw [h0]; exact h1
      rw [if_neg ne, if_neg ne, q1, q2, Option.bind_some, Option.bind_some]
      by_cases hg : gvn (σ 0) p j d ≤ m
      · rw [if_pos hg, if_pos hg, if_pos hg, nI_1]
        exact ih (j + 1) g5 g6 X' σ' x y m (by omega) (by omega) (by omega) hR' h1' hb hm
      · rw [if_neg hg, if_neg hg, if_neg hg, nI_1]
        refine ih (j + 1) g5 g6 X' σ' _ _ _ (by omega) (by omega) (by omega) hR' h1' (Or.inr ⟨rfl, j, by omega, rfl⟩) ?_
        have c1 := Int32.le_iff_toInt_le.mp hm
        have c2 : ¬ (gvn (σ 0) p j d).toInt ≤ m.toInt := fun q => hg (Int32.le_iff_toInt_le.mpr q)
        refine Int32.le_iff_toInt_le.mpr ?_
        show (-1 : Int32).toInt ≤ (gvn (σ 0) p j d).toInt
        omega
theorem st_partner : St_partner Rel := by
  intro k X σ p1 p2 hk h
  obtain ⟨hs, n, mi, w, t, hi⟩ := h.1
  have hn := hi.1.1
  have h1 : σ 0 1 = nI n := hi.2.1.1
  have h2 : X 0 11 4 = nI n := by rw [← hs.1.2.1]; exact h1
  unfold X5_partner X6_partner X5_partner_b21 X6_partner_b15
  have e8 : inr (0 : Int32).toInt (60 : Int32).toInt p2 = inr 0 60 p2 := rfl
  simp only [out_eq, isSoon6, e8, Option.bind_some, if_bi, isThere4 h2 hn, isPerson6 h1 hn, bind_et]
  cases hp : isP n p1
  · exact bf_0 h
  · obtain ⟨p, hpn, rfl⟩ := isP_ex (by omega) hp
    cases hb : inr 0 60 p2
    · exact bf_0 h
    · obtain ⟨d, hd, rfl⟩ := inr_nat (n := 61) (by decide) hb
      exact partner_in hk hn (by omega : d ≤ 60) hpn n 0 FU FU X σ _ _ _ (by omega) (FU_lt (by omega)) (FU_lt (by omega)) h h1 (Or.inl ⟨rfl, rfl⟩) (by decide)
