/-! PURE 15: which would give most: subjectFor, kindFor, viewFor, voiceFor -/
def mbP (f xs : Nat → Int32) : Nat → Nat → Int32 → Int32 → Int32
  | 0, _, best, _ => best
  | e + 1, j, best, most => if f j ≤ most then mbP f xs e (j + 1) best most else mbP f xs e (j + 1) (xs j) (f j)
theorem fm0_rf (σ : MS) : FM0 σ σ := ⟨rfl, rfl, rfl, rfl, rfl, rfl, rfl, rfl⟩
theorem fm0_su {σ σ' : MS} (h : FM0 σ σ') (q : Nat) (y : Int32) : FM0 σ (su σ' 0 q y) := ⟨h.1, h.2.1, h.2.2.1, h.2.2.2.1, h.2.2.2.2.1, h.2.2.2.2.2.1, h.2.2.2.2.2.2.1, h.2.2.2.2.2.2.2⟩
theorem fm0_bk {σ σ' : MS} (h : FM0 σ σ') (c : Int32) : FM0 σ (bk σ' c) := ⟨h.1, h.2.1, h.2.2.1, h.2.2.2.1, h.2.2.2.2.1, h.2.2.2.2.2.1, h.2.2.2.2.2.2.1, h.2.2.2.2.2.2.2⟩
theorem fm0_fm {σ σ' : MS} (h0 : σ' 0 = σ 0) (h : FM0 σ σ') : FM σ σ' := ⟨h0, h⟩
theorem su_row {σ' : MS} {v0 : Nat → Int32} {q : Nat} {x : Int32} (h : σ' 0 = upd v0 q x) (y : Int32) : su σ' 0 q y 0 = upd v0 q y := by
  show upd (σ' 0) q y = upd v0 q y
  rw [h, upd_upd]
theorem fm_fix {σ σ' : MS} {q : Nat} {x : Int32} (h0 : σ' 0 = upd (σ 0) q x) (h : FM0 σ σ') : FM σ (su σ' 0 q (σ 0 q)) := fm0_fm (by rw [su_row h0, upd_self]) (fm0_su h q _)
theorem most6 {n a b d q cnt : Nat} {v0 xs : Nat → Int32} {hi : Int32} (ha : a < n) (hb : b < n) (hab : a ≠ b) (hd : d < 2000) (hq : q < 81) (hI : ∀ j, j < cnt → ∃ B mi w t, Iv B n mi w t (upd v0 q (xs j))) (hx : ∀ j, xs (j + 1) = xs j + 1) (hh : ∀ j, j ≤ cnt → (hi < xs j ↔ cnt ≤ j)) {σ : MS} : ∀ (e j fuel : Nat) (σ' : MS) (x best most : Int32), j + e = cnt → e < fuel → σ' 0 = upd v0 q x → FM0 σ σ' → ∃ σ'', X6_mostBy_b17 fuel σ' (nI q) hi (nI a) (nI b) (nI d) (v0 q) best most (xs j) = some (mbP (fun j => gvn (upd v0 q (xs j)) a b d) xs e j best most, σ'') ∧ σ'' 0 = v0 ∧ FM0 σ σ'' := by
  intro e
  induction e with
  | zero =>
    intro j fuel σ' x best most hj hf h0 hM
    obtain ⟨f, rfl⟩ : ∃ f, fuel = f + 1 := ⟨fuel - 1, by omega⟩
    refine ⟨su σ' 0 q (v0 q), ?_, by rw [su_row h0, upd_self], fm0_su hM q _⟩
    rw [X6_mostBy_b17, if_pos ((hh j (by omega)).mpr (by omega)), ai_n hq (by decide), nI_clamp (by omega)]
    rfl
  | succ e ih =>
    intro j fuel σ' x best most hj hf h0 hM
    obtain ⟨f, rfl⟩ : ∃ f, fuel = f + 1 := ⟨fuel - 1, by omega⟩
    obtain ⟨B, mi, w, t, hv⟩ := hI j (by omega)
    have hr := su_row h0 (xs j)
    have hg := given6 (σ := su σ' 0 q (xs j)) (by rw [hr]; exact hv) ha hb hab hd
    rw [hr] at hg
    have hM' := fm0_bk (fm0_su hM q (xs j)) (gvn (upd v0 q (xs j)) a b d)
    have hr' : bk (su σ' 0 q (xs j)) (gvn (upd v0 q (xs j)) a b d) 0 = upd v0 q (xs j) := hr
    rw [X6_mostBy_b17, if_neg (fun q2 => absurd ((hh j (by omega)).mp q2) (by omega)), ai_n hq (by decide), nI_clamp (by omega), hg, Option.bind_some]
    unfold X6_mostBy_b57
    rw [mbP, ← hx]
    by_cases hc : gvn (upd v0 q (xs j)) a b d ≤ most
    · rw [if_pos hc, if_pos hc, if_pos hc]
      exact ih (j + 1) f _ (xs j) best most (by omega) (by omega) hr' hM'
    · rw [if_neg hc, if_neg hc, if_neg hc]
      exact ih (j + 1) f _ (xs j) (xs j) _ (by omega) (by omega) hr' hM'
theorem subj5 {n a b d : Nat} {v0 : Nat → Int32} {X : XS} {B mi w t : Nat} (hs : Sq (X 0) v0) (hv : Iv B n mi w t v0) (ha : a < n) (hb : b < n) (hab : a ≠ b) (hd : d < 2000) (hm : mi + d ≤ 99999) : ∀ (e j fuel : Nat) (τ : MS) (best most : Int32), j + e = 6 → e < fuel → ∃ τ', X5_subjectFor_b35 fuel (va_up X 1 τ) (nI a) (nI b) (nI d) best most (nI j) = some (mbP (fun j => gvn (upd v0 3 (nI j)) a b d) nI e j best most, va_up X 1 τ') := by
  intro e
  induction e with
  | zero =>
    intro j fuel τ best most hj hf
    obtain ⟨f, rfl⟩ : ∃ f, fuel = f + 1 := ⟨fuel - 1, by omega⟩
    exact ⟨τ, by rw [X5_subjectFor_b35, show (6 : Int32) = nI 6 from rfl, le_nI (by omega) (by omega), if_pos (by omega)]; rfl⟩
  | succ e ih =>
    intro j fuel τ best most hj hf
    obtain ⟨f, rfl⟩ : ∃ f, fuel = f + 1 := ⟨fuel - 1, by omega⟩
    obtain ⟨Xr, e1, hq⟩ := takeOver4 τ (X 0) hs
    obtain ⟨τ', e2⟩ := pumpBy4 (hq.u3 (nI j)) (hv.set3 (t' := j) (by omega)) ha hb hab hd hm
    have e1' : X4_takeOver (pr2 (va_up X 1 τ 1) (va_up X 1 τ 0)) = some Xr := by
      rw [va_up_self, va_up_ne _ _ (show (0 : Nat) ≠ 1 by decide)]; exact e1
    rw [X5_subjectFor_b35, show (6 : Int32) = nI 6 from rfl, le_nI (by omega) (by omega), if_neg (by omega), e1', Option.bind_some, Option.bind_some]
    simp only [bx_uu, va_up_self]
    rw [e2, Option.bind_some, mbP, nI_1]
    by_cases hc : gvn (upd v0 3 (nI j)) a b d ≤ most
    · rw [if_pos hc, if_pos hc]
      exact ih (j + 1) f τ' best most (by omega) (by omega)
    · rw [if_neg hc, if_neg hc]
      exact ih (j + 1) f τ' (nI j) _ (by omega) (by omega)
theorem gainAs5 {n a b d wt : Nat} {v0 : Nat → Int32} {X : XS} {B mi w t : Nat} {x : Int32} (hs : Sq (X 0) v0) (hv : Iv B n mi w t (upd v0 (7 + 8 * a + wt) x)) (ha : a < n) (hb : b < n) (hab : a ≠ b) (hw : wt < 8) (hd : d < 2000) (hm : mi + d ≤ 99999) (τ : MS) : ∃ τ', X5_gainAs (va_up X 1 τ) (nI a) (nI b) (nI wt) x (nI d) = some (gvn (upd v0 (7 + 8 * a + wt) x) a b d, va_up X 1 τ') := by
  have hn := hv.1.1
  obtain ⟨Xr, e1, hq⟩ := takeOver4 τ (X 0) hs
  obtain ⟨τ1, e2, hq1⟩ := setTrait4 hq (p := a) (w := wt) (by omega) hw x
  obtain ⟨τ2, e3⟩ := pumpBy4 hq1 hv ha hb hab hd hm
  have e1' : X4_takeOver (pr2 (va_up X 1 τ 1) (va_up X 1 τ 0)) = some Xr := by
    rw [va_up_self, va_up_ne _ _ (show (0 : Nat) ≠ 1 by decide)]; exact e1
  refine ⟨τ2, ?_⟩
  unfold X5_gainAs
  rw [e1', Option.bind_some]
  simp only [bx_uu, va_up_self]
  rw [e2, Option.bind_some, e3, Option.bind_some]
theorem trait5 {n a b d wt cnt : Nat} {v0 xs : Nat → Int32} {hi : Int32} {X : XS} {mi : Nat} (hs : Sq (X 0) v0) (ha : a < n) (hb : b < n) (hab : a ≠ b) (hw : wt < 8) (hd : d < 2000) (hm : mi + d ≤ 99999) (hI : ∀ j, j < cnt → ∃ B w t, Iv B n mi w t (upd v0 (7 + 8 * a + wt) (xs j))) (hx : ∀ j, xs (j + 1) = xs j + 1) (hh : ∀ j, j ≤ cnt → (hi < xs j ↔ cnt ≤ j)) (hmt : X5_mostTrait (nI wt) = some hi) : ∀ (e j fuel : Nat) (τ : MS) (best most : Int32), j + e = cnt → e < fuel → ∃ τ', X5_bestTrait_b15 fuel (va_up X 1 τ) (nI a) (nI b) (nI wt) (nI d) best most (xs j) = some (mbP (fun j => gvn (upd v0 (7 + 8 * a + wt) (xs j)) a b d) xs e j best most, va_up X 1 τ') := by
  intro e
  induction e with
  | zero =>
    intro j fuel τ best most hj hf
    obtain ⟨f, rfl⟩ : ∃ f, fuel = f + 1 := ⟨fuel - 1, by omega⟩
    exact ⟨τ, by rw [X5_bestTrait_b15, hmt, Option.bind_some, if_pos ((hh j (by omega)).mpr (by omega))]; rfl⟩
  | succ e ih =>
    intro j fuel τ best most hj hf
    obtain ⟨f, rfl⟩ : ∃ f, fuel = f + 1 := ⟨fuel - 1, by omega⟩
    obtain ⟨B, w, t, hv⟩ := hI j (by omega)
    obtain ⟨τ', e2⟩ := gainAs5 hs hv ha hb hab hw hd hm τ
    rw [X5_bestTrait_b15, hmt, Option.bind_some, if_neg (fun q2 => absurd ((hh j (by omega)).mp q2) (by omega)), e2, Option.bind_some, mbP, ← hx]
    by_cases hc : gvn (upd v0 (7 + 8 * a + wt) (xs j)) a b d ≤ most
    · rw [if_pos hc, if_pos hc]
      exact ih (j + 1) f τ' best most (by omega) (by omega)
    · rw [if_neg hc, if_neg hc]
      exact ih (j + 1) f τ' (xs j) _ (by omega) (by omega)
def xv (j : Nat) : Int32 := (-9 : Int32) + nI j
theorem xv_s (j : Nat) : xv (j + 1) = xv j + 1 := by
  unfold xv
  rw [nI_succ, Int32.add_assoc]
theorem xv_hi : ∀ j, j ≤ 19 → ((9 : Int32) < xv j ↔ 19 ≤ j) := by
  have h : ∀ j, j < 20 → ((9 : Int32) < xv j ↔ 19 ≤ j) := by decide +kernel
  intro j hj
  exact h j (by omega)
theorem xv_in : ∀ j, j < 19 → inr (-9) 9 (xv j) = true := by decide +kernel
theorem mostBy6 {n a b d q cnt : Nat} {v0 xs : Nat → Int32} {hi : Int32} {σ : MS} (h0 : σ 0 = v0) (ha : a < n) (hb : b < n) (hab : a ≠ b) (hd : d < 2000) (hq : q < 81) (hc : cnt < 2000) (hI : ∀ j, j < cnt → ∃ B mi w t, Iv B n mi w t (upd v0 q (xs j))) (hx : ∀ j, xs (j + 1) = xs j + 1) (hh : ∀ j, j ≤ cnt → (hi < xs j ↔ cnt ≤ j)) : ∃ σ'', X6_mostBy σ (nI q) (xs 0) hi (nI a) (nI b) (nI d) = some (mbP (fun j => gvn (upd v0 q (xs j)) a b d) xs cnt 0 (xs 0) (-1), σ'') ∧ FM σ σ'' := by
  obtain ⟨σ'', e1, e2, e3⟩ := most6 ha hb hab hd hq hI hx hh (σ := σ) cnt 0 FU σ (v0 q) (xs 0) (-1) (by omega) (FU_lt hc) (by rw [h0, upd_self]) (fm0_rf σ)
  refine ⟨σ'', ?_, fm0_fm (e2.trans h0.symm) e3⟩
  unfold X6_mostBy
  rw [ai_n hq (by decide), nI_clamp (by omega), h0]
  exact e1
theorem st_subjectFor : St_subjectFor Rel := by
  intro k X σ p1 p2 p3 hk h
  obtain ⟨hs, n, mi, w, t, hi⟩ := h.1
  have hn := hi.1.1
  have hm := hi.1.2.1
  have h1 : σ 0 1 = nI n := hi.2.1.1
  have h2 : X 0 11 4 = nI n := by rw [← hs.1.2.1]; exact h1
  unfold X5_subjectFor X6_subjectFor X5_subjectFor_b19 X6_subjectFor_b29
  have e8 : inr (0 : Int32).toInt (60 : Int32).toInt p3 = inr 0 60 p3 := rfl
  simp only [out_eq, isSoon6, e8, noPair5 h2 hn, areTwo6 h1 hn, Option.bind_some, if_bi, bind_et]
  cases htw : twoP n p1 p2
  · exact bf_0 h
  · obtain ⟨a, b, ha, hb, hab, rfl, rfl⟩ := twoP_ex hn htw
    cases hb2 : inr 0 60 p3
    · exact bf_0 h
    · obtain ⟨d, hd, rfl⟩ := inr_nat (n := 61) (by decide) hb2
      simp only [Bool.not_true, if_true, Bool.false_eq_true, if_false]
      obtain ⟨τ', e5⟩ := subj5 hs hi ha hb hab (show d < 2000 by omega) (by omega) 6 0 FU (X 1) 0 (-1) rfl (FU_lt (by decide))
      have ex : va_up X 1 (X 1) = X := by
        funext c
        by_cases hc : c = 1
        · subst hc; exact va_up_self _ _ _
        · exact va_up_ne _ _ hc
      rw [ex] at e5
      obtain ⟨σ'', e6, hM⟩ := mostBy6 (σ := σ) (xs := nI) (hi := 5) (q := 3) (cnt := 6) rfl ha hb hab (show d < 2000 by omega) (by decide) (by decide) (fun j hj => ⟨_, _, _, _, hi.set3 (t' := j) hj⟩) (fun j => nI_succ j) (fun j hj => by
        rw [show (5 : Int32) = nI 5 from rfl, nI_ltI (by decide) (by omega)]; omega)
      exact ⟨_, _, σ'', e5, e6, (h.fr (FX.u1 X τ') hM).up⟩
theorem upd1_id (X : XS) : va_up X 1 (X 1) = X := by
  funext c
  by_cases hc : c = 1
  · subst hc; exact va_up_self _ _ _
  · exact va_up_ne _ _ hc
theorem st_kindFor : St_kindFor Rel := by
  intro k X σ p1 p2 p3 hk h
  obtain ⟨hs, n, mi, w, t, hi⟩ := h.1
  have hn := hi.1.1
  have hm := hi.1.2.1
  have h1 : σ 0 1 = nI n := hi.2.1.1
  have h2 : X 0 11 4 = nI n := by rw [← hs.1.2.1]; exact h1
  unfold X5_kindFor X6_kindFor X5_kindFor_b19 X6_kindFor_b34
  have e8 : inr (0 : Int32).toInt (60 : Int32).toInt p3 = inr 0 60 p3 := rfl
  simp only [out_eq, isSoon6, e8, noPair5 h2 hn, areTwo6 h1 hn, Option.bind_some, if_bi, bind_et]
  cases htw : twoP n p1 p2
  · exact bf_0 h
  · obtain ⟨a, b, ha, hb, hab, rfl, rfl⟩ := twoP_ex hn htw
    cases hb2 : inr 0 60 p3
    · exact bf_0 h
    · obtain ⟨d, hd, rfl⟩ := inr_nat (n := 61) (by decide) hb2
      simp only [Bool.not_true, if_true, Bool.false_eq_true, if_false]
      have hI : ∀ j, j < 7 → Iv (100 * k) n mi w t (upd (σ 0) (7 + 8 * a + 0) (nI j)) := fun j hj => hi.setT (by omega) (by decide) _ ⟨j, hj, rfl⟩
      have hh : ∀ j, j ≤ 7 → ((6 : Int32) < nI j ↔ 7 ≤ j) := fun j hj => by
        rw [show (6 : Int32) = nI 6 from rfl, nI_ltI (by decide) (by omega)]; omega
      obtain ⟨τ', e5⟩ := trait5 (X := X) (hi := 6) (xs := nI) (wt := 0) (cnt := 7) hs ha hb hab (by decide) (show d < 2000 by omega) (mi := mi) (by omega) (fun j hj => ⟨_, _, _, hI j hj⟩) (fun j => nI_succ j) hh rfl 7 0 FU (X 1) (nI 0) (-1) rfl (FU_lt (by decide))
      rw [upd1_id] at e5
      obtain ⟨σ'', e6, hM⟩ := mostBy6 (σ := σ) (xs := nI) (hi := 6) (q := 7 + 8 * a + 0) (cnt := 7) rfl ha hb hab (show d < 2000 by omega) (by omega) (by decide) (fun j hj => ⟨_, _, _, _, hI j hj⟩) (fun j => nI_succ j) hh
      refine ⟨mbP (fun j => gvn (upd (σ 0) (7 + 8 * a + 0) (nI j)) a b d) nI 7 0 (nI 0) (-1), va_up X 1 τ', σ'', ?_, ?_, (h.fr (FX.u1 X τ') hM).up⟩
      rotate_left
      · rw [show (0 : Int32) = nI 0 from rfl, place6, Option.bind_some]; exact e6
      · unfold X5_bestTrait X5_leastTrait
        rw [if_neg (by decide), Option.bind_some, Option.bind_some]
        exact e5
theorem st_viewFor : St_viewFor Rel := by
  intro k X σ p1 p2 p3 p4 hk h
  obtain ⟨hs, n, mi, w, t, hi⟩ := h.1
  have hn := hi.1.1
  have hm := hi.1.2.1
  have h1 : σ 0 1 = nI n := hi.2.1.1
  have h2 : X 0 11 4 = nI n := by rw [← hs.1.2.1]; exact h1
  unfold X5_viewFor X6_viewFor X5_viewFor_b27 X6_viewFor_b46
  have e8 : inr (0 : Int32).toInt (60 : Int32).toInt p4 = inr 0 60 p4 := rfl
  simp only [out_eq, isSoon6, e8, noPair5 h2 hn, areTwo6 h1 hn, noSub5, isSub6, Option.bind_some, if_bi, bind_et]
  cases htw : twoP n p1 p2
  · exact bf_0 h
  · obtain ⟨a, b, ha, hb, hab, rfl, rfl⟩ := twoP_ex hn htw
    cases hj : inr 0 5 p3
    · exact bf_0 h
    · obtain ⟨s, hs6, rfl⟩ := inr_nat (n := 6) (by decide) hj
      cases hb2 : inr 0 60 p4
      · exact bf_0 h
      · obtain ⟨d, hd, rfl⟩ := inr_nat (n := 61) (by decide) hb2
        simp only [Bool.not_true, if_true, Bool.false_eq_true, if_false]
        have hI : ∀ j, j < 19 → Iv (100 * k) n mi w t (upd (σ 0) (7 + 8 * a + (2 + s)) (xv j)) := fun j hj => by
          rw [show 7 + 8 * a + (2 + s) = 9 + 8 * a + s by omega]
          exact setV hi (by omega) hs6 _ (xv_in j hj)
        have hmt : X5_mostTrait (nI (2 + s)) = some 9 := by
          unfold X5_mostTrait
          rw [if_neg (fun e => by have := (nI_eq0 (by omega)).mp e; omega)]
          split <;> rfl
        obtain ⟨τ', e5⟩ := trait5 (X := X) (hi := 9) (xs := xv) (wt := 2 + s) (cnt := 19) hs ha hb hab (by omega) (show d < 2000 by omega) (mi := mi) (by omega) (fun j hj => ⟨_, _, _, hI j hj⟩) xv_s xv_hi hmt 19 0 FU (X 1) (xv 0) (-1) rfl (FU_lt (by decide))
        rw [upd1_id] at e5
        obtain ⟨σ'', e6, hM⟩ := mostBy6 (σ := σ) (xs := xv) (hi := 9) (q := 7 + 8 * a + (2 + s)) (cnt := 19) rfl ha hb hab (show d < 2000 by omega) (by omega) (by decide) (fun j hj => ⟨_, _, _, _, hI j hj⟩) xv_s xv_hi
        refine ⟨mbP (fun j => gvn (upd (σ 0) (7 + 8 * a + (2 + s)) (xv j)) a b d) xv 19 0 (xv 0) (-1), va_up X 1 τ', σ'', ?_, ?_, (h.fr (FX.u1 X τ') hM).up⟩
        rotate_left
        · rw [show (2 : Int32) = nI 2 from rfl, nI_add, place6, Option.bind_some]; exact e6
        · unfold X5_bestTrait X5_leastTrait
          rw [show (2 : Int32) = nI 2 from rfl, nI_add, if_pos (nI_le (by omega) (by omega)), Option.bind_some, Option.bind_some]
          exact e5
theorem voice_in {k n a b d : Nat} {z : Int32} {X : XS} {σ : MS} {mi w t : Nat} (hR : Rel k X σ) (hs : Sq (X 0) (σ 0)) (hi : Iv (100 * k) n mi w t (σ 0)) (ha : a < n) (hb : b < n) (hab : a ≠ b) (hd : d < 2000) (hm : mi + d ≤ 99999) : ∀ (e j f5 f6 : Nat) (τ : MS) (σ' : MS) (x : Int32), j + e = 10 → e < f5 → e < f6 → σ' 0 = upd (σ 0) (7 + 8 * a + 1) x → FM0 σ σ' → Con k (X5_voiceFor_b41 f5 (va_up X 1 τ) (nI a) (nI b) z (nI d) (nI j)) (X6_voiceFor_b50 f6 σ' (nI a) (nI b) z (nI d) (σ 0 (7 + 8 * a + 1)) (-1) (nI j)) := by
  have hn := hi.1.1
  intro e
  induction e with
  | zero =>
    intro j f5 f6 τ σ' x hj h5 h6 h0 hM
    obtain ⟨g5, rfl⟩ : ∃ f, f5 = f + 1 := ⟨f5 - 1, by omega⟩
    obtain ⟨g6, rfl⟩ : ∃ f, f6 = f + 1 := ⟨f6 - 1, by omega⟩
    have c : (9 : Int32) < nI j := (nI_ltI (a := 9) (by decide) (by omega)).mpr (by omega)
    rw [X5_voiceFor_b41, X6_voiceFor_b50, if_pos c, if_pos c, bind_et]
    unfold X6_voiceFor_b100
    rw [show (1 : Int32) = nI 1 from rfl, place6, Option.bind_some, ai_n (by omega) (by decide), nI_clamp (by omega), if_neg (by decide), bind_et]
    exact bf_3 (hR.fr (FX.u1 X τ) (fm_fix h0 hM))
  | succ e ih =>
    intro j f5 f6 τ σ' x hj h5 h6 h0 hM
    obtain ⟨g5, rfl⟩ : ∃ f, f5 = f + 1 := ⟨f5 - 1, by omega⟩
    obtain ⟨g6, rfl⟩ : ∃ f, f6 = f + 1 := ⟨f6 - 1, by omega⟩
    have c : ¬ (9 : Int32) < nI j := fun q => by have := (nI_ltI (a := 9) (by decide) (by omega)).mp q; omega
    have hv : Iv (100 * k) n mi w t (upd (σ 0) (7 + 8 * a + 1) (nI j)) := hi.setT (by omega) (by decide) _ ⟨j, by omega, rfl⟩
    have hr := su_row h0 (nI j)
    have hg := given6 (σ := su σ' 0 (7 + 8 * a + 1) (nI j)) (by rw [hr]; exact hv) ha hb hab hd
    rw [hr] at hg
    obtain ⟨τ', e2⟩ := gainAs5 hs hv ha hb hab (by decide) hd hm τ
    have hM' := fm0_bk (fm0_su hM (7 + 8 * a + 1) (nI j)) (gvn (upd (σ 0) (7 + 8 * a + 1) (nI j)) a b d)
    have hr' : bk (su σ' 0 (7 + 8 * a + 1) (nI j)) (gvn (upd (σ 0) (7 + 8 * a + 1) (nI j)) a b d) 0 = upd (σ 0) (7 + 8 * a + 1) (nI j) := hr
    rw [X5_voiceFor_b41, X6_voiceFor_b50, if_neg c, if_neg c, if_neg (by decide), show (1 : Int32) = nI 1 from rfl, e2, place6, Option.bind_some, Option.bind_some, ai_n (by omega) (by decide), nI_clamp (by omega), hg, Option.bind_some, nI_add]
    by_cases hc : gvn (upd (σ 0) (7 + 8 * a + 1) (nI j)) a b d < z
    · rw [if_pos hc, if_pos hc]
      exact ih (j + 1) g5 g6 τ' _ (nI j) (by omega) (by omega) (by omega) hr' hM'
    · rw [if_neg hc, if_neg hc]
      obtain ⟨h6, rfl⟩ : ∃ f, g6 = f + 1 := ⟨g6 - 1, by omega⟩
      have done : X6_voiceFor_b100 (bk (su σ' 0 (7 + 8 * a + 1) (nI j)) (gvn (upd (σ 0) (7 + 8 * a + 1) (nI j)) a b d)) (nI a) (σ 0 (7 + 8 * a + 1)) (nI j) = some (nI j, su (bk (su σ' 0 (7 + 8 * a + 1) (nI j)) (gvn (upd (σ 0) (7 + 8 * a + 1) (nI j)) a b d)) 0 (7 + 8 * a + 1) (σ 0 (7 + 8 * a + 1))) := by
        unfold X6_voiceFor_b100
        rw [show (1 : Int32) = nI 1 from rfl, place6, Option.bind_some, ai_n (by omega) (by decide), nI_clamp (by omega), if_pos (nI_pos' (by omega))]
      rw [X6_voiceFor_b50, if_pos (nI_pos' (n := j) (by omega)), done]
      refine ⟨nI j, va_up X 1 τ', su (bk (su σ' 0 (7 + 8 * a + 1) (nI j)) (gvn (upd (σ 0) (7 + 8 * a + 1) (nI j)) a b d)) 0 (7 + 8 * a + 1) (σ 0 (7 + 8 * a + 1)), rfl, ?_, (hR.fr (FX.u1 X τ') (fm_fix hr' hM')).up⟩
      split <;> rfl
theorem st_voiceFor : St_voiceFor Rel := by
  intro k X σ p1 p2 p3 p4 hk h
  obtain ⟨hs, n, mi, w, t, hi⟩ := h.1
  have hn := hi.1.1
  have hm := hi.1.2.1
  have h1 : σ 0 1 = nI n := hi.2.1.1
  have h2 : X 0 11 4 = nI n := by rw [← hs.1.2.1]; exact h1
  unfold X5_voiceFor X6_voiceFor X5_voiceFor_b31 X6_voiceFor_b29
  have e8 : inr (0 : Int32).toInt (60 : Int32).toInt p4 = inr 0 60 p4 := rfl
  have e9 : inr (0 : Int32).toInt (9999 : Int32).toInt p3 = inr 0 9999 p3 := rfl
  have f9 : inr (0 : Int64).toInt (9999 : Int64).toInt p3 = inr 0 9999 p3 := rfl
  simp only [out_eq, in32, isSoon6, e8, e9, f9, noPair5 h2 hn, areTwo6 h1 hn, Option.bind_some, if_bi, bind_et]
  cases htw : twoP n p1 p2
  · exact bf_0 h
  · obtain ⟨a, b, ha, hb, hab, rfl, rfl⟩ := twoP_ex hn htw
    cases hj : inr 0 9999 p3
    · exact bf_0 h
    · cases hb2 : inr 0 60 p4
      · exact bf_0 h
      · obtain ⟨d, hd, rfl⟩ := inr_nat (n := 61) (by decide) hb2
        simp only [Bool.not_true, if_true, Bool.false_eq_true, if_false]
        have ei : X6_its σ (nI a) 1 = some (σ 0 (7 + 8 * a + 1)) := its6 (w := 1) (by omega) (by decide)
        rw [ei, Option.bind_some]
        have := voice_in (z := p3) h hs hi ha hb hab (show d < 2000 by omega) (by omega) 10 0 FU FU (X 1) σ (σ 0 (7 + 8 * a + 1)) rfl (FU_lt (by decide)) (FU_lt (by decide)) (upd_self _ _).symm (fm0_rf σ)
        rw [upd1_id] at this
        exact this
