/-! PURE 4: checks of numbers and people in both; calls without minutes -/
theorem bind_et {α β : Type} (o : Option (α × β)) : (o.bind fun q => some (q.1, q.2)) = o := by cases o <;> rfl
theorem l32_0 : ((0 : Int64)).toInt = 0 := by decide
theorem isSub6 (x : Int32) : X6_isSubject x = some (bi (inr 0 5 x)) := by
  unfold X6_isSubject
  rw [in32, Option.bind_some, zb_b]; rfl
theorem isSpot6 (x : Int32) : X6_isSpot x = some (bi (inr 0 9 x)) := by
  unfold X6_isSpot
  rw [in32, Option.bind_some, zb_b]; rfl
theorem isKind6 (x : Int32) : X6_isKind x = some (bi (inr 0 6 x)) := by
  unfold X6_isKind
  rw [in32, Option.bind_some, zb_b]; rfl
theorem isView6 (x : Int32) : X6_isView x = some (bi (inr (-9) 9 x)) := by
  unfold X6_isView
  rw [in32, Option.bind_some, zb_b]; rfl
theorem isOne6 (x : Int32) : X6_isOne x = some (bi (inr 0 3 x)) := by
  unfold X6_isOne
  rw [in32, Option.bind_some, zb_b]; rfl
theorem isSoon6 (x : Int32) : X6_isSoon x = some (bi (inr 0 60 x)) := by
  unfold X6_isSoon
  rw [in32, Option.bind_some, zb_b]; rfl
theorem noSub5 (x : Int32) : X5_isNoSubject x = some (bi (!inr 0 5 x)) := by
  unfold X5_isNoSubject
  rw [out_eq, Option.bind_some, zb_b]; rfl
theorem noSheet5 (x : Int32) : X5_isNoSheet x = some (bi (!inr 0 3 x)) := by
  unfold X5_isNoSheet
  rw [out_eq, Option.bind_some, zb_b]; rfl
/-- is there such a one -/
def isP (n : Nat) (x : Int32) : Bool := inr 0 ((n : Int) - 1) x
theorem isP_n {n j : Nat} (hj : j < 2 ^ 31) : isP n (nI j) = decide (j < n) := inr_nI hj
theorem isP_ex {n : Nat} {x : Int32} (hn : n < 2 ^ 31) (h : isP n x = true) : ∃ j : Nat, j < n ∧ x = nI j := inr_nat hn h
theorem m1_toInt {n : Nat} (hn : n ≤ 8) : (nI n - 1).toInt = (n : Int) - 1 := by
  have : (1 : Int32) = nI 1 := rfl
  rw [this, pk_sub_toInt (by omega) (by omega)]; rfl
theorem isPerson6 {σ : MS} {n : Nat} (h1 : σ 0 1 = nI n) (hn : n ≤ 8) (x : Int32) : X6_isPerson σ x = some (bi (isP n x)) := by
  unfold X6_isPerson
  rw [in32, Option.bind_some, zb_b, h1, Int32.toInt_toInt64, m1_toInt hn]; rfl
theorem isThere4 {τ : MS} {n : Nat} (h1 : τ 11 4 = nI n) (hn : n ≤ 8) (x : Int32) : X4_isThere τ x = some (bi (isP n x)) := by
  unfold X4_isThere isP inr
  rw [h1]
  by_cases h2 : x.toInt < 0
  · rw [if_pos (Int32.lt_iff_toInt_lt.mpr h2), decide_eq_false (by omega)]; rfl
  · rw [if_neg (fun h => h2 (Int32.lt_iff_toInt_lt.mp h))]
    have e : (nI n).toInt = (n : Int) := nI_toInt (by omega)
    by_cases h3 : (n : Int) ≤ x.toInt
    · rw [if_pos (Int32.le_iff_toInt_le.mpr (by rw [e]; exact h3)), decide_eq_false (by omega)]; rfl
    · rw [if_neg (fun h => h3 (by have := Int32.le_iff_toInt_le.mp h; rw [e] at this; exact this)), decide_eq_true (by omega)]; rfl
theorem isP_m1 (n : Nat) : isP n (-1) = false := by
  unfold isP inr
  exact decide_eq_false (fun h => absurd h.1 (by decide))
theorem becomes6 {σ : MS} {j : Nat} (hj : j < 81) (x : Int32) : X6_becomes σ (nI j) x = some (σ 0 j, su σ 0 j x) := by
  unfold X6_becomes
  rw [ai_n hj (by decide), ai_n hj (by decide), nI_clamp (by omega)]
theorem st_wipe : St_wipe Rel := by
  intro k X σ hk h
  obtain ⟨h1, h2, h3, ⟨tl, t1, t2, t3, t4⟩, h5⟩ := h.up
  refine ⟨σ 22 13, va_up X 3 (su (X 3) 6 1 0), su σ 22 13 0, by rw [t3, ← t2]; rfl, rfl, ?_⟩
  refine ⟨h1, h2, h3, ⟨0, by omega, rfl, rfl, fun j hj => absurd hj (by omega)⟩, fun s hs => ?_⟩
  rw [va_up_ne (k := 3) _ _ (show 5 + s ≠ 3 by omega)]
  exact h5 s hs
theorem Rel.setK {k : Nat} {X : XS} {σ : MS} (h : Rel k X σ) (τ : MS) (x : Int32) (σ' : MS) (hk : R_kept (100 * (k + 1)) x τ (σ' 1) (σ' 22 5)) (hM : σ' 0 = σ 0 ∧ σ' 4 = σ 4 ∧ σ' 12 = σ 12 ∧ σ' 18 = σ 18 ∧ σ' 19 = σ 19 ∧ σ' 20 = σ 20 ∧ σ' 22 13 = σ 22 13) (X' : XS) (hX : X' 0 = X 0 ∧ X' 2 = τ ∧ X' 3 = X 3 ∧ X' 9 7 = X 9 7 ∧ X' 9 8 3 = x ∧ ∀ s, s < 4 → X' (5 + s) = X (5 + s)) : Rel (k + 1) X' σ' := by
  obtain ⟨h1, h2, h3, h4, h5⟩ := h.up
  obtain ⟨m0, m4, m12, m18, m19, m20, m13⟩ := hM
  obtain ⟨x0, x2, x3, x7, x8, xs⟩ := hX
  unfold Rel
  rw [m0, m4, m12, m18, m19, m20, m13, x0, x2, x3, x7, x8]
  refine ⟨h1, hk, h3, h4, fun s hs => ?_⟩
  rw [xs s hs]
  exact h5 s hs
theorem st_tear : St_tear Rel := by
  intro k X σ hk h
  have hkp := h.2.1
  have e : X 9 8 3 = σ 22 5 := hkp.1
  have hR : Rel (k + 1) (va_up X 9 (su (X 9) 8 3 0)) (su σ 22 5 0) := h.setK (X 2) 0 (su σ 22 5 0) ⟨rfl, Or.inl rfl⟩ ⟨rfl, rfl, rfl, rfl, rfl, rfl, rfl⟩ (va_up X 9 (su (X 9) 8 3 0)) ⟨rfl, rfl, rfl, rfl, rfl, fun s hs => va_up_ne _ _ (by omega)⟩
  by_cases h0 : σ 22 5 = 0
  · exact ⟨0, _, _, by unfold X5_tear; rw [if_pos (e.trans h0)]; rfl, by unfold X6_tear; rw [if_pos h0]; rfl, hR⟩
  · exact ⟨1, _, _, by unfold X5_tear; rw [if_neg (fun q => h0 (e.symm.trans q))]; rfl, by unfold X6_tear; rw [if_neg h0]; rfl, hR⟩
theorem st_subject : St_subject Rel := by
  intro k X σ p1 hk h
  unfold X5_subject X6_subject
  simp only [noSub5, isSub6, Option.bind_some, if_bi, bind_et]
  cases hb : inr 0 5 p1
  · exact bf_0 h
  · obtain ⟨t', ht, rfl⟩ := inr_nat (n := 6) (by decide) hb
    have he : σ 0 3 = X 0 11 7 := h.1.1.1.2.2.2.1
    have e3 : (3 : Int32) = nI 3 := rfl
    refine ⟨σ 0 3, va_up X 0 (su (X 0) 11 7 (nI t')), su σ 0 3 (nI t'), by rw [he]; rfl, by simp only [if_true]; rw [e3, becomes6 (by decide)], ?_⟩
    obtain ⟨hs, n, mi, w, t, hi⟩ := h.1.up (B' := 100 * (k + 1)) (by omega)
    exact h.set0 ⟨hs.u3 _, n, mi, w, t', hi.set3 ht⟩ (up0 X _) ⟨rfl, rfl, rfl, rfl, rfl, rfl, rfl, rfl⟩
theorem st_hold : St_hold Rel := by
  intro k X σ p1 p2 hk h
  obtain ⟨hs, n, mi, w, t, hi⟩ := h.1.up (B' := 100 * (k + 1)) (by omega)
  have hn := hi.1.1
  have h1 : σ 0 1 = nI n := hi.2.1.1
  have h2 : X 0 11 4 = nI n := by rw [← hs.1.2.1]; exact h1
  unfold X5_hold X6_hold
  have e9 : inr (0 : Int32).toInt (9 : Int32).toInt p1 = inr 0 9 p1 := rfl
  simp only [out_eq, isSpot6, Option.bind_some, if_bi, isThere4 h2 hn, isPerson6 h1 hn, e9]
  unfold X5_hold_b26 X6_hold_b20
  simp only [bind_et]
  cases hb : inr 0 9 p1
  · exact bf_0 h
  · obtain ⟨q, hq, rfl⟩ := inr_nat (n := 10) (by decide) hb
    have go : (p2 = -1 ∨ ∃ p : Nat, p < n ∧ p2 = nI p) → ∃ (r : Int32) (X' : XS) (σ' : MS), X5_hold_b33 X (nI q) p2 = some (r, X') ∧ X6_hold_b27 σ (nI q) p2 = some (r, σ') ∧ Rel (k + 1) X' σ' := by
      intro hx
      have e71 : (71 : Int32) + nI q = nI (71 + q) := nI_add 71 q
      refine ⟨1, va_up X 0 (su (X 0) 3 q p2), su σ 0 (71 + q) p2, ?_, ?_, ?_⟩
      · unfold X5_hold_b33; rw [ai_n hq (by decide), nI_clamp (by omega)]; rfl
      · unfold X6_hold_b27; rw [e71, ai_n (by omega) (by decide), nI_clamp (by omega)]
      · exact h.set0 ⟨hs.us p2 hq, n, mi, w, t, hi.setS hq p2 hx⟩ (up0 X _) ⟨rfl, rfl, rfl, rfl, rfl, rfl, rfl, rfl⟩
    simp only [Bool.not_true, if_true]
    by_cases hm : p2 = -1
    · simp only [if_pos hm]
      exact go (Or.inl hm)
    · simp only [if_neg hm]
      cases hp : isP n p2
      · exact bf_0 h
      · exact go (Or.inr (isP_ex (by omega) hp))
