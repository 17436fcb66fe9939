/-! PURE 8: change, person, status -/
theorem wrongT (w : Nat) (hw : w < 8) (x : Int32) : X5_isWrongTrait (nI w) x = some (bi (!(if w = 0 then inr 0 6 x else if w = 1 then inr 0 9 x else inr (-9) 9 x))) := by
  unfold X5_isWrongTrait X5_leastTrait X5_mostTrait
  rcases (show w = 0 ∨ w = 1 ∨ 2 ≤ w by omega) with rfl | rfl | h2
  · rw [if_neg (by decide), if_pos (by decide)]
    simp only [Option.bind_some, out_eq, zb_b]; rfl
  · rw [if_neg (by decide), if_neg (by decide), if_pos (by decide)]
    simp only [Option.bind_some, out_eq, zb_b]; rfl
  · have c2 : (2 : Int32) ≤ nI w := (nI_leI (a := 2) (by decide) (by omega)).mpr h2
    rw [if_pos c2, if_neg (fun e => by have := (nI_eq0 (by omega)).mp e; omega), if_neg (fun e => by have := (nI_eq1 (by omega)).mp e; omega), if_neg (by omega), if_neg (by omega)]
    simp only [Option.bind_some, out_eq, zb_b]; rfl
theorem okT_of {w : Nat} {x : Int32} (h : (if w = 0 then inr 0 6 x else if w = 1 then inr 0 9 x else inr (-9) 9 x) = true) : okT w x := by
  unfold okT
  by_cases h0 : w = 0
  · rw [if_pos h0] at h ⊢
    obtain ⟨j, hj, e⟩ := inr_nat (n := 7) (by decide) h
    exact ⟨j, hj, e⟩
  · rw [if_neg h0] at h ⊢
    by_cases h1 : w = 1
    · rw [if_pos h1] at h ⊢
      obtain ⟨j, hj, e⟩ := inr_nat (n := 10) (by decide) h
      exact ⟨j, by omega, e⟩
    · rw [if_neg h1] at h ⊢
      exact h
theorem st_change : St_change Rel := by
  intro k X σ p1 p2 p3 hk h
  obtain ⟨hs, n, mi, w, t, hi⟩ := h.1.up (B' := 100 * (k + 1)) (by omega)
  have hn := hi.1.1
  have h1 : σ 0 1 = nI n := hi.2.1.1
  have h2 : X 0 11 4 = nI n := by rw [← hs.1.2.1]; exact h1
  have e7 : inr (0 : Int32).toInt (7 : Int32).toInt p2 = inr 0 7 p2 := rfl
  have f9 : inr (0 : Int64).toInt (9 : Int64).toInt p3 = inr 0 9 p3 := rfl
  have f27 : inr (2 : Int64).toInt (7 : Int64).toInt p2 = inr 2 7 p2 := rfl
  -- the reference, by whether it may
  have ref : ∀ y : Bool, X6_change_b54 σ p1 p2 p3 (bi y) = if isP n p1 && y then ((X6_place p1 p2).bind fun v8 => X6_becomes σ v8 p3) else X6_finds σ (-1000001) := by
    intro y
    unfold X6_change_b54 X6_change_b82
    simp only [isPerson6 h1 hn, Option.bind_some, if_bi, bind_et]
    cases isP n p1 <;> cases y <;> rfl
  have ref2 : X6_change σ p1 p2 p3 = if isP n p1 && (inr 0 7 p2 && (if p2 = 0 then inr 0 6 p3 else if p2 = 1 then inr 0 9 p3 else inr (-9) 9 p3)) then ((X6_place p1 p2).bind fun v8 => X6_becomes σ v8 p3) else X6_finds σ (-1000001) := by
    unfold X6_change X6_change_b53
    simp only [isKind6, in32, isView6, f9, f27, Option.bind_some, if_bi]
    have b0 : X6_change_b54 σ p1 p2 p3 0 = _ := ref false
    have b1 : X6_change_b54 σ p1 p2 p3 1 = _ := ref true
    rw [ref, ref, b0, b1]
    by_cases c0 : p2 = 0
    · subst c0
      have : inr 0 7 0 = true := by decide
      simp only [if_true, this, Bool.true_and]
    · simp only [if_neg c0]
      by_cases c1 : p2 = 1
      · subst c1
        have : inr 0 7 1 = true := by decide
        simp only [if_true, this, Bool.true_and]
      · simp only [if_neg c1]
        have e : inr 2 7 p2 = inr 0 7 p2 := by
          unfold inr
          have g0 : p2.toInt ≠ 0 := fun q => c0 (Int32.toInt_inj.mp (q.trans (by decide)))
          have g1 : p2.toInt ≠ 1 := fun q => c1 (Int32.toInt_inj.mp (q.trans (by decide)))
          by_cases g : 2 ≤ p2.toInt ∧ p2.toInt ≤ 7
          · rw [decide_eq_true g, decide_eq_true (by omega)]
          · rw [decide_eq_false g, decide_eq_false (by omega)]
        rw [e]
        cases inr 0 7 p2 <;> cases inr (-9) 9 p3 <;> cases isP n p1 <;> rfl
  rw [ref2]
  unfold X5_change X5_change_b29
  simp only [out_eq, e7, isThere4 h2 hn, Option.bind_some, if_bi, bind_et]
  cases hp : isP n p1
  · exact bf_0 h
  · obtain ⟨p, hpn, rfl⟩ := isP_ex (by omega) hp
    cases hb : inr 0 7 p2
    · exact bf_0 h
    · obtain ⟨q, hq, rfl⟩ := inr_nat (n := 8) (by decide) hb
      simp only [Bool.not_true, Bool.false_eq_true, if_false, if_true, Bool.true_and]
      rw [wrongT q hq p3]
      have eq0 : (nI q = 0) = (q = 0) := propext (nI_eq0 (by omega))
      have eq1 : (nI q = 1) = (q = 1) := propext (nI_eq1 (by omega))
      simp only [Option.bind_some, if_bi, eq0, eq1]
      cases hx : (if q = 0 then inr 0 6 p3 else if q = 1 then inr 0 9 p3 else inr (-9) 9 p3)
      · exact bf_0 h
      · obtain ⟨τ', hτ, hs'⟩ := setTrait4 hs (p := p) (w := q) (by omega) hq p3
        have hi' := hi.setT (q := p) (what := q) (by omega) hq p3 (okT_of hx)
        refine ⟨σ 0 (7 + 8 * p + q), va_up X 0 τ', su σ 0 (7 + 8 * p + q) p3, ?_, ?_, ?_⟩
        · simp only [Bool.not_true, Bool.false_eq_true, if_false, trait4 hs (p := p) (w := q) (by omega) hq, hτ, Option.bind_some]
        · simp only [if_true, place6, Option.bind_some]
          rw [becomes6 (by omega)]
        · exact h.set0 ⟨hs', n, mi, w, t, hi'⟩ (up0 X _) ⟨rfl, rfl, rfl, rfl, rfl, rfl, rfl, rfl⟩
def tsm (r : Nat → Int32) : Nat → Nat → Int32 → Int32
  | 0, _, acc => acc
  | d + 1, j, acc => tsm r d (j + 1) (acc + r j)
theorem add_0l (x : Int32) : 0 + x = x := by
  apply Int32.toBitVec_inj.mp
  simp
theorem st_status : St_status Rel := by
  intro k X σ p1 hk h
  have ht := h.2.2.1
  unfold X5_status X6_status
  have e6 : inr (-1 : Int32).toInt (6 : Int32).toInt p1 = inr (-1) 6 p1 := rfl
  have f6 : inr (-1 : Int64).toInt (6 : Int64).toInt p1 = inr (-1) 6 p1 := rfl
  simp only [out_eq, in32, e6, f6, Option.bind_some, if_bi, bind_et]
  cases hb : inr (-1) 6 p1
  · exact bf_0 h
  · simp only [Bool.not_true, Bool.false_eq_true, if_false, if_true]
    have hr := of_decide_eq_true hb
    have i0 : (0 : Int32).toInt = 0 := by decide
    by_cases hn : p1 < 0
    · rw [if_pos hn]
      have k5 : ∀ (d j fuel : Nat) (acc : Int32), j + d = 7 → d < fuel → X5_status_b32 fuel X acc (nI j) = some (tsm (σ 4) d j acc, X) := by
        intro d
        induction d with
        | zero =>
          intro j fuel acc hj hf
          obtain ⟨f, rfl⟩ : ∃ f, fuel = f + 1 := ⟨fuel - 1, by omega⟩
          rw [X5_status_b32, show (7 : Int32) = nI 7 from rfl, le_nI (by omega) (by omega), if_pos (by omega)]; rfl
        | succ d ih =>
          intro j fuel acc hj hf
          obtain ⟨f, rfl⟩ : ∃ f, fuel = f + 1 := ⟨fuel - 1, by omega⟩
          rw [X5_status_b32, show (7 : Int32) = nI 7 from rfl, le_nI (by omega) (by omega), if_neg (by omega), ai_n (by omega) (by decide), nI_clamp (by omega), nI_1, ih (j + 1) f _ (by omega) (by omega), ht j (by omega)]; rfl
      have k6 : ∀ (d j fuel : Nat) (acc : Int32), j + d = 7 → d < fuel → X6_status_b25 fuel σ p1 acc (nI j) = some (tsm (σ 4) d j acc, σ) := by
        intro d
        induction d with
        | zero =>
          intro j fuel acc hj hf
          obtain ⟨f, rfl⟩ : ∃ f, fuel = f + 1 := ⟨fuel - 1, by omega⟩
          rw [X6_status_b25, show (7 : Int32) = nI 7 from rfl, le_nI (by omega) (by omega), if_pos (by omega)]; rfl
        | succ d ih =>
          intro j fuel acc hj hf
          obtain ⟨f, rfl⟩ : ∃ f, fuel = f + 1 := ⟨fuel - 1, by omega⟩
          rw [X6_status_b25, show (7 : Int32) = nI 7 from rfl, le_nI (by omega) (by omega), if_neg (by omega), if_pos hn]
          unfold X6_status_b41 X6_status_b51
          rw [ai_n (by omega) (by decide), nI_clamp (by omega), nI_1, ih (j + 1) f _ (by omega) (by omega)]; rfl
      exact h.asks _ (k5 7 0 FU 0 rfl (FU_lt (by decide))) (k6 7 0 FU 0 rfl (FU_lt (by decide)))
    · rw [if_neg hn]
      have hg : ¬ p1.toInt < 0 := fun q => hn (Int32.lt_iff_toInt_lt.mpr (by omega))
      obtain ⟨q, hq, rfl⟩ := inr_nat (n := 7) (x := p1) (by decide) (decide_eq_true (by omega))
      have k6 : ∀ (d j fuel : Nat) (acc : Int32), j + d = 7 → d < fuel → X6_status_b25 fuel σ (nI q) acc (nI j) = some (if j ≤ q then acc + σ 4 q else acc, σ) := by
        intro d
        induction d with
        | zero =>
          intro j fuel acc hj hf
          obtain ⟨f, rfl⟩ : ∃ f, fuel = f + 1 := ⟨fuel - 1, by omega⟩
          rw [X6_status_b25, show (7 : Int32) = nI 7 from rfl, le_nI (by omega) (by omega), if_pos (by omega), if_neg (by omega)]
        | succ d ih =>
          intro j fuel acc hj hf
          obtain ⟨f, rfl⟩ : ∃ f, fuel = f + 1 := ⟨fuel - 1, by omega⟩
          rw [X6_status_b25, show (7 : Int32) = nI 7 from rfl, le_nI (by omega) (by omega), if_neg (by omega), if_neg (nI_pos (by omega))]
          unfold X6_status_b41 X6_status_b51
          by_cases e : j = q
          · subst e
            rw [if_pos rfl, ai_n (by omega) (by decide), nI_clamp (by omega), nI_1, ih (j + 1) f _ (by omega) (by omega), if_neg (by omega), if_pos (by omega)]
          · rw [if_neg (fun g => e ((nI_eq (by omega) (by omega)).mp g)), nI_1, ih (j + 1) f _ (by omega) (by omega), add_0]
            by_cases g : j ≤ q
            · rw [if_pos g, if_pos (by omega)]
            · rw [if_neg g, if_neg (by omega)]
      refine h.asks (σ 4 q) ?_ ?_
      · rw [ai_n hq (by decide), nI_clamp (by omega), ht q hq]
      · have := k6 7 0 FU 0 rfl (FU_lt (by decide))
        rw [if_pos (by omega), add_0l] at this
        exact this
