/-! PURE 16: sheets: sheet, write, copy, load, judge -/
def FMs (σ σ' : MS) : Prop := σ' 0 = σ 0 ∧ σ' 1 = σ 1 ∧ σ' 4 = σ 4 ∧ σ' 12 = σ 12 ∧ σ' 22 5 = σ 22 5 ∧ σ' 22 13 = σ 22 13
theorem Rel.setSh {k s : Nat} {X : XS} {σ σ' : MS} (h : Rel k X σ) (hs : s < 4) (η : MS) (hη : R_s1 η (σ' 18 s) (σ' 19 s) (fun j => σ' 20 (40 * s + j))) (ho : ∀ s', s' < 4 → s' ≠ s → σ' 18 s' = σ 18 s' ∧ σ' 19 s' = σ 19 s' ∧ ∀ j, j < 40 → σ' 20 (40 * s' + j) = σ 20 (40 * s' + j)) (hM : FMs σ σ') : Rel (k + 1) (va_up X (5 + s) η) σ' := by
  obtain ⟨m0, m1, m4, m12, m5, m13⟩ := hM
  obtain ⟨h1, h2, h3, h4, h5⟩ := h.up
  have e0 : va_up X (5 + s) η 0 = X 0 := va_up_ne _ _ (by omega)
  have e2 : va_up X (5 + s) η 2 = X 2 := va_up_ne _ _ (by omega)
  have e3 : va_up X (5 + s) η 3 = X 3 := va_up_ne _ _ (by omega)
  have e9 : va_up X (5 + s) η 9 = X 9 := va_up_ne _ _ (by omega)
  unfold Rel
  rw [m0, m1, m4, m12, m5, m13, e0, e2, e3, e9]
  refine ⟨h1, h2, h3, h4, fun s' hs' => ?_⟩
  by_cases e : s' = s
  · subst e
    rw [va_up_self]
    exact hη
  · rw [va_up_ne _ _ (show 5 + s' ≠ 5 + s by omega)]
    obtain ⟨o1, o2, o3⟩ := ho s' hs' e
    rw [o1, o2]
    obtain ⟨b1, b2, sz, b3, b4, b5, b6⟩ := h5 s' hs'
    exact ⟨b1, b2, sz, b3, b4, b5, fun j hj => (b6 j hj).trans (o3 j (by omega)).symm⟩
theorem renewL {m : Nat} (hm : m ≤ 40) : ∀ (d j fuel : Nat) (η : MS), j + d = m → d < fuel → η 3 2 = nI m → X3_renew_b20 fuel η (nI j) = some (nI m, sr η 0 (zr (η 0) j d)) := by
  intro d
  induction d with
  | zero =>
    intro j fuel η hj hf h2
    obtain ⟨f, rfl⟩ : ∃ f, fuel = f + 1 := ⟨fuel - 1, by omega⟩
    rw [X3_renew_b20, h2, le_nI (by omega) (by omega), if_pos (by omega), zr_0, sr_self]
  | succ d ih =>
    intro j fuel η hj hf h2
    obtain ⟨f, rfl⟩ : ∃ f, fuel = f + 1 := ⟨fuel - 1, by omega⟩
    rw [X3_renew_b20, h2, le_nI (by omega) (by omega), if_neg (by omega), ai_n (by omega) (by decide), nI_clamp (by omega), nI_1, ih (j + 1) f (su η 0 j 0) (by omega) (by omega) h2]
    rw [su_eq_sr η, sr_sr, sr_at, zr_s]
theorem renew3 {m : Nat} (hm : m ≤ 40) (η : MS) (b : Int32) : X3_renew η b (nI m) = some (nI (if b = 0 then 0 else m), sr (su (su η 3 1 b) 3 2 (nI (if b = 0 then 0 else m))) 0 (zr (η 0) 0 (if b = 0 then 0 else m))) := by
  unfold X3_renew X3_renew_b15
  by_cases h : b = 0
  · rw [if_pos h, if_pos h]
    exact renewL (m := 0) (by omega) 0 0 FU _ rfl (FU_lt (by decide)) rfl
  · rw [if_neg h, if_neg h]
    exact renewL hm m 0 FU _ (by omega) (FU_lt (by omega)) rfl
theorem sheetL6 {s : Nat} (hs : s < 4) : ∀ (d j fuel : Nat) (σ : MS), j + d = 40 → d < fuel → X6_sheet_b86 fuel σ (nI s) (nI j) = some (σ 19 s, sr σ 20 (zr (σ 20) (40 * s + j) d)) := by
  intro d
  induction d with
  | zero =>
    intro j fuel σ hj hf
    obtain ⟨f, rfl⟩ : ∃ f, fuel = f + 1 := ⟨fuel - 1, by omega⟩
    rw [X6_sheet_b86, show (40 : Int32) = nI 40 from rfl, le_nI (by omega) (by omega), if_pos (by omega), ai_n hs (by decide), nI_clamp (by omega), zr_0, sr_self]
  | succ d ih =>
    intro j fuel σ hj hf
    obtain ⟨f, rfl⟩ : ∃ f, fuel = f + 1 := ⟨fuel - 1, by omega⟩
    rw [X6_sheet_b86, show (40 : Int32) = nI 40 from rfl, le_nI (by omega) (by omega), if_neg (by omega), pk_mul, nI_add, ai_n (by omega) (by decide), nI_clamp (by omega), nI_1, ih (j + 1) f _ (by omega) (by omega)]
    rw [su_eq_sr σ, sr_sr, sr_at, show 40 * s + (j + 1) = 40 * s + j + 1 by omega, zr_s]
    rfl
theorem st_sheet : St_sheet Rel := by
  intro k X σ p1 p2 p3 hk h
  unfold X5_sheet X6_sheet X5_sheet_b29 X6_sheet_b29
  simp only [noSheet5, isOne6, Option.bind_some, if_bi, bind_et]
  cases hp : inr 0 3 p1
  · exact bf_0 h
  · obtain ⟨s, hs, rfl⟩ := inr_nat (n := 4) (by decide) hp
    simp only [Bool.not_true, if_true, Bool.false_eq_true, if_false]
    have go : (p2 = 0 ∨ p2 = 8 ∨ p2 = 16 ∨ p2 = 32) → Con k (X5_sheet_b36 X (nI s) p2 p3) (X6_sheet_b36 σ (nI s) p2 p3) := by
      intro hb
      unfold X5_sheet_b36 X6_sheet_b36
      simp only [bind_et]
      by_cases h0 : (0 : Int32) ≤ p3
      · rw [if_pos h0, if_pos h0]
        by_cases h40 : p3 ≤ (40 : Int32)
        · rw [if_pos h40, if_pos h40]
          have c1 := Int32.le_iff_toInt_le.mp h0
          have c2 := Int32.le_iff_toInt_le.mp h40
          have z0 : (0 : Int32).toInt = 0 := by decide
          have z40 : (40 : Int32).toInt = 40 := by decide
          obtain ⟨m, hm, rfl⟩ := inr_nat (n := 41) (x := p3) (by decide) (decide_eq_true (by omega))
          rw [ai_n hs (by decide), ai_n hs (by decide), nI_clamp (by omega), renew3 (by omega)]
          have e6 : ∀ y : Int32, X6_sheet_b82 (su σ 18 s p2) (nI s) (nI s) y = some (y, sr (su (su σ 18 s p2) 19 s y) 20 (zr (σ 20) (40 * s) 40)) := by
            intro y
            unfold X6_sheet_b82
            rw [ai_n hs (by decide), nI_clamp (by omega)]
            have e7 := sheetL6 hs 40 0 FU (su (su σ 18 s p2) 19 s y) rfl (FU_lt (by decide))
            have e8 : su (su σ 18 s p2) 19 s y 19 s = y := by rw [su_at, if_pos ⟨rfl, rfl⟩]
            rw [e8] at e7
            exact e7
          have e9 : (if p2 = 0 then X6_sheet_b82 (su σ 18 s p2) (nI s) (nI s) 0 else X6_sheet_b82 (su σ 18 s p2) (nI s) (nI s) (nI m)) = some (nI (if p2 = 0 then 0 else m), sr (su (su σ 18 s p2) 19 s (nI (if p2 = 0 then 0 else m))) 20 (zr (σ 20) (40 * s) 40)) := by
            by_cases hz : p2 = 0
            · rw [if_pos hz, if_pos hz]; exact e6 0
            · rw [if_neg hz, if_neg hz]; exact e6 _
          rw [e9]
          generalize hsz : (if p2 = 0 then 0 else m) = sz
          have hsz40 : sz ≤ 40 := by rw [← hsz]; split <;> omega
          refine ⟨_, _, _, rfl, rfl, h.setSh hs _ ?_ ?_ ⟨rfl, rfl, rfl, rfl, rfl, rfl⟩⟩
          · have b18 : sr (su (su σ 18 s p2) 19 s (nI sz)) 20 (zr (σ 20) (40 * s) 40) 18 s = p2 := by
              show su (su σ 18 s p2) 19 s (nI sz) 18 s = p2
              rw [su_at, if_neg (by omega), su_at, if_pos ⟨rfl, rfl⟩]
            have b19 : sr (su (su σ 18 s p2) 19 s (nI sz)) 20 (zr (σ 20) (40 * s) 40) 19 s = nI sz := by
              show su (su σ 18 s p2) 19 s (nI sz) 19 s = nI sz
              rw [su_at, if_pos ⟨rfl, rfl⟩]
            rw [b18, b19]
            refine ⟨rfl, hb, sz, hsz40, rfl, rfl, fun j hj => ?_⟩
            show zr (X (5 + s) 0) 0 sz j = zr (σ 20) (40 * s) 40 (40 * s + j)
            unfold zr
            rw [if_pos (by omega), if_pos (by omega)]
          · intro s' hs' hne
            refine ⟨?_, ?_, fun j hj => ?_⟩
            · show su (su σ 18 s p2) 19 s (nI sz) 18 s' = σ 18 s'
              rw [su_at, if_neg (by omega), su_at, if_neg (by omega)]
            · show su (su σ 18 s p2) 19 s (nI sz) 19 s' = σ 19 s'
              rw [su_at, if_neg (by omega), su_at, if_neg (by omega)]
            · rw [sr_at]
              unfold zr
              rw [if_neg (by omega)]
        · rw [if_neg h40, if_neg h40]; exact bf_0 h
      · rw [if_neg h0, if_neg h0]; exact bf_6 h
    by_cases c0 : p2 = 0
    · rw [if_pos c0, if_pos c0]; exact go (Or.inl c0)
    · rw [if_neg c0, if_neg c0]
      by_cases c8 : p2 = 8
      · rw [if_pos c8, if_pos c8]; exact go (Or.inr (Or.inl c8))
      · rw [if_neg c8, if_neg c8]
        by_cases c16 : p2 = 16
        · rw [if_pos c16, if_pos c16]; exact go (Or.inr (Or.inr (Or.inl c16)))
        · rw [if_neg c16, if_neg c16]
          by_cases c32 : p2 = 32
          · rw [if_pos c32, if_pos c32]; exact go (Or.inr (Or.inr (Or.inr c32)))
          · rw [if_neg c32, if_neg c32]; exact bf_0 h
/-- what is wrong with a sheet -/
def lk (σ : MS) (p : Int32) : Int32 := if inr 0 3 p then (if σ 18 p.toNatClampNeg = 0 then -1000006 else 0) else -1000001
theorem missing3 (η : MS) : X3_isMissing η = some (bi (decide (η 3 1 = 0))) := by
  unfold X3_isMissing
  by_cases h : η 3 1 = 0
  · rw [if_pos h, decide_eq_true h]; rfl
  · rw [if_neg h, decide_eq_false h]; rfl
theorem lack5 {k : Nat} {X : XS} {σ : MS} (h : Rel k X σ) (p : Int32) : X5_lackOfSheet X p = some (lk σ p) := by
  unfold X5_lackOfSheet lk
  simp only [noSheet5, missing3, Option.bind_some, if_bi]
  cases hp : inr 0 3 p
  · rfl
  · obtain ⟨s, hs, rfl⟩ := inr_nat (n := 4) (by decide) hp
    simp only [Bool.not_true, if_true, Bool.false_eq_true, if_false]
    rw [ai_n hs (by decide), nI_clamp (by omega), (h.2.2.2.2 s hs).1]
    by_cases hz : σ 18 s = 0
    · simp only [hz, decide_true, if_true]
    · simp only [hz, decide_false, Bool.false_eq_true, if_false]
theorem wrong6 (σ : MS) (p : Int32) : X6_wrong σ p = some (lk σ p) := by
  unfold X6_wrong lk
  simp only [isOne6, Option.bind_some, if_bi]
  cases hp : inr 0 3 p
  · rfl
  · obtain ⟨s, hs, rfl⟩ := inr_nat (n := 4) (by decide) hp
    simp only [if_true]
    rw [ai_n hs (by decide), nI_clamp (by omega)]
    split <;> rfl
theorem lk_cases (σ : MS) (p : Int32) : lk σ p = -1000001 ∨ lk σ p = -1000006 ∨ (lk σ p = 0 ∧ ∃ s : Nat, s < 4 ∧ p = nI s ∧ ¬ σ 18 s = 0) := by
  unfold lk
  cases hp : inr 0 3 p
  · exact Or.inl rfl
  · obtain ⟨s, hs, rfl⟩ := inr_nat (n := 4) (by decide) hp
    rw [nI_clamp (by omega)]
    by_cases hz : σ 18 s = 0
    · exact Or.inr (Or.inl (by simp [hz]))
    · exact Or.inr (Or.inr ⟨by simp [hz], s, hs, rfl, hz⟩)
theorem lk_both {k : Nat} {X : XS} {σ : MS} (h : Rel k X σ) (p : Int32) {A : Option (Int32 × XS)} {B : Option (Int32 × MS)} (hg : ∀ s : Nat, s < 4 → p = nI s → ¬ σ 18 s = 0 → Con k A B) : Con k (if lk σ p = 0 then A else X5_found X (lk σ p)) (if lk σ p = 0 then B else X6_finds σ (lk σ p)) := by
  rcases lk_cases σ p with e | e | ⟨e, s, hs, ep, hz⟩
  · rw [e, if_neg (by decide), if_neg (by decide)]; exact bf_0 h
  · rw [e, if_neg (by decide), if_neg (by decide)]; exact bf_5 h
  · rw [if_pos e, if_pos e]; exact hg s hs ep hz
theorem put_narrow (b v : Int32) (hb : b = 8 ∨ b = 16 ∨ b = 32) : X6_narrowed b v = some ((v <<< ((32 - b) &&& 31)) >>> ((32 - b) &&& 31)) := by
  have key : ∀ (sh : Int32) (k : Nat), (sh.toBitVec.smod 32).toNat = k → ((v <<< sh) >>> sh).toInt = (v <<< sh).toInt >>> k := fun sh k hk => pk_shr _ _ k hk
  have hN := v.toBitVec.isLt
  have hv : v.toInt = if 2 * v.toBitVec.toNat < 2 ^ 32 then (v.toBitVec.toNat : Int) else (v.toBitVec.toNat : Int) - 2 ^ 32 := by
    show v.toBitVec.toInt = _
    rw [BitVec.toInt_eq_toNat_cond]
    rfl
  rcases hb with rfl | rfl | rfl
  · unfold X6_narrowed
    rw [if_pos rfl]
    refine congrArg some ?_
    apply Int32.toInt_inj.mp
    rw [show ((32 - 8 : Int32) &&& 31) = 24 by decide, key 24 24 (by decide)]
    have h2 : (v <<< (24 : Int32)).toInt = if 2 * (v.toBitVec.toNat * 2 ^ 24 % 2 ^ 32) < 2 ^ 32 then ((v.toBitVec.toNat * 2 ^ 24 % 2 ^ 32 : Nat) : Int) else ((v.toBitVec.toNat * 2 ^ 24 % 2 ^ 32 : Nat) : Int) - 2 ^ 32 := by
      show (v <<< (24 : Int32)).toBitVec.toInt = _
      rw [BitVec.toInt_eq_toNat_cond, pk_shl v 24 24 (by decide)]
      rfl
    rw [h2, Int.shiftRight_eq_div_pow, Int8.toInt_toInt32, Int32.toInt_toInt8, hv]
    rw [Int.bmod_def]
    generalize v.toBitVec.toNat = N at *
    split <;> split <;> split <;> omega
  · unfold X6_narrowed
    rw [if_neg (by decide), if_pos rfl]
    refine congrArg some ?_
    apply Int32.toInt_inj.mp
    rw [show ((32 - 16 : Int32) &&& 31) = 16 by decide, key 16 16 (by decide)]
    have h2 : (v <<< (16 : Int32)).toInt = if 2 * (v.toBitVec.toNat * 2 ^ 16 % 2 ^ 32) < 2 ^ 32 then ((v.toBitVec.toNat * 2 ^ 16 % 2 ^ 32 : Nat) : Int) else ((v.toBitVec.toNat * 2 ^ 16 % 2 ^ 32 : Nat) : Int) - 2 ^ 32 := by
      show (v <<< (16 : Int32)).toBitVec.toInt = _
      rw [BitVec.toInt_eq_toNat_cond, pk_shl v 16 16 (by decide)]
      rfl
    rw [h2, Int.shiftRight_eq_div_pow, Int16.toInt_toInt32, Int32.toInt_toInt16, hv]
    rw [Int.bmod_def]
    generalize v.toBitVec.toNat = N at *
    split <;> split <;> split <;> omega
  · unfold X6_narrowed
    rw [if_neg (by decide), if_neg (by decide)]
    refine congrArg some ?_
    rw [show ((32 - 32 : Int32) &&& 31) = 0 by decide]
    apply Int32.toInt_inj.mp
    rw [key 0 0 (by decide)]
    have h2 : v <<< (0 : Int32) = v := by
      apply Int32.toBitVec_inj.mp
      apply BitVec.eq_of_toNat_eq
      rw [pk_shl v 0 0 (by decide)]
      omega
    rw [h2]
    simp
theorem st_write : St_write Rel := by
  intro k X σ p1 p2 p3 hk h
  unfold X5_write X6_write
  rw [lack5 h, wrong6, Option.bind_some, Option.bind_some]
  simp only [bind_et]
  refine lk_both h p1 (fun s hs ep hz => ?_)
  subst ep
  obtain ⟨b1, b2, sz, b3, b4, b5, b6⟩ := h.2.2.2.2 s hs
  have e1 : ((nI sz) - 1).toInt = (sz : Int) - 1 := by
    have : (1 : Int32) = nI 1 := rfl
    rw [this, pk_sub_toInt (by omega) (by omega)]; rfl
  rw [ai_n hs (by decide), ai_n hs (by decide), ai_n hs (by decide), nI_clamp (by omega), b4, b5, out_eq, in32, Option.bind_some, Option.bind_some, if_bi, if_bi, Int32.toInt_toInt64, e1]
  have z5 : (0 : Int32).toInt = 0 := by decide
  have z6 : (0 : Int64).toInt = 0 := by decide
  rw [z5, z6]
  cases hb : inr 0 ((sz : Int) - 1) p2
  · exact bf_0 h
  · obtain ⟨i, hi, rfl⟩ := inr_nat (by omega) hb
    simp only [Bool.not_true, if_true, Bool.false_eq_true, if_false]
    have hbits : σ 18 s = 8 ∨ σ 18 s = 16 ∨ σ 18 s = 32 := b2.resolve_left hz
    rw [ai_n hs (by decide), put_narrow _ _ hbits, Option.bind_some, show (40 : Int32) = nI 40 from rfl, pk_mul, nI_add, ai_n (by omega) (by decide), nI_clamp (by omega)]
    unfold X3_put
    rw [ai_n (by omega) (by decide), Option.bind_some, nI_clamp (by omega), b1]
    refine ⟨1, _, _, rfl, rfl, h.setSh hs _ ?_ ?_ ⟨rfl, rfl, rfl, rfl, rfl, rfl⟩⟩
    · refine ⟨b1, b2, sz, b3, b4, b5, fun j hj => ?_⟩
      show su (X (5 + s)) 0 i _ 0 j = su σ 20 (40 * s + i) _ 20 (40 * s + j)
      rw [su_at, su_at]
      by_cases e : j = i
      · subst e; rw [if_pos ⟨rfl, rfl⟩, if_pos ⟨rfl, rfl⟩]
      · rw [if_neg (by omega), if_neg (by omega)]; exact b6 j hj
    · intro s' hs' hne
      refine ⟨rfl, rfl, fun j hj => ?_⟩
      rw [su_at, if_neg (by omega)]
