/-! PURE 28: a text -/
theorem ps_first {X0 X : XS} {σ0 σ : MS} {y : Nat → Nat} {tl mi n w t : Nat} (f1 : FrX X0 X) (f2 : FrM σ0 σ) (t1 : Ty y tl (X 3)) (t2 : Tz y tl σ) (r4 : X 3 6 4 = nI 0) (s15 : σ 22 15 = nI 0) (s17 : σ 22 17 = 0) (hs : Sq (X 1) (σ 0)) (hi : Iv mi n mi w t (σ 0)) : ∃ ρ' σ' st' bh', X2_advance (X 3) = some ρ' ∧ X6_token σ = some σ' ∧ PS X0 σ0 y tl mi st' bh' (va_up X 3 ρ') σ' := by
  obtain ⟨ρ', e1, a1, a3, a4, a2, a5⟩ := adv5 t1 (Nat.zero_le tl) r4
  have e2 := tok6 t2 (Nat.zero_le tl) s15
  have hS := tkS_le (y := y) (Nat.zero_le tl)
  have hB := tkB_le (y := y) hS.2
  refine ⟨ρ', _, tkS y tl 0, tkB y tl (tkS y tl 0), e1, e2, ⟨⟨f1.u3 ρ', (f2.s22 (by decide) (by decide) _).s22 (by decide) (by decide) _⟩, ⟨a1, (t2.su (by decide) _).su (by decide) _⟩, hB, ⟨a3, a4, a2, a5⟩, ⟨?_, ?_, ?_⟩, hs, n, w, t, hi⟩⟩
  · rw [su_at, if_neg (by decide), su_at, if_pos ⟨rfl, rfl⟩]
  · rw [su_at, if_pos ⟨rfl, rfl⟩]
  · rw [su_at, if_neg (by decide), su_at, if_neg (by decide)]; exact s17
/-- how a text's reading ends in both -/
def TXT (X0 : XS) (σ0 : MS) (mi : Nat) (A : Option (Int32 × XS)) (B : Option (Int32 × MS)) : Prop := (∃ r X' σ', r < 1000 ∧ A = some (nI r, X') ∧ B = some (nI r, su (su σ' 22 17 0) 22 13 0) ∧ FrX X0 X' ∧ FrM σ0 σ' ∧ Sq (X' 1) (σ' 0) ∧ ∃ n w t, Iv mi n mi w t (σ' 0)) ∨ (∃ st X' σ', st < 1000 ∧ A = some ((-1 : Int32) - nI st, X') ∧ B = some ((-1 : Int32) - nI st, su (cpj (su σ' 22 17 1) 0 2 81) 22 13 0) ∧ FrX X0 X' ∧ FrM σ0 σ')
theorem end_bad {σ : MS} {st : Nat} (h14 : σ 22 14 = nI st) (x : Int32) : X6_text_b83 σ x 1 = some ((-1 : Int32) - nI st, su (cpj (su σ 22 17 1) 0 2 81) 22 13 0) := by
  unfold X6_text_b83 X6_text_b97
  have e1 : ¬ su σ 22 17 1 22 17 = 0 := by rw [su_at, if_pos ⟨rfl, rfl⟩]; decide
  have e2 : ¬ su (cpj (su σ 22 17 1) 0 2 81) 22 13 0 22 17 = 0 := by
    rw [su_at, if_neg (by decide)]
    show ¬ su σ 22 17 1 22 17 = 0
    exact e1
  have e3 : su (cpj (su σ 22 17 1) 0 2 81) 22 13 0 22 14 = nI st := by
    rw [su_at, if_neg (by decide)]
    show su σ 22 17 1 22 14 = nI st
    rw [su_at, if_neg (by decide)]; exact h14
  rw [zb_1, if_neg e1, puts6, Option.bind_some, if_neg e2, e3]
theorem textL {X0 : XS} {σ0 : MS} {y : Nat → Nat} {tl mi : Nat} (htl : tl ≤ 120) : ∀ (e st bh i f5 f6 : Nat) (X : XS) (σ : MS), tl - st ≤ e → e < f5 → e < f6 → 2 * i ≤ st + 2 → st ≤ tl → PS X0 σ0 y tl mi st bh X σ → TXT X0 σ0 mi (X2_readInto_b11 f5 X (nI i)) ((X6_item σ).bind fun s => X6_text_b24 f6 s (nI i)) := by
  intro e
  induction e with
  | zero =>
    intro st bh i f5 f6 X σ he h5 h6 hi hst h
    obtain ⟨g5, rfl⟩ : ∃ f, f5 = f + 1 := ⟨f5 - 1, by omega⟩
    obtain ⟨g6, rfl⟩ : ∃ f, f6 = f + 1 := ⟨f6 - 1, by omega⟩
    have n120 : ¬ (120 : Int32) < nI i := fun z => by have := (nI_ltI (a := 120) (by decide) (by omega)).mp z; omega
    rcases item_both h with ⟨X', σ', st', bh', a1, a2, a3, a4⟩ | ⟨X', σ', a1, a2, a3⟩
    · have k1 := a3.2.2.1
      have := k1.1
      have := k1.2.1
      omega
    · obtain ⟨⟨f1, f2⟩, t2, s17, st', bh', q1, q2, q3, q4, q5⟩ := a3
      refine Or.inr ⟨st', X', σ', by omega, ?_, ?_, f1, f2⟩
      · rw [X2_readInto_b11, if_neg n120, a1, Option.bind_some, if_pos rfl]
        show some ((-1 : Int32) - X' 3 6 3, X') = _
        rw [q3]
      · rw [a2, Option.bind_some, X6_text_b24, if_neg (show ¬ σ' 22 17 = 0 by rw [s17]; decide)]
        unfold X6_text_b59
        rw [if_neg (show ¬ σ' 22 17 = 0 by rw [s17]; decide), end_bad q4]
  | succ e ih =>
    intro st bh i f5 f6 X σ he h5 h6 hi hst h
    obtain ⟨g5, rfl⟩ : ∃ f, f5 = f + 1 := ⟨f5 - 1, by omega⟩
    obtain ⟨g6, rfl⟩ : ∃ f, f6 = f + 1 := ⟨f6 - 1, by omega⟩
    have n120 : ¬ (120 : Int32) < nI i := fun z => by have := (nI_ltI (a := 120) (by decide) (by omega)).mp z; omega
    rcases item_both h with ⟨X', σ', st', bh', a1, a2, a3, a4⟩ | ⟨X', σ', a1, a2, a3⟩
    · obtain ⟨⟨f1, f2⟩, ⟨t1, t2⟩, k1, ⟨r3, r4, r2, r5⟩, ⟨s14, s15, s17⟩, hs, hii⟩ := id a3
      have hst' : st' ≤ tl := by have := k1.1; have := k1.2.1; omega
      have h5s := srt_lt y tl st'
      rw [X2_readInto_b11, if_neg n120, a1, a2, Option.bind_some, Option.bind_some, if_neg (show ¬ (1 : Int32) = 0 by decide)]
      show TXT X0 σ0 mi (if X' 3 6 2 = 0 then some (nI i, X') else (X2_isSign (X' 3) 59).bind fun v7 => if v7 = 0 then some ((-1 : Int32) - X' 3 6 3, X') else (X2_advance (X' 3)).bind fun s10 => X2_readInto_b11 g5 (va_up X' 3 s10) (nI i + 1)) _
      rw [r2, X6_text_b24, if_pos s17, s14, byte6 t2 (by omega), Option.bind_some]
      have hb : bt y tl st' = (59 : Int32) ↔ st' < tl ∧ y st' = 59 := bt_eq (y := y) (tl := tl) (j := st') (c := 59) (fun z => (t2.2.2 st' z).2) (by decide)
      by_cases c0 : srt y tl st' = 0
      · have hend := srt_0.mp c0
        have nb : ¬ bt y tl st' = 59 := fun z => by have := (hb.mp z).1; omega
        rw [if_pos (show nI (srt y tl st') = 0 by rw [c0]; rfl), if_neg nb]
        refine Or.inl ⟨i, X', σ', by omega, rfl, ?_, f1, f2, hs, hii⟩
        unfold X6_text_b59
        rw [if_pos s17, t2.2.1, s14, if_pos (nI_le hend (by omega))]
        unfold X6_text_b83 X6_text_b97
        have e1 : su σ' 22 17 0 22 17 = 0 := by rw [su_at, if_pos ⟨rfl, rfl⟩]
        have e2 : su (su σ' 22 17 0) 22 13 0 22 17 = 0 := by rw [su_at, if_neg (by decide)]; exact e1
        rw [zb_0, if_pos e1, if_pos e2]
      · have hlt : st' < tl := Nat.lt_of_not_le (fun z => c0 (srt_0.mpr z))
        have e5 : X2_isSign (X' 3) 59 = some (bi (sgn y tl st' 59)) := sign5 (c := 59) (Or.inr rfl) t1 r3 r2 hst'
        rw [if_neg (show ¬ nI (srt y tl st') = 0 from fun z => c0 ((nI_eq0 (by omega)).mp z)), e5, Option.bind_some, if_bi]
        by_cases cs : st' < tl ∧ y st' = 59
        · have es : sgn y tl st' 59 = true := decide_eq_true cs
          obtain ⟨ρ2, σ2, st2, bh2, g1, g2, g3, g4, g5', g6'⟩ := ps_adv a3
          rw [es, if_pos rfl, if_pos (hb.mpr cs), g1, Option.bind_some, must1 s17, g2, Option.bind_some, nI_1]
          have hk := k1.2.2.1 hlt
          have k2 := g3.2.2.1
          have hst2 : st2 ≤ tl := by have := k2.1; have := k2.2.1; omega
          exact ih st2 bh2 (i + 1) g5 g6 _ _ (by omega) (by omega) (by omega) (by omega) hst2 g3
        · have es : sgn y tl st' 59 = false := decide_eq_false cs
          rw [es, if_neg (by decide), if_neg (fun z => cs (hb.mp z))]
          refine Or.inr ⟨st', X', σ', by omega, ?_, ?_, f1, f2⟩
          · rw [r3]
          · unfold X6_text_b59
            rw [if_pos s17, t2.2.1, s14, if_neg (nI_ge hlt (by omega)), end_bad s14]
    · obtain ⟨⟨f1, f2⟩, t2, s17, st', bh', q1, q2, q3, q4, q5⟩ := a3
      refine Or.inr ⟨st', X', σ', by omega, ?_, ?_, f1, f2⟩
      · rw [X2_readInto_b11, if_neg n120, a1, Option.bind_some, if_pos rfl]
        show some ((-1 : Int32) - X' 3 6 3, X') = _
        rw [q3]
      · rw [a2, Option.bind_some, X6_text_b24, if_neg (show ¬ σ' 22 17 = 0 by rw [s17]; decide)]
        unfold X6_text_b59
        rw [if_neg (show ¬ σ' 22 17 = 0 by rw [s17]; decide), end_bad q4]
theorem Rel.txt {k : Nat} {X X' : XS} {σ σ' : MS} (h : Rel k X σ) (h0 : R_sq (100 * (k + 1)) (X' 0) (σ' 0)) (hX : X' 2 = X 2 ∧ X' 9 = X 9 ∧ X' 3 6 1 = 0 ∧ ∀ s, s < 4 → X' (5 + s) = X (5 + s)) (hM : σ' 1 = σ 1 ∧ σ' 4 = σ 4 ∧ σ' 18 = σ 18 ∧ σ' 19 = σ 19 ∧ σ' 20 = σ 20 ∧ σ' 22 5 = σ 22 5 ∧ σ' 22 13 = 0) : Rel (k + 1) X' σ' := by
  obtain ⟨m1, m4, m18, m19, m20, m5, m13⟩ := hM
  obtain ⟨x2, x9, x3, xs⟩ := hX
  obtain ⟨-, h2, h3, -, h5⟩ := h.up
  unfold Rel
  rw [m1, m4, m18, m19, m20, m5, m13, x2, x9]
  refine ⟨h0, h2, h3, ⟨0, by omega, x3, rfl, fun j hj => absurd hj (by omega)⟩, fun s hs => ?_⟩
  rw [xs s hs]
  exact h5 s hs
theorem neg_lt {st : Nat} (h : st < 1000) : (-1 : Int32) - nI st < 0 := by
  have : ∀ s, s < 1000 → (-1 : Int32) - nI s < 0 := by decide +kernel
  exact this st h
theorem st_text : St_text Rel := by
  intro k X σ hk h
  obtain ⟨hs, n, mi, w, t, hi⟩ := h.1
  have hm := hi.1.2.1
  obtain ⟨tl, t1, t2, t3, t4⟩ := h.2.2.2.1
  obtain ⟨Xr, e1, hq⟩ := takeOver4 (X 1) (X 0) hs
  -- the tape's bytes
  have hy : ∀ j, j < tl → X 3 0 j = nI (σ 12 j).toNatClampNeg ∧ σ 12 j = nI (σ 12 j).toNatClampNeg ∧ (σ 12 j).toNatClampNeg < 256 := by
    intro j hj
    obtain ⟨u1, b, u2, u3⟩ := t4 j hj
    have u4 : (σ 12 j).toNatClampNeg = b := by rw [u3, nI_clamp (by omega)]
    rw [u4]
    exact ⟨u1.trans u3, u3, u2⟩
  have n13 : ∀ (X : XS) (τ : MS), va_up X 1 τ 3 = X 3 := fun _ _ => rfl
  have s33 : ∀ (X : XS) (ρ : MS), va_up X 3 ρ 3 = ρ := fun _ _ => rfl
  have hTy : Ty (fun j => (σ 12 j).toNatClampNeg) tl (su (X 3) 6 4 0) := ⟨t1, by rw [su_at, if_neg (by decide)]; exact t2, fun j hj => ⟨by rw [su_at, if_neg (by omega)]; exact (hy j hj).1, (hy j hj).2.2⟩⟩
  have hTz : Tz (fun j => (σ 12 j).toNatClampNeg) tl (su (su (cpj σ 2 0 81) 22 17 0) 22 15 0) := ⟨t1, by rw [su_at, if_neg (by decide), su_at, if_neg (by decide)]; exact t3, fun j hj => ⟨(hy j hj).2.1, (hy j hj).2.2⟩⟩
  have hi' : Iv mi n mi w t (σ 0) := hi.mono (Nat.le_refl _)
  obtain ⟨ρ1, σ1, st1, bh1, g1, g2, g3⟩ := ps_first (X0 := va_up X 1 (Xr 0)) (X := va_up (va_up X 1 (Xr 0)) 3 (su (X 3) 6 4 0)) (σ0 := cpj σ 2 0 81) (σ := su (su (cpj σ 2 0 81) 22 17 0) 22 15 0) (mi := mi) (fun c _ c3 => va_up_ne _ _ c3) ⟨rfl, rfl, rfl, rfl, rfl, rfl, rfl, rfl, rfl⟩ hTy hTz rfl rfl rfl hq hi'
  rw [s33] at g1
  have k1 := g3.2.2.1
  have hst1 : st1 ≤ tl := by have := k1.1; have := k1.2.1; omega
  have main := textL t1 (tl - st1) st1 bh1 1 FU FU _ _ (Nat.le_refl _) (FU_lt (by omega)) (FU_lt (by omega)) (by omega) hst1 g3
  have eA : X2_readInto (va_up X 1 (Xr 0)) = X2_readInto_b11 FU (va_up (va_up (va_up X 1 (Xr 0)) 3 (su (X 3) 6 4 0)) 3 ρ1) (nI 1) := by
    unfold X2_readInto
    rw [Option.bind_some]
    simp only [n13, s33]
    rw [g1, Option.bind_some]
    rfl
  have eB : X6_text σ = (X6_item σ1).bind fun s => X6_text_b24 FU s (nI 1) := by
    unfold X6_text
    rw [saves6, Option.bind_some, g2, Option.bind_some]
    rfl
  rw [← eA, ← eB] at main
  unfold X5_text
  rw [e1, Option.bind_some]
  rcases main with ⟨r, X', σ', m1, m2, m3, f1, f2, m4, n', w', t', m5⟩ | ⟨st, X', σ', m1, m2, m3, f1, f2⟩
  · rw [m2, Option.bind_some, Option.bind_some, if_neg (nI_pos (by omega))]
    obtain ⟨Xr2, e2, hq2⟩ := takeOver4 (X 0) (X' 1) m4
    have e2' : X4_takeOver (pr2 (va_up (va_up (va_up (va_up X 1 (Xr 0)) 3 (X' 3)) 1 (X' 1)) 3 (su (va_up (va_up (va_up X 1 (Xr 0)) 3 (X' 3)) 1 (X' 1) 3) 6 1 0) 0) (va_up (va_up (va_up (va_up X 1 (Xr 0)) 3 (X' 3)) 1 (X' 1)) 3 (su (va_up (va_up (va_up X 1 (Xr 0)) 3 (X' 3)) 1 (X' 1) 3) 6 1 0) 1)) = some Xr2 := e2
    rw [e2', Option.bind_some]
    refine ⟨nI r, _, _, rfl, m3, h.txt ⟨hq2, n', mi, w', t', m5.mono (by omega)⟩ ⟨rfl, rfl, rfl, fun s hs => ?_⟩ ⟨f2.1, f2.2.2.1, f2.2.2.2.2.1, f2.2.2.2.2.2.1, f2.2.2.2.2.2.2.1, f2.2.2.2.2.2.2.2.1, rfl⟩⟩
    rw [va_up_ne _ _ (by omega), va_up_ne _ _ (by omega), va_up_ne _ _ (by omega), va_up_ne _ _ (by omega), va_up_ne _ _ (by omega)]
  · rw [m2, Option.bind_some, Option.bind_some, if_pos (neg_lt m1)]
    refine ⟨_, _, _, rfl, m3, h.txt ?_ ⟨rfl, rfl, rfl, fun s hs => ?_⟩ ⟨f2.1, f2.2.2.1, f2.2.2.2.2.1, f2.2.2.2.2.2.1, f2.2.2.2.2.2.2.1, f2.2.2.2.2.2.2.2.1, rfl⟩⟩
    · have hv : ∀ j, j < 81 → su (cpj (su σ' 22 17 1) 0 2 81) 22 13 0 0 j = σ 0 j := by
        intro j hj
        show cpj (su σ' 22 17 1) 0 2 81 0 j = σ 0 j
        rw [cpj_r hj]
        show σ' 2 j = σ 0 j
        rw [f2.2.1]
        exact cpj_r hj
      exact (h.1.up (by omega)).cg hv
    · rw [va_up_ne _ _ (by omega), va_up_ne _ _ (by omega), va_up_ne _ _ (by omega), va_up_ne _ _ (by omega)]
