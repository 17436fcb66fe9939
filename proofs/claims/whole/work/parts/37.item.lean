/-! PURE 27: persons, pairs, subjects of a text; an item -/
theorem ps_word {X0 X : XS} {σ0 σ : MS} {y : Nat → Nat} {tl mi st bh : Nat} (h : PS X0 σ0 y tl mi st bh X σ) : (∀ k, k < 11 → X2_isWord (X 3) k = some (bi (isW y tl st bh k))) ∧ ∃ W, X6_word σ = some W ∧ ∀ k, k < 11 → (lg_cmp W (lN (hsh k)) = 0 ↔ isW y tl st bh k = true) := by
  obtain ⟨⟨f1, f2⟩, ⟨t1, t2⟩, k1, ⟨r3, r4, r2, r5⟩, ⟨s14, s15, s17⟩, hs, hii⟩ := h
  exact ⟨fun k hk => isWord5 t1 r3 r4 r2 k1.1 k1.2.1 hk, word6 t2 s14 s15 k1.1 k1.2.1 s17 (tke_1 k1)⟩
theorem pf_word {X0 X : XS} {σ0 σ : MS} {y : Nat → Nat} {tl : Nat} (h : PF X0 σ0 y tl X σ) : X6_word σ = some 0 := by
  obtain ⟨⟨f1, f2⟩, t2, s17, st, bh, h1, h2, h3, h4, h5⟩ := h
  exact word6w t2 h4 h5 h1 h2 s17
theorem readV5 {X0 X : XS} {σ0 σ : MS} {y : Nat → Nat} {tl mi st bh p : Nat} (h : PS X0 σ0 y tl mi st bh X σ) (hp : p < 8) : OUT X0 σ0 y tl mi st (X2_readViews X (nI p)) (X6_personItem_b100 FU σ (nI p) 0) := by
  obtain ⟨⟨f1, f2⟩, ⟨t1, t2⟩, k1, ⟨r3, r4, r2, r5⟩, ⟨s14, s15, s17⟩, hs, hii⟩ := id h
  have hst : st ≤ tl := by have := k1.1; have := k1.2.1; omega
  have e5 : X2_isSign (X 3) 45 = some (bi (sgn y tl st 45)) := sign5 (c := 45) (Or.inl rfl) t1 r3 r2 hst
  have e1 : X2_readViews X (nI p) = X2_readViews_b35 (X2_readViews_b2 1999) X (nI p) (nI 0) (bi (sgn y tl st 45)) := by
    show X2_readViews_b2 (1999 + 1) X (nI p) 0 = _
    rw [X2_readViews_b2, if_neg (by decide), e5, Option.bind_some, if_pos (by decide)]
    rfl
  rw [e1]
  exact viewsL hp 5 0 1999 FU st bh X σ rfl (by decide) (FU_lt (by decide)) h
theorem think_both {X0 X : XS} {σ0 σ : MS} {y : Nat → Nat} {tl mi st bh p : Nat} (h : PS X0 σ0 y tl mi st bh X σ) (hp : p < 8) : OUT X0 σ0 y tl mi st (X2_readPerson_b57 X (nI p)) (X6_personItem_b82 σ (nI p)) := by
  obtain ⟨w5, W, w6, wc⟩ := ps_word h
  have hw := wc 8 (by decide)
  have e8 : lN (hsh 8) = (679786867 : Int64) := by rw [hsh_dec.2.2.2.2.2.2.2.2.1]; rfl
  rw [e8] at hw
  unfold X2_readPerson_b57 X6_personItem_b82
  rw [w5 8 (by decide), w6, Option.bind_some, Option.bind_some, if_bi]
  by_cases c : isW y tl st bh 8 = true
  · rw [if_pos c, if_pos (hw.mpr c), must1 h.2.2.2.2.1.2.2]
    obtain ⟨ρ', σ1, st1, bh1, g1, g2, g3, g4, g5, g6⟩ := ps_adv h
    rw [g1, g2, Option.bind_some, Option.bind_some]
    have hk := h.2.2.1.1
    exact ((readV5 g3 hp).zb).le (by omega)
  · rw [if_neg c, if_neg (fun z => c (hw.mp z))]
    exact Or.inl ⟨X, σ, st, bh, rfl, rfl, h, Nat.le_refl _⟩
theorem adv13 (X : XS) (τ ρ : MS) : va_up (va_up X 1 τ) 3 ρ = va_up (va_up X 3 ρ) 1 τ := by
  funext c
  by_cases c1 : c = 1
  · subst c1; rfl
  · by_cases c3 : c = 3
    · subst c3; rfl
    · rw [va_up_ne _ _ c3, va_up_ne _ _ c1, va_up_ne _ _ c1, va_up_ne _ _ c3]
theorem person_both {X0 X : XS} {σ0 σ : MS} {y : Nat → Nat} {tl mi st bh kd : Nat} (h : PS X0 σ0 y tl mi st bh X σ) (hkd : kd < 7) : OUT X0 σ0 y tl mi bh (X2_readPerson X (nI kd)) (X6_personItem σ (nI kd)) := by
  have hs : Sq (X 1) (σ 0) := h.2.2.2.2.2.1
  have s17 : σ 22 17 = 0 := h.2.2.2.2.1.2.2
  obtain ⟨n, w, t, hi⟩ := h.2.2.2.2.2.2
  have hn := hi.1.1
  have h1 : σ 0 1 = nI n := hi.2.1.1
  have h2 : X 1 11 4 = nI n := by rw [← hs.1.2.1]; exact h1
  unfold X2_readPerson X6_personItem
  rw [crowd4 h2 hn, Option.bind_some, if_bi, h1]
  by_cases c8 : n = 8
  · rw [if_pos (decide_eq_true c8), if_pos (show (8 : Int32) ≤ nI n by rw [c8]; decide)]
    unfold X6_personItem_b17
    rw [must0 s17, Option.bind_some, if_neg (show ¬ su σ 22 17 1 22 17 = 0 by rw [su_at, if_pos ⟨rfl, rfl⟩]; decide)]
    exact Or.inr ⟨X, _, rfl, rfl, ps_fail h⟩
  · rw [if_neg (by rw [decide_eq_false c8]; decide), if_neg (fun z => by have := (nI_leI (a := 8) (by decide) (by omega)).mp z; omega)]
    obtain ⟨τ1, e1, hq1⟩ := addP4 hs h1 (by omega) (nI kd)
    obtain ⟨ρ1, σ1, st1, bh1, g1, g2, g3, g4, g5, g6⟩ := ps_adv h
    have i1 : Iv mi (n + 1) mi w t (adv (σ 0) n (nI kd)) := hi.add (by omega) ⟨kd, hkd, rfl⟩
    have p1 := ps_sq g3 hq1 i1
    have e17 : σ1 22 17 = 0 := g3.2.2.2.2.1.2.2
    have n13 : ∀ (X : XS) (τ : MS), va_up X 1 τ 3 = X 3 := fun _ _ => rfl
    have n31 : ∀ (X : XS) (ρ : MS), va_up X 3 ρ 1 = X 1 := fun _ _ => rfl
    have s11 : ∀ (X : XS) (τ : MS), va_up X 1 τ 1 = τ := fun _ _ => rfl
    have s33 : ∀ (X : XS) (ρ : MS), va_up X 3 ρ 3 = ρ := fun _ _ => rfl
    unfold X6_personItem_b17
    rw [e1, Option.bind_some, must1 s17, g2, Option.bind_some, if_pos e17, adds6 (σ := σ1) (by rw [g5]; exact h1) (by omega), Option.bind_some, g5]
    simp only [n13]
    rw [g1, Option.bind_some]
    simp only [n13, n31, s11, s33]
    rw [adv13]
    obtain ⟨w5, W, w6, wc⟩ := ps_word p1
    have hw := wc 7 (by decide)
    have e7 : lN (hsh 7) = (23569509 : Int64) := by rw [hsh_dec.2.2.2.2.2.2.2.1]; rfl
    rw [e7] at hw
    have w57 : X2_isWord ρ1 7 = some (bi (isW y tl st1 bh1 7)) := w5 7 (by decide)
    rw [w57, w6, Option.bind_some, Option.bind_some, if_bi]
    by_cases c : isW y tl st1 bh1 7 = true
    · rw [if_pos c, if_pos (hw.mpr c)]
      have p17 : sr σ1 0 (adv (σ 0) n (nI kd)) 22 17 = 0 := p1.2.2.2.2.1.2.2
      obtain ⟨ρ2, σ2, st2, bh2, k1, k2, k3, k4, k5, k6⟩ := ps_adv p1
      have k1' : X2_advance ρ1 = some ρ2 := k1
      rw [must1 p17, k2, k1', Option.bind_some, Option.bind_some]
      have e9 : (9 : Int32) = nI 9 := rfl
      rcases ps_num k3 (nI 9) with ⟨m1, m2, ρ3, σ3, st3, bh3, m3, m4, m5, m6, m7, m8⟩ | ⟨m1, σ3, m2, m3, m4⟩
      · have m1' : X2_isNumberUpTo ρ2 (nI 9) = some 1 := m1
        have m3' : X2_advance ρ2 = some ρ3 := m3
        have hle := okN_le (by decide) m2
        have r5 : ρ2 6 5 = nI (numv y tl st2 bh2) := k3.2.2.2.1.2.2.2
        have hs3 : Sq τ1 (adv (σ 0) n (nI kd)) := hq1
        obtain ⟨τ2, e2, hq2⟩ := setTrait4 hs3 (p := n) (w := 1) (by omega) (by decide) (nI (numv y tl st2 bh2))
        have e2' : X4_setTrait τ1 (nI n) 1 (nI (numv y tl st2 bh2)) = some τ2 := e2
        have i2 : Iv mi (n + 1) mi w t (upd (adv (σ 0) n (nI kd)) (7 + 8 * n + 1) (nI (numv y tl st2 bh2))) := i1.setT (by omega) (by decide) _ ⟨numv y tl st2 bh2, hle, rfl⟩
        have p2 := ps_sq m5 hq2 i2
        have ep : X6_place (nI n) 1 = some (nI (7 + 8 * n + 1)) := place6 n 1
        have e17' : σ3 22 17 = 0 := m5.2.2.2.2.1.2.2
        have z0 : σ3 0 = adv (σ 0) n (nI kd) := by rw [m7, k5]; rfl
        have eb : su σ3 0 (7 + 8 * n + 1) (nI (numv y tl st2 bh2)) = sr σ3 0 (upd (adv (σ 0) n (nI kd)) (7 + 8 * n + 1) (nI (numv y tl st2 bh2))) := by
          rw [su_eq_sr, z0]
        have hk1 := k3.2.2.1.1
        have hk2 := g3.2.2.1.1
        rw [e9, m4, Option.bind_some, ep, Option.bind_some, if_pos e17', m8]
        unfold X6_personItem_b81
        rw [ai_n (by omega) (by decide), nI_clamp (by omega), eb]
        try simp only [n13, n31, s11, s33, bx_uu]
        rw [m1', Option.bind_some, if_neg (by decide), r5, e2', Option.bind_some]
        try simp only [n13, n31, s11, s33, bx_uu]
        rw [m3', Option.bind_some]
        have ex : ∀ (Z : XS), va_up (va_up (va_up (va_up (va_up Z 3 ρ1) 1 τ1) 3 ρ2) 1 τ2) 3 ρ3 = va_up (va_up (va_up (va_up (va_up Z 3 ρ1) 1 τ1) 3 ρ2) 3 ρ3) 1 τ2 := fun Z => adv13 _ _ _
        rw [ex]
        exact (think_both p2 (p := n) (by omega)).le (by omega)
      · have m1' : X2_isNumberUpTo ρ2 (nI 9) = some 0 := m1
        have ep : X6_place (nI n) 1 = some (nI (7 + 8 * n + 1)) := place6 n 1
        have pz := m3.s0 (upd (σ3 0) (7 + 8 * n + 1) 3)
        rw [e9, m2, Option.bind_some, ep, Option.bind_some, if_neg (show ¬ σ3 22 17 = 0 by rw [m3.2.2.1]; decide)]
        unfold X6_personItem_b81 X6_personItem_b82
        rw [ai_n (by omega) (by decide), nI_clamp (by omega), su_eq_sr, pf_word pz, Option.bind_some, if_neg (by decide)]
        try simp only [n13, n31, s11, s33, bx_uu]
        rw [m1', Option.bind_some, if_pos rfl]
        exact Or.inr ⟨_, _, rfl, rfl, pz⟩
    · rw [if_neg c, if_neg (fun z => c (hw.mp z))]
      exact (think_both p1 (p := n) (by omega)).le g4
theorem pair86 {X0 X : XS} {σ0 σ : MS} {y : Nat → Nat} {tl mi st bh : Nat} (h : PS X0 σ0 y tl mi st bh X σ) (a b : Int32) : ∃ σ', X6_pairItem_b85 σ a b = some σ' ∧ PF X0 σ0 y tl X σ' := by
  refine ⟨su σ 22 17 1, ?_, ps_fail h⟩
  unfold X6_pairItem_b85 X6_pairItem_b86
  rw [must0 h.2.2.2.2.1.2.2, Option.bind_some, if_neg (show ¬ su σ 22 17 1 22 17 = 0 by rw [su_at, if_pos ⟨rfl, rfl⟩]; decide)]
theorem m1_int {n : Nat} (hn : n ≤ 8) {v : Nat} : ((v : Int) ≤ (nI n - 1).toInt) ↔ v < n := by
  rw [m1_toInt hn]; omega
theorem pair_both {X0 X : XS} {σ0 σ : MS} {y : Nat → Nat} {tl mi st bh : Nat} (h : PS X0 σ0 y tl mi st bh X σ) : OUT X0 σ0 y tl mi bh (X2_readPair X) (X6_pairItem σ) := by
  have hs : Sq (X 1) (σ 0) := h.2.2.2.2.2.1
  have s17 : σ 22 17 = 0 := h.2.2.2.2.1.2.2
  obtain ⟨n, w, t, hi⟩ := h.2.2.2.2.2.2
  have hn := hi.1.1
  have h1 : σ 0 1 = nI n := hi.2.1.1
  have h2 : X 1 11 4 = nI n := by rw [← hs.1.2.1]; exact h1
  have n13 : ∀ (X : XS) (τ : MS), va_up X 1 τ 3 = X 3 := fun _ _ => rfl
  have n31 : ∀ (X : XS) (ρ : MS), va_up X 3 ρ 1 = X 1 := fun _ _ => rfl
  have s33 : ∀ (X : XS) (ρ : MS), va_up X 3 ρ 3 = ρ := fun _ _ => rfl
  obtain ⟨ρ1, σ1, st1, bh1, g1, g2, g3, g4, g5, g6⟩ := ps_adv h
  unfold X2_readPair X6_pairItem
  rw [g1, must1 s17, g2, Option.bind_some, Option.bind_some]
  try simp only [n13, n31, s33, bx_uu]
  rw [g5, h1, h2]
  rcases ps_num g3 (nI n - 1) with ⟨m1, m2, ρ2, σ2, st2, bh2, m3, m4, m5, m6, m7, m8⟩ | ⟨m1, σ2, m2, m3, m4⟩
  · have m1' : X2_isNumberUpTo ρ1 (nI n - 1) = some 1 := m1
    have m3' : X2_advance ρ1 = some ρ2 := m3
    have v1 : numv y tl st1 bh1 < n := (m1_int hn).mp (of_decide_eq_true m2).2
    have r5 : ρ1 6 5 = nI (numv y tl st1 bh1) := g3.2.2.2.1.2.2.2
    have hk1 := g3.2.2.1.1
    rw [m1', m4, Option.bind_some, Option.bind_some, if_neg (by decide), m3', Option.bind_some, m8, r5]
    try simp only [n13, n31, s33, bx_uu]
    obtain ⟨⟨f1, f2⟩, ⟨t1, t2⟩, k1, ⟨r3', r4', r2', r5'⟩, ⟨s14, s15, s17'⟩, hs', hii⟩ := id m5
    have htl := t2.1
    have hst : st2 ≤ tl := by have := k1.1; have := k1.2.1; omega
    have hnl := numv_lt (tke_2 k1)
    have r5'' : ρ2 6 5 = nI (numv y tl st2 bh2) := r5'
    have eu : X2_isNumberUpTo ρ2 (nI n - 1) = some (bi (okN y tl st2 bh2 (nI n - 1))) := upTo5 r2' r5' hnl (nI n - 1)
    rw [eu, Option.bind_some, if_bi, s14, byte6 t2 (by omega), Option.bind_some, digit6 (fun z => (t2.2.2 st2 z).2), Option.bind_some, if_bi]
    by_cases c2 : srt y tl st2 = 2
    · rw [if_pos (decide_eq_true c2), if_pos s17']
      obtain ⟨p, q1, q2⟩ := peeked6 t2 s14 s15 k1.1 k1.2.1 c2 (tke_2 k1 c2)
      have e1p : σ2 0 1 = nI n := by rw [m7, g5]; exact h1
      have hp1000 : p ≤ 1000 := by omega
      have e49 : X6_pairItem_b49 σ2 (nI (numv y tl st1 bh1)) 1 = if p < n then (if p = numv y tl st1 bh1 then X6_pairItem_b85 σ2 (nI (numv y tl st1 bh1)) (nI p) else X6_pairItem_b86 σ2 (nI (numv y tl st1 bh1)) (nI p) 1) else X6_pairItem_b85 σ2 (nI (numv y tl st1 bh1)) (nI p) := by
        unfold X6_pairItem_b49 X6_pairItem_b62
        rw [if_neg (by decide), q1, Option.bind_some, if_neg (by decide), isPerson6 e1p hn, Option.bind_some, if_bi, isP_n (by omega)]
        by_cases c : p < n
        · rw [if_pos (decide_eq_true c), if_pos c]
          by_cases c' : p = numv y tl st1 bh1
          · rw [if_pos (by rw [c']), if_pos c']
          · rw [if_neg (fun z => c' ((nI_eq (by omega) (by omega)).mp z)), if_neg c']
        · rw [if_neg (by rw [decide_eq_false c]; decide), if_neg c]
      rw [e49]
      by_cases c : p < n
      · have ev : p = numv y tl st2 bh2 := by omega
        have eo : okN y tl st2 bh2 (nI n - 1) = true := decide_eq_true ⟨c2, (m1_int hn).mpr (by omega)⟩
        rw [if_pos c, if_pos eo, r5'', ev]
        by_cases c' : numv y tl st2 bh2 = numv y tl st1 bh1
        · rw [if_pos c', if_pos (by rw [c'])]
          obtain ⟨σ', z1, z2⟩ := pair86 m5 (nI (numv y tl st1 bh1)) (nI (numv y tl st2 bh2))
          rw [z1, bx_uu] at *
          exact Or.inr ⟨_, σ', rfl, rfl, z2⟩
        · rw [if_neg c', if_neg (fun z => c' ((nI_eq (by omega) (by omega)).mp z))]
          obtain ⟨ρ3, σ3, st3, bh3, b1, b2, b3, b4, b5, b6⟩ := ps_adv m5
          have b1' : X2_advance ρ2 = some ρ3 := b1
          unfold X6_pairItem_b86 X4_seat
          rw [must1 s17', b2, Option.bind_some, Option.bind_some, if_pos b3.2.2.2.2.1.2.2]
          try simp only [n13, n31, s33, bx_uu]
          rw [b1', Option.bind_some]
          have hi3 : Iv mi n mi w t (upd (upd (σ 0) 5 (nI (numv y tl st1 bh1))) 6 (nI (numv y tl st2 bh2))) := hi.setH _ _ (Or.inr ⟨_, _, v1, by omega, fun z => c' z.symm, rfl, rfl⟩)
          have p3 := ps_sq b3 ((hs.u5 (nI (numv y tl st1 bh1))).u6 (nI (numv y tl st2 bh2))) hi3
          have z0 : σ3 0 = σ 0 := by rw [b5, m7, g5]
          have es : su (su σ3 0 5 (nI (numv y tl st1 bh1))) 0 6 (nI (numv y tl st2 bh2)) = sr σ3 0 (upd (upd (σ 0) 5 (nI (numv y tl st1 bh1))) 6 (nI (numv y tl st2 bh2))) := by
            rw [su_eq_sr σ3, su_sr, z0]
          rw [es, adv13]
          have hk2 := k1.1
          refine Or.inl ⟨_, _, st3, bh3, rfl, rfl, ?_, by omega⟩
          simp only [bx_uu] at p3 ⊢
          exact p3
      · have eo : okN y tl st2 bh2 (nI n - 1) = false := decide_eq_false (fun z => c (by have := (m1_int hn).mp z.2; omega))
        rw [if_neg c, eo, if_neg (by decide)]
        obtain ⟨σ', z1, z2⟩ := pair86 m5 (nI (numv y tl st1 bh1)) (nI p)
        rw [z1]
        rw [bx_uu] at z2
        exact Or.inr ⟨_, σ', rfl, rfl, z2⟩
    · have eo : okN y tl st2 bh2 (nI n - 1) = false := decide_eq_false (fun z => c2 z.1)
      rw [eo, if_neg (show ¬ false = true by decide), decide_eq_false c2, if_neg (show ¬ false = true by decide)]
      unfold X6_pairItem_b48 X6_pairItem_b49 X6_pairItem_b62
      rw [if_pos rfl, if_pos rfl]
      obtain ⟨σ', z1, z2⟩ := pair86 m5 (nI (numv y tl st1 bh1)) (-1)
      rw [z1]
      rw [bx_uu] at z2
      exact Or.inr ⟨_, σ', rfl, rfl, z2⟩
  · have m1' : X2_isNumberUpTo ρ1 (nI n - 1) = some 0 := m1
    rw [m1', m2, Option.bind_some, Option.bind_some, if_pos rfl]
    obtain ⟨⟨f1, f2⟩, t2, s17', st2, bh2, q1, q2, q3, q4, q5⟩ := id m3
    have htl := t2.1
    have e48 : X6_pairItem_b48 σ2 (σ2 22 16) = some σ2 := by
      unfold X6_pairItem_b48 X6_pairItem_b49 X6_pairItem_b62 X6_pairItem_b85 X6_pairItem_b86
      rw [if_pos rfl, if_pos rfl, mustW s17', Option.bind_some, if_neg (show ¬ σ2 22 17 = 0 by rw [s17']; decide)]
    rw [q4, byte6 t2 (by omega), Option.bind_some, digit6 (fun z => (t2.2.2 st2 z).2), Option.bind_some, if_neg (show ¬ σ2 22 17 = 0 by rw [s17']; decide), e48]
    refine Or.inr ⟨_, σ2, rfl, ?_, m3⟩
    split <;> rfl
theorem subj_both {X0 X : XS} {σ0 σ : MS} {y : Nat → Nat} {tl mi st bh : Nat} (h : PS X0 σ0 y tl mi st bh X σ) : OUT X0 σ0 y tl mi bh (X2_readSubject X) (X6_item_b51 σ 1) := by
  have hs : Sq (X 1) (σ 0) := h.2.2.2.2.2.1
  have s17 : σ 22 17 = 0 := h.2.2.2.2.1.2.2
  obtain ⟨n, w, t, hi⟩ := h.2.2.2.2.2.2
  have n13 : ∀ (X : XS) (τ : MS), va_up X 1 τ 3 = X 3 := fun _ _ => rfl
  have n31 : ∀ (X : XS) (ρ : MS), va_up X 3 ρ 1 = X 1 := fun _ _ => rfl
  have s33 : ∀ (X : XS) (ρ : MS), va_up X 3 ρ 3 = ρ := fun _ _ => rfl
  obtain ⟨ρ1, σ1, st1, bh1, g1, g2, g3, g4, g5, g6⟩ := ps_adv h
  have e5 : (5 : Int32) = nI 5 := rfl
  unfold X2_readSubject X6_item_b51
  rw [g1, must1 s17, g2]
  simp only [Option.bind_some, n13, n31, s33, bx_uu]
  rw [e5]
  rcases ps_num g3 (nI 5) with ⟨m1, m2, ρ2, σ2, st2, bh2, m3, m4, m5, m6, m7, m8⟩ | ⟨m1, σ2, m2, m3, m4⟩
  · have m1' : X2_isNumberUpTo ρ1 (nI 5) = some 1 := m1
    have m3' : X2_advance ρ1 = some ρ2 := m3
    have hle := okN_le (by decide) m2
    have r5 : ρ1 6 5 = nI (numv y tl st1 bh1) := g3.2.2.2.1.2.2.2
    rw [m1', m4, Option.bind_some, Option.bind_some, if_neg (by decide), if_pos m5.2.2.2.2.1.2.2, m8, r5]
    try simp only [n13, n31, s33, bx_uu]
    rw [m3', Option.bind_some]
    have p3 := ps_sq m5 (hs.u3 (nI (numv y tl st1 bh1))) (hi.set3 (t' := numv y tl st1 bh1) (by omega))
    have es : su σ2 0 3 (nI (numv y tl st1 bh1)) = sr σ2 0 (upd (σ 0) 3 (nI (numv y tl st1 bh1))) := by
      rw [su_eq_sr σ2, m7, g5]
    have hk1 := g3.2.2.1.1
    rw [es, adv13]
    refine Or.inl ⟨_, _, st2, bh2, rfl, rfl, ?_, by omega⟩
    simp only [bx_uu] at p3 ⊢
    exact p3
  · have m1' : X2_isNumberUpTo ρ1 (nI 5) = some 0 := m1
    rw [m1', m2, Option.bind_some, Option.bind_some, if_pos rfl, if_neg (show ¬ σ2 22 17 = 0 by rw [m3.2.2.1]; decide)]
    exact Or.inr ⟨_, _, rfl, rfl, m3.s0 (upd (σ2 0) 3 (σ2 0 3))⟩
theorem ri_no {X : XS} {i f : Nat} (hi : i < 7) (e : X2_isWord (X 3) (nmi (nI i)) = some (bi false)) : X2_readItem_b2 (f + 1) X (nI i) = X2_readItem_b2 f X (nI (i + 1)) := by
  rw [X2_readItem_b2, if_neg (fun z => by have := (nI_leI (a := 7) (by decide) (by omega)).mp z; omega), e, Option.bind_some, if_pos (show bi false = 0 from rfl), nI_1]
theorem ri_yes {X : XS} {i f : Nat} (hi : i < 7) (e : X2_isWord (X 3) (nmi (nI i)) = some (bi true)) : X2_readItem_b2 (f + 1) X (nI i) = (X2_readPerson X (nI i)).bind fun q => zb q.1 (some (q.1, q.2)) := by
  rw [X2_readItem_b2, if_neg (fun z => by have := (nI_leI (a := 7) (by decide) (by omega)).mp z; omega), e, Option.bind_some, if_neg (show ¬ bi true = 0 by decide)]
theorem item_person {X0 X : XS} {σ0 σ : MS} {y : Nat → Nat} {tl mi st bh kd : Nat} {A : Option (Int32 × XS)} {W : Int64} (h : PS X0 σ0 y tl mi st bh X σ) (hkd : kd < 7) (eA : A = (X2_readPerson X (nI kd)).bind fun q => zb q.1 (some (q.1, q.2))) (eW : X6_word σ = some W) (eK : X6_kindHere σ = some (nI kd)) : OUT X0 σ0 y tl mi bh A (X6_item σ) := by
  rw [eA]
  unfold X6_item
  rw [eK, eW, Option.bind_some, Option.bind_some, if_neg (nI_pos (by omega)), bind_st]
  exact (person_both h hkd).zb
theorem out_id {X0 : XS} {σ0 : MS} {y : Nat → Nat} {tl mi st : Nat} {A : Option (Int32 × XS)} {B : Option MS} (h : OUT X0 σ0 y tl mi st A B) : OUT X0 σ0 y tl mi st (A.bind fun q => if q.1 = 0 then some (0, q.2) else some (1, q.2)) B := by
  rcases h with ⟨X', σ', st', bh', rfl, e2, e3, e4⟩ | ⟨X', σ', rfl, e2, e3⟩
  · exact Or.inl ⟨X', σ', st', bh', by rw [Option.bind_some, if_neg (show ¬ (1 : Int32) = 0 by decide)], e2, e3, e4⟩
  · exact Or.inr ⟨X', σ', by rw [Option.bind_some, if_pos rfl], e2, e3⟩
theorem item_both {X0 X : XS} {σ0 σ : MS} {y : Nat → Nat} {tl mi st bh : Nat} (h : PS X0 σ0 y tl mi st bh X σ) : OUT X0 σ0 y tl mi (st + 1) (X2_readItem X) (X6_item σ) := by
  obtain ⟨w5, W, w6, wc⟩ := ps_word h
  have s17 : σ 22 17 = 0 := h.2.2.2.2.1.2.2
  have k1 := h.2.2.1
  have hlt : ∀ k, isW y tl st bh k = true → st + 1 ≤ bh := by
    intro k hk
    obtain ⟨a1, -⟩ := of_decide_eq_true hk
    obtain ⟨a2, -⟩ := srt_1 a1
    exact k1.2.2.1 a2
  obtain ⟨q6, q0, q1, q2, q3, q4, q5, q7, q8, q9, q10⟩ := hsh_dec
  have c6 := wc 6 (by decide)
  have c0 := wc 0 (by decide)
  have c1 := wc 1 (by decide)
  have c2 := wc 2 (by decide)
  have c3 := wc 3 (by decide)
  have c4 := wc 4 (by decide)
  have c5 := wc 5 (by decide)
  have c9 := wc 9 (by decide)
  have c10 := wc 10 (by decide)
  rw [q6] at c6; rw [q0] at c0; rw [q1] at c1; rw [q2] at c2; rw [q3] at c3; rw [q4] at c4; rw [q5] at c5; rw [q9] at c9; rw [q10] at c10
  have c6 : lg_cmp W 542723566 = 0 ↔ _ := c6
  have c0 : lg_cmp W 136230 = 0 ↔ _ := c0
  have c1 : lg_cmp W 404481202 = 0 ↔ _ := c1
  have c2 : lg_cmp W 437899442 = 0 ↔ _ := c2
  have c3 : lg_cmp W 22088722073 = 0 ↔ _ := c3
  have c4 : lg_cmp W 23716 = 0 ↔ _ := c4
  have c5 : lg_cmp W 220501444 = 0 ↔ _ := c5
  have c9 : lg_cmp W 525618 = 0 ↔ _ := c9
  have c10 : lg_cmp W 494 = 0 ↔ _ := c10
  have eA : X2_readItem X = X2_readItem_b2 (1992 + 7 + 1) X (nI 0) := rfl
  have eK : X6_kindHere σ = if lg_cmp W 542723566 = 0 then some 0 else if lg_cmp W 136230 = 0 then some 1 else if lg_cmp W 404481202 = 0 then some 2 else if lg_cmp W 437899442 = 0 then some 3 else if lg_cmp W 22088722073 = 0 then some 4 else if lg_cmp W 23716 = 0 then some 5 else if lg_cmp W 220501444 = 0 then some 6 else some (-1) := by
    unfold X6_kindHere
    rw [w6, Option.bind_some]
  have m0 : nmi (nI 0) = 6 := by decide
  have m1 : nmi (nI 1) = 0 := by decide
  have m2 : nmi (nI 2) = 1 := by decide
  have m3 : nmi (nI 3) = 2 := by decide
  have m4 : nmi (nI 4) = 3 := by decide
  have m5 : nmi (nI 5) = 4 := by decide
  have m6 : nmi (nI 6) = 5 := by decide
  have fls : ∀ k, k < 11 → ¬ isW y tl st bh k = true → X2_isWord (X 3) k = some (bi false) := by
    intro k hk hf
    rw [w5 k hk]
    cases hb : isW y tl st bh k
    · rfl
    · exact absurd hb hf
  have tru : ∀ k, k < 11 → isW y tl st bh k = true → X2_isWord (X 3) k = some (bi true) := by
    intro k hk ht
    rw [w5 k hk, ht]
  by_cases d6 : isW y tl st bh 6 = true
  · exact (item_person h (kd := 0) (by decide) (eA.trans (ri_yes (by decide) (by rw [m0]; exact tru 6 (by decide) d6))) w6 (by rw [eK, if_pos (c6.mpr d6)]; rfl)).le (hlt _ d6)
  have eK := eK.trans (if_neg (fun z => d6 (c6.mp z)))
  have eA := eA.trans (ri_no (by decide) (by rw [m0]; exact fls 6 (by decide) d6))
  by_cases d0 : isW y tl st bh 0 = true
  · exact (item_person h (kd := 1) (by decide) (eA.trans (ri_yes (by decide) (by rw [m1]; exact tru 0 (by decide) d0))) w6 (by rw [eK, if_pos (c0.mpr d0)]; rfl)).le (hlt _ d0)
  have eK := eK.trans (if_neg (fun z => d0 (c0.mp z)))
  have eA := eA.trans (ri_no (by decide) (by rw [m1]; exact fls 0 (by decide) d0))
  by_cases d1 : isW y tl st bh 1 = true
  · exact (item_person h (kd := 2) (by decide) (eA.trans (ri_yes (by decide) (by rw [m2]; exact tru 1 (by decide) d1))) w6 (by rw [eK, if_pos (c1.mpr d1)]; rfl)).le (hlt _ d1)
  have eK := eK.trans (if_neg (fun z => d1 (c1.mp z)))
  have eA := eA.trans (ri_no (by decide) (by rw [m2]; exact fls 1 (by decide) d1))
  by_cases d2 : isW y tl st bh 2 = true
  · exact (item_person h (kd := 3) (by decide) (eA.trans (ri_yes (by decide) (by rw [m3]; exact tru 2 (by decide) d2))) w6 (by rw [eK, if_pos (c2.mpr d2)]; rfl)).le (hlt _ d2)
  have eK := eK.trans (if_neg (fun z => d2 (c2.mp z)))
  have eA := eA.trans (ri_no (by decide) (by rw [m3]; exact fls 2 (by decide) d2))
  by_cases d3 : isW y tl st bh 3 = true
  · exact (item_person h (kd := 4) (by decide) (eA.trans (ri_yes (by decide) (by rw [m4]; exact tru 3 (by decide) d3))) w6 (by rw [eK, if_pos (c3.mpr d3)]; rfl)).le (hlt _ d3)
  have eK := eK.trans (if_neg (fun z => d3 (c3.mp z)))
  have eA := eA.trans (ri_no (by decide) (by rw [m4]; exact fls 3 (by decide) d3))
  by_cases d4 : isW y tl st bh 4 = true
  · exact (item_person h (kd := 5) (by decide) (eA.trans (ri_yes (by decide) (by rw [m5]; exact tru 4 (by decide) d4))) w6 (by rw [eK, if_pos (c4.mpr d4)]; rfl)).le (hlt _ d4)
  have eK := eK.trans (if_neg (fun z => d4 (c4.mp z)))
  have eA := eA.trans (ri_no (by decide) (by rw [m5]; exact fls 4 (by decide) d4))
  by_cases d5 : isW y tl st bh 5 = true
  · exact (item_person h (kd := 6) (by decide) (eA.trans (ri_yes (by decide) (by rw [m6]; exact tru 5 (by decide) d5))) w6 (by rw [eK, if_pos (c5.mpr d5)]; rfl)).le (hlt _ d5)
  have eK := eK.trans (if_neg (fun z => d5 (c5.mp z)))
  have eA := eA.trans (ri_no (by decide) (by rw [m6]; exact fls 5 (by decide) d5))
  rw [eA]
  unfold X6_item
  rw [eK, w6, Option.bind_some, Option.bind_some, if_pos (by decide), X2_readItem_b2, if_pos (show (7 : Int32) ≤ nI (0 + 1 + 1 + 1 + 1 + 1 + 1 + 1) by decide), w5 9 (by decide), Option.bind_some, if_bi]
  by_cases d9 : isW y tl st bh 9 = true
  · rw [if_pos d9, if_pos (c9.mpr d9), bind_st]
    exact ((pair_both h).zb).le (hlt _ d9)
  · rw [if_neg d9, if_neg (fun z => d9 (c9.mp z)), w5 10 (by decide), Option.bind_some, if_bi]
    by_cases d10 : isW y tl st bh 10 = true
    · rw [if_pos d10, if_pos (c10.mpr d10)]
      exact (out_id (subj_both h)).le (hlt _ d10)
    · rw [if_neg d10, if_neg (fun z => d10 (c10.mp z))]
      unfold X6_item_b51
      have h17 : su σ 22 17 1 22 17 = 1 := by rw [su_at, if_pos ⟨rfl, rfl⟩]
      rw [must0 s17, Option.bind_some, numberW h17, Option.bind_some, if_neg (show ¬ su σ 22 17 1 22 17 = 0 by rw [h17]; decide)]
      exact Or.inr ⟨X, _, rfl, rfl, (ps_fail h).s0 (upd (su σ 22 17 1 0) 3 (su σ 22 17 1 0 3))⟩
