/-! PURE 11: a minute of the class; how much comes; many minutes -/
theorem exch4 {τ : MS} {v : Nat → Int32} {B n mi w t : Nat} (hs : Sq τ v) (hi : Iv B n mi w t v) (hh : hd v = true) (hne : ¬ v (iA v) = v (iB v)) : ∃ τ', X4_exchange τ = some (swa v, τ') ∧ Sq τ' (mv2 v v) := by
  obtain ⟨a, b, ha, hb, hab, h5, h6, eA, eB, eT, eIA, eIB⟩ := hAB hi hh
  have hn := hi.1.1
  have ht := hi.1.2.2.2
  have h3 : v 3 = nI t := hi.2.1.2.2.2
  have t8 : τ 11 8 = nI a := by rw [← hs.1.2.2.2.2.2.1]; exact h5
  have t9 : τ 11 9 = nI b := by rw [← hs.1.2.2.2.2.2.2]; exact h6
  have t7 : τ 11 7 = nI t := by rw [← hs.1.2.2.2.1]; exact h3
  have m0 : τ 11 5 = v 0 := hs.1.1.symm
  have kA : τ 0 a = v (7 + 8 * a) := ((hs.2.1 a (by omega)).1).symm
  have kB : τ 0 b = v (7 + 8 * b) := ((hs.2.1 b (by omega)).1).symm
  have oA : τ 1 a = v (8 + 8 * a) := ((hs.2.1 a (by omega)).2.1).symm
  have oB : τ 1 b = v (8 + 8 * b) := ((hs.2.1 b (by omega)).2.1).symm
  have vA : τ 2 (a * 6 + t) = v (9 + 8 * a + t) := ((hs.2.1 a (by omega)).2.2 t ht).symm
  have vB : τ 2 (b * 6 + t) = v (9 + 8 * b + t) := ((hs.2.1 b (by omega)).2.2 t ht).symm
  have n1 : ∀ (k : Nat) (x : Int32) (τ' : MS), su τ' 2 k x 11 = τ' 11 := fun _ _ _ => rfl
  have n2 : ∀ (k : Nat) (x : Int32) (τ' : MS), su τ' 2 k x 0 = τ' 0 := fun _ _ _ => rfl
  have n3 : ∀ (k : Nat) (x : Int32) (τ' : MS), su τ' 2 k x 1 = τ' 1 := fun _ _ _ => rfl
  have key : ∀ u : Int32, X4_exchange_b63 τ (v (9 + 8 * a + t)) (v (9 + 8 * b + t)) (gap v) u = some (swa v, su (su τ 2 (a * 6 + t) (hvw (v (9 + 8 * a + t) + u * mvv (v (7 + 8 * a)) (gap v) (v 0)))) 2 (b * 6 + t) (hvw (v (9 + 8 * b + t) - u * mvv (v (7 + 8 * b)) (gap v) (v 0)))) := by
    intro u
    have es : stv (v (7 + 8 * a)) (v (8 + 8 * a)) (gap v) (v 0) + stv (v (7 + 8 * b)) (v (8 + 8 * b)) (gap v) (v 0) = swa v := by
      unfold swa; rw [eA, eB]
    rw [← es]
    generalize gap v = g
    unfold X4_exchange_b63
    rw [t8, t9, t7, m0, ai_n (j := a) (by omega) (by decide), nI_clamp (n := a) (by omega), mv_s, kA, Option.bind_some, ai_n (j := b) (by omega) (by decide), nI_clamp (n := b) (by omega), mv_s, kB, Option.bind_some, held4, Option.bind_some, setView4 (by omega) ht, Option.bind_some, held4, Option.bind_some]
    simp only [n1, n2, n3]
    rw [t9, t7, setView4 (by omega) ht, Option.bind_some]
    simp only [n1, n2, n3]
    rw [t8, t9, m0, ai_n (j := a) (by omega) (by decide), ai_n (j := a) (by omega) (by decide), nI_clamp (n := a) (by omega), nI_clamp (n := b) (by omega), st_s, Option.bind_some, ai_n (j := b) (by omega) (by decide), ai_n (j := b) (by omega) (by decide), st_s, Option.bind_some, kA, kB, oA, oB]
  have eg : (if (0 : Int32) ≤ v (9 + 8 * a + t) - v (9 + 8 * b + t) then v (9 + 8 * a + t) - v (9 + 8 * b + t) else (0 : Int32) - (v (9 + 8 * a + t) - v (9 + 8 * b + t))) = gap v := by
    unfold gap ab; rw [eIA, eIB]
  have hne' : ¬ v (9 + 8 * a + t) = v (9 + 8 * b + t) := by rw [← eIA, ← eIB]; exact hne
  refine ⟨su (su τ 2 (a * 6 + t) (hvw (v (9 + 8 * a + t) + upw v * mvv (v (7 + 8 * a)) (gap v) (v 0)))) 2 (b * 6 + t) (hvw (v (9 + 8 * b + t) - upw v * mvv (v (7 + 8 * b)) (gap v) (v 0))), ?_, ?_⟩
  · unfold X4_exchange
    rw [t8, t9, t7, viewOn4 (by omega) ht, viewOn4 (by omega) ht, Option.bind_some, Option.bind_some, vA, vB, if_neg hne', eg, key, key]
    unfold upw
    rw [eIA, eIB]
    split <;> rfl
  · unfold mv2
    rw [eIA, eIB, eA, eB]
    exact (hs.uv (q := a) (i := t) _ (by omega) ht).uv (q := b) (i := t) _ (by omega) ht
theorem pass15 {τ : MS} {u : Nat → Int32} {mi : Nat} (hs : Sq τ u) (h0 : u 0 = nI mi) (hm : mi + 1 ≤ 99999) (c : Int32) : ∃ τ', X4_passMinute_b15 τ c = some (c, τ') ∧ Sq τ' (upd (upd u 2 (wat (u 2 + c))) 0 (u 0 + 1)) := by
  have e6 : τ 11 6 = u 2 := hs.1.2.2.1.symm
  have e5 : τ 11 5 = u 0 := hs.1.1.symm
  refine ⟨su (su τ 11 6 (wat (u 2 + c))) 11 5 (u 0 + 1), ?_, (hs.u2 _).u0 _⟩
  unfold X4_passMinute_b15
  rw [e6, wat_min]
  have e7 : su τ 11 6 (wat (u 2 + c)) 11 5 = u 0 := by rw [← e5]; rfl
  rw [e7]
  have e8 : (if u 0 + 1 < (99999 : Int32) then u 0 + 1 else 99999) = u 0 + 1 := by
    rw [h0, nI_1, show (99999 : Int32) = nI 99999 from rfl]
    by_cases h : mi + 1 < 99999
    · rw [if_pos ((nI_ltI (by omega) (by omega)).mpr h)]
    · rw [if_neg (fun e => h ((nI_ltI (by omega) (by omega)).mp e)), show mi + 1 = 99999 by omega]
  rw [e8]
theorem pass4 {τ : MS} {v : Nat → Int32} {B n mi w t : Nat} (hs : Sq τ v) (hi : Iv B n mi w t v) (hm : mi + 1 ≤ 99999) : ∃ τ', X4_passMinute τ = some (cme v, τ') ∧ Sq τ' (nxt v) := by
  have h0 : v 0 = nI mi := hi.2.1.2.1
  have h2 : v 2 = nI w := hi.2.1.2.2.1
  have w2 : wat (v 2 + 0) = v 2 := by
    rw [add_0, h2, wat_n (by have := hi.1.2.2.1; omega), Nat.min_eq_left hi.1.2.2.1]
  unfold X4_passMinute
  rw [manned4 hs hi, Option.bind_some, if_bi]
  by_cases hh : hd v = true
  · obtain ⟨a, b, ha, hb, hab, h5, h6, eA, eB, eT, eIA, eIB⟩ := hAB hi hh
    have hn := hi.1.1
    have ht := hi.1.2.2.2
    have h3 : v 3 = nI t := hi.2.1.2.2.2
    rw [if_pos hh]
    by_cases hg : v (iA v) = v (iB v)
    · have t8 : τ 11 8 = nI a := by rw [← hs.1.2.2.2.2.2.1]; exact h5
      have t9 : τ 11 9 = nI b := by rw [← hs.1.2.2.2.2.2.2]; exact h6
      have t7 : τ 11 7 = nI t := by rw [← hs.1.2.2.2.1]; exact h3
      have vA : τ 2 (a * 6 + t) = v (9 + 8 * a + t) := ((hs.2.1 a (by omega)).2.2 t ht).symm
      have vB : τ 2 (b * 6 + t) = v (9 + 8 * b + t) := ((hs.2.1 b (by omega)).2.2 t ht).symm
      have hg' : v (9 + 8 * a + t) = v (9 + 8 * b + t) := by rw [← eIA, ← eIB]; exact hg
      have ex : X4_exchange τ = some ((0 : Int32), su τ 11 7 (nI ((t + 1) % 6))) := by
        unfold X4_exchange
        rw [t8, t9, t7, viewOn4 (by omega) ht, viewOn4 (by omega) ht, Option.bind_some, Option.bind_some, vA, vB, if_pos hg', nI_1, show (6 : Int32) = nI 6 from rfl, pk_rem (by omega) (by decide) (by decide)]
      obtain ⟨τ', e, hq⟩ := pass15 (hs.u3 (nI ((t + 1) % 6))) (mi := mi) (by rw [upd_n (by decide)]; exact h0) hm 0
      refine ⟨τ', ?_, ?_⟩
      · rw [ex, Option.bind_some, e]
        unfold cme
        rw [if_pos hh, if_pos hg]
      · unfold nxt nx0
        rw [if_pos hh, if_pos hg, eT]
        rw [upd_n (show 2 ≠ 3 by decide), upd_n (show 0 ≠ 3 by decide), w2] at hq
        have e9 : upd (upd v 3 (nI ((t + 1) % 6))) 2 (v 2) = upd v 3 (nI ((t + 1) % 6)) := by
          rw [upd_cm (by decide), upd_self]
        rw [e9] at hq
        exact hq
    · obtain ⟨τ1, ex, hq1⟩ := exch4 hs hi hh hg
      have f0 : mv2 v v 0 = v 0 := by
        unfold mv2
        rw [eIA, eIB, upd_n (by omega), upd_n (by omega)]
      have f2 : mv2 v v 2 = v 2 := by
        unfold mv2
        rw [eIA, eIB, upd_n (by omega), upd_n (by omega)]
      obtain ⟨τ', e, hq⟩ := pass15 hq1 (mi := mi) (by rw [f0]; exact h0) hm (swa v)
      refine ⟨τ', ?_, ?_⟩
      · rw [ex, Option.bind_some, e]
        unfold cme
        rw [if_pos hh, if_neg hg]
      · rw [f0, f2] at hq
        have e9 : upd (mv2 v v) 2 (wat (v 2 + swa v)) = mvd v := by
          unfold mvd mv2
          rw [eIA, eIB, upd_cm (show 9 + 8 * b + t ≠ 2 by omega), upd_cm (show 9 + 8 * a + t ≠ 2 by omega)]
        rw [e9] at hq
        unfold nxt nx0
        rw [if_pos hh, if_neg hg]
        exact hq
  · obtain ⟨τ', e, hq⟩ := pass15 hs h0 hm 0
    refine ⟨τ', ?_, ?_⟩
    · rw [if_neg hh, e]
      unfold cme
      rw [if_neg hh]
    · unfold nxt nx0
      rw [if_neg hh]
      rw [w2, upd_self] at hq
      exact hq
/-- how much comes is small -/
def stf (kd vo g : Int32) (z : Bool) : Int32 := if kd = 1 then vo + 2 else if kd = 2 then vo + g else if kd = 3 then (if vo + g ≤ 0 then 0 else vo + g - 1) else if kd = 4 then 2 * (if vo + g ≤ 0 then 0 else vo + g - 1) else if kd = 5 then (if z then vo + 10 else vo) else if kd = 6 then (vo + 2) / 2 else vo
theorem stv_f (kd vo g mn : Int32) : stv kd vo g mn = stf kd vo g (decide (mn - mn / (7 : Int32) * (7 : Int32) = 0)) := by
  have h : X0_strokes kd vo g mn = some (stf kd vo g (decide (mn - mn / (7 : Int32) * (7 : Int32) = 0))) := by
    unfold X0_strokes X0_strokes_b18 stf
    by_cases h7 : mn - mn / (7 : Int32) * (7 : Int32) = 0
    · simp only [if_pos h7, decide_eq_true h7, if_true]
      repeat' split
      all_goals first | rfl | contradiction
    · simp only [if_neg h7, decide_eq_false h7, Bool.false_eq_true, if_false]
      repeat' split
      all_goals first | rfl | contradiction
  unfold stv
  rw [h]; rfl
theorem stf_dec : ∀ kd, kd < 7 → ∀ vo, vo < 10 → ∀ g, g < 19 → ∀ z : Bool, 0 ≤ (stf (nI kd) (nI vo) (nI g) z).toInt ∧ (stf (nI kd) (nI vo) (nI g) z).toInt < 53 := by decide +kernel
theorem i32_nat {x : Int32} {n : Nat} (h : 0 ≤ x.toInt ∧ x.toInt < (n : Int)) (hn : n < 2 ^ 31) : ∃ s : Nat, s < n ∧ x = nI s := by
  refine ⟨x.toInt.toNat, by omega, ?_⟩
  apply Int32.toInt_inj.mp
  rw [nI_toInt (by omega)]
  omega
theorem stf_small (kd : Nat) (hk : kd < 7) (vo : Nat) (hv : vo < 10) (g : Nat) (hg : g < 19) (z : Bool) : ∃ s : Nat, s < 53 ∧ stf (nI kd) (nI vo) (nI g) z = nI s := i32_nat (n := 53) (stf_dec kd hk vo hv g hg z) (by decide)
theorem gap_n {x y : Int32} (hx : inr (-9) 9 x = true) (hy : inr (-9) 9 y = true) : ∃ g : Nat, g < 19 ∧ ab x y = nI g := by
  have h := ab_toInt hx hy
  have h1 := of_decide_eq_true hx
  have h2 := of_decide_eq_true hy
  refine ⟨(ab x y).toInt.toNat, ?_, ?_⟩
  · rw [h]; split <;> omega
  · apply Int32.toInt_inj.mp
    rw [nI_toInt (by rw [h]; split <;> omega), h]
    split <;> omega
theorem cme_n {v : Nat → Int32} {B n mi w t : Nat} (hi : Iv B n mi w t v) : ∃ c : Nat, c ≤ 104 ∧ cme v = nI c := by
  unfold cme
  by_cases hh : hd v = true
  · rw [if_pos hh]
    by_cases hg : v (iA v) = v (iB v)
    · rw [if_pos hg]; exact ⟨0, by omega, rfl⟩
    · rw [if_neg hg]
      obtain ⟨a, b, ha, hb, hab, h5, h6, eA, eB, eT, eIA, eIB⟩ := hAB hi hh
      have hn := hi.1.1
      have ht := hi.1.2.2.2
      obtain ⟨g, hg1, hg2⟩ := gap_n (ivv hi (p := a) (j := t) (by omega) ht) (ivv hi (p := b) (j := t) (by omega) ht)
      have eg : gap v = nI g := by unfold gap; rw [eIA, eIB]; exact hg2
      obtain ⟨⟨k1, hk1, e1⟩, ⟨o1, ho1, f1⟩, -⟩ := hi.2.2.2.1 a (by omega)
      obtain ⟨⟨k2, hk2, e2⟩, ⟨o2, ho2, f2⟩, -⟩ := hi.2.2.2.1 b (by omega)
      unfold swa
      rw [eA, eB, e1, e2, f1, f2, eg, stv_f, stv_f]
      obtain ⟨s1, hs1, q1⟩ := stf_small k1 hk1 o1 (by omega) g hg1 (decide (v 0 - v 0 / (7 : Int32) * (7 : Int32) = 0))
      obtain ⟨s2, hs2, q2⟩ := stf_small k2 hk2 o2 (by omega) g hg1 (decide (v 0 - v 0 / (7 : Int32) * (7 : Int32) = 0))
      rw [q1, q2, nI_add]
      exact ⟨s1 + s2, by omega, rfl⟩
  · rw [if_neg hh]; exact ⟨0, by omega, rfl⟩
theorem Iv.mono {B B' n mi w t : Nat} {v : Nat → Int32} (h : Iv B n mi w t v) (hB : mi ≤ B') : Iv B' n mi w t v := ⟨⟨h.1.1, hB, h.1.2.2⟩, h.2⟩
theorem setV {B n mi w t p j : Nat} {v : Nat → Int32} (h : Iv B n mi w t v) (hp : p < 8) (hj : j < 6) (x : Int32) (hx : inr (-9) 9 x = true) : Iv B n mi w t (upd v (9 + 8 * p + j) x) := by
  rw [show 9 + 8 * p + j = 7 + 8 * p + (2 + j) by omega]
  refine h.setT hp (by omega) x ?_
  unfold okT
  rw [if_neg (by omega), if_neg (by omega)]
  exact hx
theorem iv_nxt {B n mi w t : Nat} {v : Nat → Int32} (hi : Iv B n mi w t v) : ∃ w' t', Iv (mi + 1) n (mi + 1) w' t' (nxt v) := by
  have h0 : v 0 = nI mi := hi.2.1.2.1
  have h2 : v 2 = nI w := hi.2.1.2.2.1
  have hw := hi.1.2.2.1
  unfold nxt nx0
  rw [h0, nI_1]
  by_cases hh : hd v = true
  · obtain ⟨a, b, ha, hb, hab, h5, h6, eA, eB, eT, eIA, eIB⟩ := hAB hi hh
    have hn := hi.1.1
    have ht := hi.1.2.2.2
    rw [if_pos hh]
    by_cases hg : v (iA v) = v (iB v)
    · rw [if_pos hg, eT]
      exact ⟨w, (t + 1) % 6, (hi.set3 (Nat.mod_lt _ (by decide))).set0 (Nat.le_refl _)⟩
    · rw [if_neg hg]
      obtain ⟨c, hc, ec⟩ := cme_n hi
      have ec' : swa v = nI c := by
        rw [← ec]; unfold cme; rw [if_pos hh, if_neg hg]
      refine ⟨min (w + c) 999999, t, Iv.set0 (B := B) (mi := mi) ?_ (Nat.le_refl _)⟩
      unfold mvd mv2
      rw [eIA, eIB, h2, ec', nI_add, wat_n (by omega)]
      exact setV (setV (hi.set2 (Nat.min_le_right _ _)) (by omega) ht _ (hvw_in _)) (by omega) ht _ (hvw_in _)
  · rw [if_neg hh]
    exact ⟨w, t, hi.set0 (Nat.le_refl _)⟩
/-- the row d minutes on; how much comes in these -/
def itn : Nat → (Nat → Int32) → Nat → Int32
  | 0, v => v
  | d + 1, v => itn d (nxt v)
def cms : Nat → (Nat → Int32) → Int32 → Int32
  | 0, _, acc => acc
  | d + 1, v, acc => cms d (nxt v) (acc + cme v)
theorem iv_itn {n : Nat} : ∀ (d : Nat) {B mi w t : Nat} {v : Nat → Int32}, Iv B n mi w t v → ∃ B' w' t', Iv B' n (mi + d) w' t' (itn d v) := by
  intro d
  induction d with
  | zero => intro B mi w t v hi; exact ⟨B, w, t, hi⟩
  | succ d ih =>
    intro B mi w t v hi
    obtain ⟨w1, t1, h1⟩ := iv_nxt hi
    obtain ⟨B2, w2, t2, h2⟩ := ih h1
    refine ⟨B2, w2, t2, ?_⟩
    rw [show mi + (d + 1) = mi + 1 + d by omega]
    exact h2
theorem passes4 {n : Nat} : ∀ (d j fuel m : Nat) {B mi w t : Nat} {τ : MS} {v : Nat → Int32}, j + d = m → m < 2000 → d < fuel → mi + d ≤ 99999 → Sq τ v → Iv B n mi w t v → ∃ τ', X4_passMinutes_b2 fuel τ (nI m) (nI j) = some τ' ∧ Sq τ' (itn d v) := by
  intro d
  induction d with
  | zero =>
    intro j fuel m B mi w t τ v hj hm hf hmi hs hi
    obtain ⟨f, rfl⟩ : ∃ f, fuel = f + 1 := ⟨fuel - 1, by omega⟩
    exact ⟨τ, by rw [X4_passMinutes_b2, le_nI (by omega) (by omega), if_pos (by omega)], hs⟩
  | succ d ih =>
    intro j fuel m B mi w t τ v hj hm hf hmi hs hi
    obtain ⟨f, rfl⟩ : ∃ f, fuel = f + 1 := ⟨fuel - 1, by omega⟩
    obtain ⟨τ1, e1, hs1⟩ := pass4 hs hi (by omega)
    obtain ⟨w1, t1, hi1⟩ := iv_nxt hi
    obtain ⟨τ2, e2, hs2⟩ := ih (j + 1) f m (by omega) hm (by omega) (by omega) hs1 hi1
    refine ⟨τ2, ?_, hs2⟩
    rw [X4_passMinutes_b2, le_nI (by omega) (by omega), if_neg (by omega), e1, Option.bind_some, nI_1]
    exact e2
theorem pump4 {n : Nat} : ∀ (d j fuel m : Nat) (acc : Int32) {B mi w t : Nat} {τ : MS} {v : Nat → Int32}, j + d = m → m < 2000 → d < fuel → mi + d ≤ 99999 → Sq τ v → Iv B n mi w t v → ∃ τ', X4_pumpBy_b12 fuel τ (nI m) acc (nI j) = some (cms d v acc, τ') ∧ Sq τ' (itn d v) := by
  intro d
  induction d with
  | zero =>
    intro j fuel m acc B mi w t τ v hj hm hf hmi hs hi
    obtain ⟨f, rfl⟩ : ∃ f, fuel = f + 1 := ⟨fuel - 1, by omega⟩
    exact ⟨τ, by rw [X4_pumpBy_b12, le_nI (by omega) (by omega), if_pos (by omega)]; rfl, hs⟩
  | succ d ih =>
    intro j fuel m acc B mi w t τ v hj hm hf hmi hs hi
    obtain ⟨f, rfl⟩ : ∃ f, fuel = f + 1 := ⟨fuel - 1, by omega⟩
    obtain ⟨τ1, e1, hs1⟩ := pass4 hs hi (by omega)
    obtain ⟨w1, t1, hi1⟩ := iv_nxt hi
    obtain ⟨τ2, e2, hs2⟩ := ih (j + 1) f m (acc + cme v) (by omega) hm (by omega) (by omega) hs1 hi1
    refine ⟨τ2, ?_, hs2⟩
    rw [X4_pumpBy_b12, le_nI (by omega) (by omega), if_neg (by omega), e1, Option.bind_some, nI_1]
    exact e2
theorem goes6 {n : Nat} : ∀ (d j fuel m : Nat) {B mi w t : Nat} {σ : MS}, j + d = m → m < 2000 → d < fuel → Iv B n mi w t (σ 0) → X6_goesOn_b2 fuel σ (nI m) (nI j) = some (su (sr σ 0 (itn d (σ 0))) 22 6 (cms d (σ 0) (σ 22 6))) := by
  intro d
  induction d with
  | zero =>
    intro j fuel m B mi w t σ hj hm hf hi
    obtain ⟨f, rfl⟩ : ∃ f, fuel = f + 1 := ⟨fuel - 1, by omega⟩
    rw [X6_goesOn_b2, le_nI (by omega) (by omega), if_pos (by omega)]
    show some σ = some (su (sr σ 0 (σ 0)) 22 6 (σ 22 6))
    rw [sr_self, su_self]
  | succ d ih =>
    intro j fuel m B mi w t σ hj hm hf hi
    obtain ⟨f, rfl⟩ : ∃ f, fuel = f + 1 := ⟨fuel - 1, by omega⟩
    obtain ⟨w1, t1, hi1⟩ := iv_nxt hi
    rw [X6_goesOn_b2, le_nI (by omega) (by omega), if_neg (by omega), min6 hi, Option.bind_some, nI_1]
    have e0 : su (sr σ 0 (nxt (σ 0))) 22 6 (σ 22 6 + cme (σ 0)) 0 = nxt (σ 0) := rfl
    have e6 : su (sr σ 0 (nxt (σ 0))) 22 6 (σ 22 6 + cme (σ 0)) 22 6 = σ 22 6 + cme (σ 0) := rfl
    rw [ih (j + 1) f m (by omega) hm (by omega) (B := mi + 1) (mi := mi + 1) (w := w1) (t := t1) (by rw [e0]; exact hi1), e0, e6]
    rw [sr_su, sr_sr]
    congr 1
    have : ∀ (σ' : MS) (x y : Int32), su (su σ' 22 6 x) 22 6 y = su σ' 22 6 y := by
      intro σ' x y
      show va_up (va_up σ' 22 _) 22 (upd (va_up σ' 22 (upd (σ' 22) 6 x) 22) 6 y) = va_up σ' 22 _
      rw [bx_uu, va_up_self, upd_upd]
    exact this _ _ _
