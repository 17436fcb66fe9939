/-! PURE 5: traits, distances, moves, strokes; of, change, apart, reply, rest -/
theorem place6 (p w : Nat) : X6_place (nI p) (nI w) = some (nI (7 + 8 * p + w)) := by
  unfold X6_place
  rw [show (7 : Int32) = nI 7 from rfl, show (8 : Int32) = nI 8 from rfl, pk_mul, nI_add, nI_add]
theorem its6 {σ : MS} {p w : Nat} (hp : p < 8) (hw : w < 8) : X6_its σ (nI p) (nI w) = some (σ 0 (7 + 8 * p + w)) := by
  unfold X6_its
  rw [place6, Option.bind_some, ai_n (by omega) (by decide), nI_clamp (by omega)]
theorem viewOn4 {τ : MS} {p j : Nat} (hp : p < 8) (hj : j < 6) : X4_viewOn τ (nI p) (nI j) = some (τ 2 (p * 6 + j)) := by
  unfold X4_viewOn
  rw [show (6 : Int32) = nI 6 from rfl, pk_mul, nI_add, ai_n (by omega) (by decide), nI_clamp (by omega)]
theorem setView4 {τ : MS} {p j : Nat} (hp : p < 8) (hj : j < 6) (x : Int32) : X4_setView τ (nI p) (nI j) x = some (su τ 2 (p * 6 + j) x) := by
  unfold X4_setView
  rw [show (6 : Int32) = nI 6 from rfl, pk_mul, nI_add, ai_n (by omega) (by decide), nI_clamp (by omega)]
theorem nI_eq0 {w : Nat} (hw : w < 2 ^ 31) : nI w = 0 ↔ w = 0 := by
  rw [← nI_0]; exact nI_eq hw (by decide)
theorem nI_eq1 {w : Nat} (hw : w < 2 ^ 31) : nI w = 1 ↔ w = 1 := nI_eq (b := 1) hw (by decide)
theorem trait4 {τ : MS} {v : Nat → Int32} (h : Sq τ v) {p w : Nat} (hp : p < 8) (hw : w < 8) : X4_trait τ (nI p) (nI w) = some (v (7 + 8 * p + w)) := by
  unfold X4_trait
  by_cases h0 : w = 0
  · subst h0
    rw [if_pos ((nI_eq0 (by decide)).mpr rfl), ai_n hp (by decide), nI_clamp (by omega), ← (h.2.1 p hp).1]; rfl
  · rw [if_neg (fun e => h0 ((nI_eq0 (by omega)).mp e))]
    by_cases h1 : w = 1
    · subst h1
      rw [if_pos ((nI_eq1 (by decide)).mpr rfl), ai_n hp (by decide), nI_clamp (by omega), ← (h.2.1 p hp).2.1, show 7 + 8 * p + 1 = 8 + 8 * p by omega]
    · rw [if_neg (fun e => h1 ((nI_eq1 (by omega)).mp e)), show (2 : Int32) = nI 2 from rfl, pk_sub (by omega), viewOn4 hp (by omega), Option.bind_some, ← (h.2.1 p hp).2.2 (w - 2) (by omega), show 9 + 8 * p + (w - 2) = 7 + 8 * p + w by omega]
theorem setTrait4 {τ : MS} {v : Nat → Int32} (h : Sq τ v) {p w : Nat} (hp : p < 8) (hw : w < 8) (x : Int32) : ∃ τ', X4_setTrait τ (nI p) (nI w) x = some τ' ∧ Sq τ' (upd v (7 + 8 * p + w) x) := by
  unfold X4_setTrait
  by_cases h0 : w = 0
  · subst h0
    rw [if_pos ((nI_eq0 (by decide)).mpr rfl), ai_n hp (by decide), nI_clamp (by omega)]
    exact ⟨_, rfl, h.uk x hp⟩
  · rw [if_neg (fun e => h0 ((nI_eq0 (by omega)).mp e))]
    by_cases h1 : w = 1
    · subst h1
      rw [if_pos ((nI_eq1 (by decide)).mpr rfl), ai_n hp (by decide), nI_clamp (by omega), show 7 + 8 * p + 1 = 8 + 8 * p by omega]
      exact ⟨_, rfl, h.uo x hp⟩
    · rw [if_neg (fun e => h1 ((nI_eq1 (by omega)).mp e)), show (2 : Int32) = nI 2 from rfl, pk_sub (by omega), setView4 hp (by omega), Option.bind_some, show 7 + 8 * p + w = 9 + 8 * p + (w - 2) by omega]
      exact ⟨_, rfl, h.uv x hp (by omega)⟩
/-- how much two numbers are apart -/
def ab (x y : Int32) : Int32 := if (0 : Int32) ≤ x - y then x - y else 0 - (x - y)
theorem neg_0 (x : Int32) : -x = 0 - x := by
  apply Int32.toBitVec_inj.mp
  simp
theorem dist4 {τ : MS} {v : Nat → Int32} (h : Sq τ v) {a b j : Nat} (ha : a < 8) (hb : b < 8) (hj : j < 6) : X4_distance τ (nI a) (nI b) (nI j) = some (ab (v (9 + 8 * a + j)) (v (9 + 8 * b + j))) := by
  unfold X4_distance
  rw [viewOn4 ha hj, viewOn4 hb hj, Option.bind_some, Option.bind_some, ← (h.2.1 a ha).2.2 j hj, ← (h.2.1 b hb).2.2 j hj]; rfl
theorem apartOn6 {σ : MS} {a b j : Nat} (ha : a < 8) (hb : b < 8) (hj : j < 6) : X6_apartOn σ (nI a) (nI b) (nI j) = some (ab (σ 0 (9 + 8 * a + j)) (σ 0 (9 + 8 * b + j))) := by
  unfold X6_apartOn ab
  rw [show (2 : Int32) = nI 2 from rfl, nI_add, its6 ha (by omega), its6 hb (by omega), Option.bind_some, Option.bind_some, show 7 + 8 * a + (2 + j) = 9 + 8 * a + j by omega, show 7 + 8 * b + (2 + j) = 9 + 8 * b + j by omega, neg_0]
  split <;> rfl
def mvv (kd g mn : Int32) : Int32 := (X0_moves kd g mn).getD 0
theorem mv_s (kd g mn : Int32) : X0_moves kd g mn = some (mvv kd g mn) := by
  have h : (X0_moves kd g mn).isSome = true := by
    unfold X0_moves X0_moves_b11
    repeat' split
    all_goals rfl
  unfold mvv
  cases hx : X0_moves kd g mn with
  | none => rw [hx] at h; cases h
  | some r => rfl
theorem moves6 {σ : MS} {p : Nat} (hp : p < 8) (g : Int32) : X6_moves σ (nI p) g = some (mvv (σ 0 (7 + 8 * p)) g (σ 0 0)) := by
  rw [← mv_s]
  unfold X6_moves X6_moves_b16 X0_moves X0_moves_b11
  rw [show (0 : Int32) = nI 0 from rfl, its6 hp (by decide)]
  rfl
def stv (kd vo g mn : Int32) : Int32 := (X0_strokes kd vo g mn).getD 0
theorem st_s (kd vo g mn : Int32) : X0_strokes kd vo g mn = some (stv kd vo g mn) := by
  have h : (X0_strokes kd vo g mn).isSome = true := by
    unfold X0_strokes X0_strokes_b18
    repeat' split
    all_goals rfl
  unfold stv
  cases hx : X0_strokes kd vo g mn with
  | none => rw [hx] at h; cases h
  | some r => rfl
theorem strokes6 {σ : MS} {p : Nat} (hp : p < 8) (g : Int32) : X6_strokes σ (nI p) g = some (stv (σ 0 (7 + 8 * p)) (σ 0 (8 + 8 * p)) g (σ 0 0)) := by
  rw [← st_s]
  have e1 : X6_its σ (nI p) 1 = some (σ 0 (8 + 8 * p)) := by
    rw [show (1 : Int32) = nI 1 from rfl, its6 hp (by decide), show 7 + 8 * p + 1 = 8 + 8 * p by omega]
  have e0 : X6_its σ (nI p) 0 = some (σ 0 (7 + 8 * p)) := by
    rw [show (0 : Int32) = nI 0 from rfl, its6 hp (by decide)]; rfl
  unfold X6_strokes X0_strokes
  rw [e1, Option.bind_some]
  generalize hx : σ 0 (8 + 8 * p) + g = x
  have hb : ∀ y, X6_strokes_b23 σ (nI p) g (σ 0 (8 + 8 * p)) y = X0_strokes_b18 (σ 0 (7 + 8 * p)) (σ 0 (8 + 8 * p)) (σ 0 0) x y := by
    intro y
    unfold X6_strokes_b23 X0_strokes_b18
    rw [e0, hx]
    rfl
  rw [hb, hb]
  have i1 : (1 : Int32).toInt = 1 := by decide
  have i0 : (0 : Int32).toInt = 0 := by decide
  by_cases h0 : x ≤ 0
  · have g0 := Int32.le_iff_toInt_le.mp h0
    rw [if_pos (Int32.le_iff_toInt_le.mpr (by omega)), if_pos h0]
  · have g0 : ¬ x.toInt ≤ 0 := fun h => h0 (Int32.le_iff_toInt_le.mpr (by omega))
    rw [if_neg h0]
    by_cases h1 : x ≤ 1
    · have g1 := Int32.le_iff_toInt_le.mp h1
      have e : x = 1 := Int32.toInt_inj.mp (by omega)
      rw [if_pos h1, e]
      rfl
    · rw [if_neg h1]
theorem Rel.asks {k : Nat} {X : XS} {σ : MS} (h : Rel k X σ) (r : Int32) {A : Option (Int32 × XS)} {B : Option (Int32 × MS)} (ha : A = some (r, X)) (hb : B = some (r, σ)) : ∃ (r : Int32) (X' : XS) (σ' : MS), A = some (r, X') ∧ B = some (r, σ') ∧ Rel (k + 1) X' σ' := ⟨r, X, σ, ha, hb, h.up⟩
theorem st_of : St_of Rel := by
  intro k X σ p1 p2 hk h
  obtain ⟨hs, n, mi, w, t, hi⟩ := h.1
  have hn := hi.1.1
  have h1 : σ 0 1 = nI n := hi.2.1.1
  have h2 : X 0 11 4 = nI n := by rw [← hs.1.2.1]; exact h1
  unfold X5_of X6_of X5_of_b21 X6_of_b20
  have e8 : inr (0 : Int32).toInt (8 : Int32).toInt p2 = inr 0 8 p2 := rfl
  have f8 : inr (0 : Int64).toInt (8 : Int64).toInt p2 = inr 0 8 p2 := rfl
  simp only [out_eq, in32, e8, f8, Option.bind_some, if_bi, isThere4 h2 hn, isPerson6 h1 hn, bind_et]
  cases hp : isP n p1
  · exact bf_0 h
  · obtain ⟨p, hpn, rfl⟩ := isP_ex (by omega) hp
    cases hb : inr 0 8 p2
    · exact bf_0 h
    · obtain ⟨j, hj, rfl⟩ := inr_nat (n := 9) (by decide) hb
      simp only [Bool.not_true, if_true]
      by_cases h8 : j = 8
      · subst h8
        have c1 : nI 8 = (8 : Int32) := rfl
        have c2 : (8 : Int32) ≤ nI 8 := by decide
        simp only [if_pos c1, if_pos c2]
        unfold X4_isAtHandle
        rw [← hs.1.2.2.2.2.2.1, ← hs.1.2.2.2.2.2.2]
        by_cases g1 : nI p = σ 0 5
        · simp only [if_pos g1, Option.bind_some]
          exact h.asks 1 rfl rfl
        · simp only [if_neg g1]
          by_cases g2 : nI p = σ 0 6
          · simp only [if_pos g2, Option.bind_some]
            exact h.asks 1 rfl rfl
          · simp only [if_neg g2, Option.bind_some]
            exact h.asks 0 rfl rfl
      · have c1 : ¬ nI j = (8 : Int32) := fun e => h8 ((nI_eq (b := 8) (by omega) (by decide)).mp e)
        have c2 : ¬ (8 : Int32) ≤ nI j := fun e => by have := (nI_leI (a := 8) (by decide) (by omega)).mp e; omega
        simp only [if_neg c1, if_neg c2, Bool.false_eq_true, if_false]
        rw [trait4 hs (by omega) (by omega), its6 (by omega) (by omega)]
        exact h.asks _ rfl rfl
theorem st_apart : St_apart Rel := by
  intro k X σ p1 p2 p3 hk h
  obtain ⟨hs, n, mi, w, t, hi⟩ := h.1
  have hn := hi.1.1
  have h1 : σ 0 1 = nI n := hi.2.1.1
  have h2 : X 0 11 4 = nI n := by rw [← hs.1.2.1]; exact h1
  unfold X5_apart X6_apart X5_apart_b29 X6_apart_b33
  simp only [noSub5, isSub6, Option.bind_some, if_bi, isThere4 h2 hn, isPerson6 h1 hn, bind_et]
  cases hp : isP n p1
  · exact bf_0 h
  · obtain ⟨a, ha, rfl⟩ := isP_ex (by omega) hp
    cases hp2 : isP n p2
    · exact bf_0 h
    · obtain ⟨b, hb, rfl⟩ := isP_ex (by omega) hp2
      cases hj : inr 0 5 p3
      · exact bf_0 h
      · obtain ⟨j, hj6, rfl⟩ := inr_nat (n := 6) (by decide) hj
        rw [dist4 hs (by omega) (by omega) hj6, apartOn6 (by omega) (by omega) hj6]
        exact h.asks _ rfl rfl
theorem st_reply : St_reply Rel := by
  intro k X σ p1 p2 p3 hk h
  obtain ⟨hs, n, mi, w, t, hi⟩ := h.1
  have hn := hi.1.1
  have h1 : σ 0 1 = nI n := hi.2.1.1
  have h2 : X 0 11 4 = nI n := by rw [← hs.1.2.1]; exact h1
  unfold X5_reply X6_reply X5_reply_b30 X6_reply_b30
  have e8 : inr (1 : Int32).toInt (18 : Int32).toInt p2 = inr 1 18 p2 := rfl
  have f8 : inr (1 : Int64).toInt (18 : Int64).toInt p2 = inr 1 18 p2 := rfl
  have e1 : inr (0 : Int32).toInt (1 : Int32).toInt p3 = inr 0 1 p3 := rfl
  have f1 : inr (0 : Int64).toInt (1 : Int64).toInt p3 = inr 0 1 p3 := rfl
  simp only [out_eq, in32, e8, f8, e1, f1, Option.bind_some, if_bi, isThere4 h2 hn, isPerson6 h1 hn, bind_et]
  cases hp : isP n p1
  · exact bf_0 h
  · obtain ⟨a, ha, rfl⟩ := isP_ex (by omega) hp
    cases inr 1 18 p2
    · exact bf_0 h
    · cases inr 0 1 p3
      · exact bf_0 h
      · simp only [Bool.not_true, if_true]
        have hk0 : X 0 0 a = σ 0 (7 + 8 * a) := ((hs.2.1 a (by omega)).1).symm
        have hk1 : X 0 1 a = σ 0 (8 + 8 * a) := ((hs.2.1 a (by omega)).2.1).symm
        have hk2 : X 0 11 5 = σ 0 0 := hs.1.1.symm
        by_cases hw : p3 = 0
        · simp only [if_pos hw]
          unfold X4_movesOf
          rw [ai_n (by omega) (by decide), nI_clamp (by omega), mv_s, hk0, hk2, moves6 (by omega)]
          exact h.asks _ rfl rfl
        · simp only [if_neg hw]
          unfold X4_strokesOf
          rw [ai_n (by omega) (by decide), ai_n (by omega) (by decide), nI_clamp (by omega), st_s, hk0, hk1, hk2, strokes6 (by omega)]
          exact h.asks _ rfl rfl
