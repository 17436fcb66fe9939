/-! PURE 19: feed, as, quarrels, odds -/
def FMt (σ σ' : MS) : Prop := σ' 0 = σ 0 ∧ σ' 1 = σ 1 ∧ σ' 4 = σ 4 ∧ σ' 18 = σ 18 ∧ σ' 19 = σ 19 ∧ σ' 20 = σ 20 ∧ σ' 22 5 = σ 22 5
theorem Rel.setTp {k : Nat} {X : XS} {σ σ' : MS} (h : Rel k X σ) (ρ : MS) (hρ : R_tape ρ (σ' 12) (σ' 22 13)) (hM : FMt σ σ') : Rel (k + 1) (va_up X 3 ρ) σ' := by
  obtain ⟨m0, m1, m4, m18, m19, m20, m5⟩ := hM
  obtain ⟨h1, h2, h3, h4, h5⟩ := h.up
  have e0 : va_up X 3 ρ 0 = X 0 := va_up_ne _ _ (by decide)
  have e2 : va_up X 3 ρ 2 = X 2 := va_up_ne _ _ (by decide)
  have e3 : va_up X 3 ρ 3 = ρ := va_up_self _ _ _
  have e9 : va_up X 3 ρ 9 = X 9 := va_up_ne _ _ (by decide)
  unfold Rel
  rw [m0, m1, m4, m18, m19, m20, m5, e0, e2, e3, e9]
  refine ⟨h1, h2, h3, hρ, fun s hs => ?_⟩
  rw [va_up_ne _ _ (show 5 + s ≠ 3 by omega)]
  exact h5 s hs
theorem byte_a (x s : Int32) (k : Nat) (hk : k = 0 ∨ k = 8 ∨ k = 16 ∨ k = 24) (hs : (s.toBitVec.smod 32).toNat = k) : (x >>> s) &&& (255 : Int32) = nI (x.toBitVec.toNat / 2 ^ k % 256) := by
  rw [pk_and (x >>> s) 8 (by decide)]
  congr 1
  have h1 := pk_shr x s k hs
  have hN := x.toBitVec.isLt
  have hM := (x >>> s).toBitVec.isLt
  have hv : x.toInt = if 2 * x.toBitVec.toNat < 2 ^ 32 then (x.toBitVec.toNat : Int) else (x.toBitVec.toNat : Int) - 2 ^ 32 := by
    show x.toBitVec.toInt = _
    rw [BitVec.toInt_eq_toNat_cond]
    rfl
  have hw : (x >>> s).toInt = if 2 * (x >>> s).toBitVec.toNat < 2 ^ 32 then ((x >>> s).toBitVec.toNat : Int) else ((x >>> s).toBitVec.toNat : Int) - 2 ^ 32 := by
    show (x >>> s).toBitVec.toInt = _
    rw [BitVec.toInt_eq_toNat_cond]
    rfl
  rw [hv, hw, Int.shiftRight_eq_div_pow] at h1
  generalize (x >>> s).toBitVec.toNat = M at *
  generalize x.toBitVec.toNat = N at *
  rcases hk with rfl | rfl | rfl | rfl
  · split at h1 <;> split at h1 <;> omega
  · split at h1 <;> split at h1 <;> omega
  · split at h1 <;> split at h1 <;> omega
  · split at h1 <;> split at h1 <;> omega
theorem byte_u (x s : Int32) (k : Nat) (hs : ((s.toUInt32 &&& Int32.toUInt32 31).toBitVec % 32).toNat = k) : (x.toUInt32 >>> (s.toUInt32 &&& Int32.toUInt32 31)).toInt32 &&& (255 : Int32) = nI (x.toBitVec.toNat / 2 ^ k % 256) := by
  rw [pk_and _ 8 (by decide), pk_ushr x s k hs]
theorem bytes_eq (x : Int32) : ∀ j, j < 4 → ∃ b : Nat, b < 256 ∧ ((x.toUInt32 >>> (((8 : Int32) * nI j).toUInt32 &&& Int32.toUInt32 31)).toInt32 &&& (255 : Int32)) = nI b ∧ ((x >>> (((8 : Int32) * nI j) &&& 31)) &&& (255 : Int32)) = nI b := by
  intro j hj
  have ha : ∀ j, j < 4 → ((((8 : Int32) * nI j) &&& 31).toBitVec.smod 32).toNat = 8 * j := by decide +kernel
  have hu : ∀ j, j < 4 → (((((8 : Int32) * nI j).toUInt32 &&& Int32.toUInt32 31).toBitVec) % 32).toNat = 8 * j := by decide +kernel
  exact ⟨_, Nat.mod_lt _ (by decide), byte_u x _ _ (hu j hj), byte_a x _ _ (by omega) (ha j hj)⟩
theorem feedL {X : XS} {σ : MS} (x : Int32) : ∀ (m tl f5 f6 : Nat) (ρ σ' : MS), tl + m ≤ 120 → m ≤ 4 → m < f5 → m < f6 → ρ 6 1 = nI tl → σ' 22 13 = nI tl → (∀ j, j < tl → ρ 0 j = σ' 12 j ∧ ∃ b : Nat, b < 256 ∧ σ' 12 j = nI b) → FMt σ σ' → ∃ r ρ' σ'', X5_feed_b41 f5 (va_up X 3 ρ) x (nI m - 1) = some (r, va_up X 3 ρ') ∧ X6_feed_b41 f6 σ' x (nI m - 1) = some (r, σ'') ∧ R_tape ρ' (σ'' 12) (σ'' 22 13) ∧ FMt σ σ'' := by
  intro m
  induction m with
  | zero =>
    intro tl f5 f6 ρ σ' h1 h2 h5 h6 hr hs ht hM
    obtain ⟨g5, rfl⟩ : ∃ f, f5 = f + 1 := ⟨f5 - 1, by omega⟩
    obtain ⟨g6, rfl⟩ : ∃ f, f6 = f + 1 := ⟨f6 - 1, by omega⟩
    have c : nI 0 - 1 < (0 : Int32) := by decide
    refine ⟨nI tl, ρ, σ', ?_, ?_, ⟨tl, by omega, hr, hs, ht⟩, hM⟩
    · rw [X5_feed_b41, if_pos c, va_up_self, hr]
    · rw [X6_feed_b41, if_pos c, hs]
  | succ m ih =>
    intro tl f5 f6 ρ σ' h1 h2 h5 h6 hr hs ht hM
    obtain ⟨g5, rfl⟩ : ∃ f, f5 = f + 1 := ⟨f5 - 1, by omega⟩
    obtain ⟨g6, rfl⟩ : ∃ f, f6 = f + 1 := ⟨f6 - 1, by omega⟩
    obtain ⟨b, hb, y1, y2⟩ := bytes_eq x m (by omega)
    have ha : X2_append ρ (nI b) = some (su (su ρ 0 tl (nI b)) 6 1 (nI (tl + 1))) := by
      unfold X2_append
      have c : ¬ (120 : Int32) ≤ nI tl := fun e => by have := (nI_leI (a := 120) (by decide) (by omega)).mp e; omega
      have e6 : su ρ 0 tl (nI b) 6 1 = nI tl := hr
      rw [hr, if_neg c, ai_n (by omega) (by decide), nI_clamp (by omega), e6, nI_1]
    have e13 : su σ' 12 tl (nI b) 22 13 = nI tl := hs
    obtain ⟨r, ρ', σ'', i1, i2, i3, i4⟩ := ih (tl + 1) g5 g6 (su (su ρ 0 tl (nI b)) 6 1 (nI (tl + 1))) (su (su σ' 12 tl (nI b)) 22 13 (nI (tl + 1))) (by omega) (by omega) (by omega) (by omega) (by rw [su_at, if_pos ⟨rfl, rfl⟩]) (by rw [su_at, if_pos ⟨rfl, rfl⟩]) (fun j hj => by
      have q1 : su (su ρ 0 tl (nI b)) 6 1 (nI (tl + 1)) 0 j = if j = tl then nI b else ρ 0 j := by
        rw [su_at, if_neg (by omega), su_at]
        by_cases e : j = tl
        · rw [if_pos ⟨rfl, e⟩, if_pos e]
        · rw [if_neg (fun z => e z.2), if_neg e]
      have q2 : su (su σ' 12 tl (nI b)) 22 13 (nI (tl + 1)) 12 j = if j = tl then nI b else σ' 12 j := by
        rw [su_at, if_neg (by omega), su_at]
        by_cases e : j = tl
        · rw [if_pos ⟨rfl, e⟩, if_pos e]
        · rw [if_neg (fun z => e z.2), if_neg e]
      rw [q1, q2]
      by_cases e : j = tl
      · rw [if_pos e, if_pos e]; exact ⟨rfl, b, hb, rfl⟩
      · rw [if_neg e, if_neg e]; exact ht j (by omega)) ⟨hM.1, hM.2.1, hM.2.2.1, hM.2.2.2.1, hM.2.2.2.2.1, hM.2.2.2.2.2.1, hM.2.2.2.2.2.2⟩
    refine ⟨r, ρ', σ'', ?_, ?_, i3, i4⟩
    · rw [X5_feed_b41, nI_pred, if_neg (nI_pos (by omega)), va_up_self, y1, ha, Option.bind_some, bx_uu, ← Int32.sub_eq_add_neg]
      exact i1
    · rw [X6_feed_b41, nI_pred, if_neg (nI_pos (by omega)), hs, ai_n (by omega) (by decide), nI_clamp (by omega), y2, e13, nI_1, ← Int32.sub_eq_add_neg]
      exact i2
theorem upd3_id (X : XS) : va_up X 3 (X 3) = X := by
  funext c
  by_cases hc : c = 3
  · subst hc; exact va_up_self _ _ _
  · exact va_up_ne _ _ hc
theorem st_feed : St_feed Rel := by
  intro k X σ p1 p2 hk h
  obtain ⟨tl, t1, t2, t3, t4⟩ := h.2.2.2.1
  unfold X5_feed X6_feed
  have e8 : inr (1 : Int32).toInt (4 : Int32).toInt p2 = inr 1 4 p2 := rfl
  have f8 : inr (1 : Int64).toInt (4 : Int64).toInt p2 = inr 1 4 p2 := rfl
  simp only [out_eq, in32, e8, f8, Option.bind_some, if_bi, bind_et]
  cases hb : inr 1 4 p2
  · exact bf_0 h
  · simp only [Bool.not_true, if_true, Bool.false_eq_true, if_false]
    have hr := of_decide_eq_true hb
    obtain ⟨m, hm, rfl⟩ := inr_nat (n := 5) (x := p2) (by decide) (decide_eq_true (by omega))
    rw [t2, t3, nI_add, show (120 : Int32) = nI 120 from rfl, le_nI (by omega) (by omega), le_nI (by omega) (by omega)]
    by_cases c : tl + m ≤ 120
    · rw [if_pos c, if_pos c]
      obtain ⟨r, ρ', σ'', i1, i2, i3, i4⟩ := feedL (X := X) (σ := σ) p1 m tl FU FU (X 3) σ c (by omega) (FU_lt (by omega)) (FU_lt (by omega)) t2 t3 t4 ⟨rfl, rfl, rfl, rfl, rfl, rfl, rfl⟩
      rw [upd3_id] at i1
      exact ⟨r, _, σ'', i1, i2, h.setTp ρ' i3 i4⟩
    · rw [if_neg c, if_neg c]; exact bf_1 h
def unR : Nat → Int32 → Int32 → Option Bool
  | 0, _, _ => none
  | n + 1, t, k => if k = t then some true else if k = 0 then some false else (X6_above k).bind fun q => unR n t q
theorem as_un (σ : MS) (t w : Int32) : ∀ (fuel : Nat) (k : Int32), X6_as_b51 fuel σ t w k = (unR fuel t k).bind fun b => if b then some (w, σ) else X6_finds σ (-1000003) := by
  intro fuel
  induction fuel with
  | zero => intro k; rfl
  | succ f ih =>
    intro k
    rw [X6_as_b51, unR]
    unfold X6_as_b72
    rw [bind_et]
    by_cases h1 : k = t
    · rw [if_pos h1, if_pos h1, if_pos h1]; rfl
    · rw [if_neg h1, if_neg h1, if_neg h1]
      by_cases h2 : k = 0
      · rw [if_pos h2, if_pos h2]; rfl
      · rw [if_neg h2, if_neg h2, Option.bind_assoc]
        congr 1
        funext q
        exact ih q
def unB (kd t : Nat) : Bool := ([[0], [1, 0], [2, 0], [3, 2, 0], [4, 3, 2, 0], [5, 0], [6, 1, 0]] : List (List Nat)).getD kd [] |>.contains t
theorem un_dec : ∀ kd, kd < 7 → ∀ t, t < 7 → unR FU (nI t) (nI kd) = some (unB kd t) ∧ X0_isUnder (nI kd) (nI t) = some (bi (unB kd t)) := by decide +kernel
theorem st_as : St_as Rel := by
  intro k X σ p1 p2 hk h
  obtain ⟨hs, n, mi, w, t, hi⟩ := h.1
  have hn := hi.1.1
  have h1 : σ 0 1 = nI n := hi.2.1.1
  have h2 : X 0 11 4 = nI n := by rw [← hs.1.2.1]; exact h1
  unfold X5_as X6_as X5_as_b20 X6_as_b14
  have e9 : inr (0 : Int32).toInt (9 : Int32).toInt p1 = inr 0 9 p1 := rfl
  have e6 : inr (0 : Int32).toInt (6 : Int32).toInt p2 = inr 0 6 p2 := rfl
  simp only [out_eq, e9, e6, isSpot6, isKind6, Option.bind_some, if_bi, bind_et]
  cases hb : inr 0 9 p1
  · exact bf_0 h
  · obtain ⟨q, hq, rfl⟩ := inr_nat (n := 10) (by decide) hb
    cases hb2 : inr 0 6 p2
    · exact bf_0 h
    · obtain ⟨tp, htp, rfl⟩ := inr_nat (n := 7) (by decide) hb2
      simp only [Bool.not_true, if_true, Bool.false_eq_true, if_false]
      rw [ai_n hq (by decide), nI_clamp (by omega), show (71 : Int32) = nI 71 from rfl, nI_add, ai_n (by omega) (by decide), nI_clamp (by omega), ← hs.2.2 q hq]
      rcases hi.2.2.2.2 q hq with e | ⟨p, hp, e⟩
      · rw [e, isThere4 h2 hn, isP_m1, Option.bind_some, if_neg (show ¬ (0 : Int32) ≤ -1 by decide)]
        exact bf_5 h
      · have ep : isP n (nI p) = true := by rw [isP_n (by omega)]; exact decide_eq_true hp
        rw [e, isThere4 h2 hn, ep, Option.bind_some, if_pos (nI_pos' (by omega))]
        have et : X4_trait (X 0) (nI p) 0 = some (σ 0 (7 + 8 * p + 0)) := trait4 hs (w := 0) (by omega) (by decide)
        have ei : X6_its σ (nI p) 0 = some (σ 0 (7 + 8 * p + 0)) := its6 (w := 0) (by omega) (by decide)
        obtain ⟨⟨kd, hk7, ek⟩, -⟩ := hi.2.2.2.1 p (by omega)
        obtain ⟨u1, u2⟩ := un_dec kd hk7 tp htp
        have ek' : σ 0 (7 + 8 * p + 0) = nI kd := ek
        rw [et, ei, Option.bind_some, Option.bind_some, ek', u2, as_un, u1, Option.bind_some, Option.bind_some, if_bi]
        simp only [if_true, if_bi]
        clear u1 u2
        generalize unB kd tp = y
        cases y
        · simp only [Bool.false_eq_true, if_false]; exact bf_2 h
        · simp only [if_true]; exact h.asks _ rfl rfl
theorem fm0_sr {σ σ' : MS} (h : FM0 σ σ') (f : Nat → Int32) (c : Int32) : FM0 σ (su (sr σ' 0 f) 22 6 c) := ⟨h.1, h.2.1, h.2.2.1, h.2.2.2.1, h.2.2.2.2.1, h.2.2.2.2.2.1, h.2.2.2.2.2.2.1, h.2.2.2.2.2.2.2⟩
def dz (z : Int32) : Int32 := z * (1103515245 : Int32) + (12345 : Int32)
def dv (z : Int32) : Int32 := ((dz z).toUInt32 >>> ((8 : Int32).toUInt32 &&& Int32.toUInt32 31)).toInt32
def d8 (z : Int32) : Int32 := dv z - dv z / (8 : Int32) * (8 : Int32)
theorem draw4 (τ : MS) : X4_draw τ = some (dv (τ 11 10), su τ 11 10 (dz (τ 11 10))) := rfl
theorem draw6 (σ : MS) : X6_draw σ = some (dv (σ 0 4), su σ 0 4 (dz (σ 0 4))) := rfl
theorem quL {n m : Nat} {X : XS} {σ : MS} : ∀ (e j f5 f6 : Nat) {B mi w t : Nat} (τ σ' : MS), j + e = m → m < 2000 → e < f5 → e < f6 → mi + e ≤ 99999 → Sq τ (σ' 0) → Iv B n mi w t (σ' 0) → FM0 σ σ' → ∃ r τ' σ'' B' w' t', X5_quarrels_b40 f5 (va_up X 0 τ) (nI m) (nI j) = some (r, va_up X 0 τ') ∧ X6_quarrels_b41 f6 σ' (nI m) (nI j) = some (r, σ'') ∧ Sq τ' (σ'' 0) ∧ Iv B' n (mi + e) w' t' (σ'' 0) ∧ FM0 σ σ'' := by
  intro e
  induction e with
  | zero =>
    intro j f5 f6 B mi w t τ σ' hj hm h5 h6 hmi hs hi hM
    obtain ⟨g5, rfl⟩ : ∃ f, f5 = f + 1 := ⟨f5 - 1, by omega⟩
    obtain ⟨g6, rfl⟩ : ∃ f, f6 = f + 1 := ⟨f6 - 1, by omega⟩
    refine ⟨σ' 0 2, τ, σ', B, w, t, ?_, ?_, hs, hi, hM⟩
    · rw [X5_quarrels_b40, le_nI (by omega) (by omega), if_pos (by omega), va_up_self, ← hs.1.2.2.1]
    · rw [X6_quarrels_b41, le_nI (by omega) (by omega), if_pos (by omega)]
  | succ e ih =>
    intro j f5 f6 B mi w t τ σ' hj hm h5 h6 hmi hs hi hM
    obtain ⟨g5, rfl⟩ : ∃ f, f5 = f + 1 := ⟨f5 - 1, by omega⟩
    obtain ⟨g6, rfl⟩ : ∃ f, f6 = f + 1 := ⟨f6 - 1, by omega⟩
    have hz : τ 11 10 = σ' 0 4 := hs.1.2.2.2.2.1.symm
    have go : ∀ (τ1 σ1 : MS), Sq τ1 (σ1 0) → Iv B n mi w t (σ1 0) → FM0 σ σ1 → ∃ r τ' σ'' B' w' t', X5_quarrels_b88 (X5_quarrels_b40 g5) (va_up X 0 τ1) (nI m) (nI j) = some (r, va_up X 0 τ') ∧ X6_quarrels_b89 (X6_quarrels_b41 g6) σ1 (nI m) (nI j) = some (r, σ'') ∧ Sq τ' (σ'' 0) ∧ Iv B' n (mi + (e + 1)) w' t' (σ'' 0) ∧ FM0 σ σ'' := by
      intro τ1 σ1 hs1 hi1 hM1
      obtain ⟨τ2, e1, hs2⟩ := pass4 hs1 hi1 (by omega)
      obtain ⟨w1, t1, hi2⟩ := iv_nxt hi1
      obtain ⟨r, τ', σ'', B', w', t', i1, i2, i3, i4, i5⟩ := ih (j + 1) g5 g6 τ2 (su (sr σ1 0 (nxt (σ1 0))) 22 6 (σ1 22 6 + cme (σ1 0))) (by omega) hm (by omega) (by omega) (mi := mi + 1) (by omega) hs2 hi2 (fm0_sr hM1 _ _)
      rw [show mi + 1 + e = mi + (e + 1) by omega] at i4
      refine ⟨r, τ', σ'', B', w', t', ?_, ?_, i3, i4, i5⟩
      · unfold X5_quarrels_b88
        rw [va_up_self, e1, Option.bind_some, bx_uu, nI_1]; exact i1
      · unfold X6_quarrels_b89
        rw [min6 hi1, Option.bind_some, nI_1]; exact i2
    have hs1 := hs.u4 (dz (σ' 0 4))
    have hi1 : Iv B n mi w t (upd (σ' 0) 4 (dz (σ' 0 4))) := hi.cg (fun i _ h4 => upd_n h4)
    have hs2 := hs1.u4 (dz (dz (σ' 0 4)))
    have hi2 : Iv B n mi w t (upd (upd (σ' 0) 4 (dz (σ' 0 4))) 4 (dz (dz (σ' 0 4)))) := hi1.cg (fun i _ h4 => upd_n h4)
    have hn := hi.1.1
    have z1 : su τ 11 10 (dz (σ' 0 4)) 11 10 = dz (σ' 0 4) := by rw [su_at, if_pos ⟨rfl, rfl⟩]
    have z2 : su σ' 0 4 (dz (σ' 0 4)) 0 4 = dz (σ' 0 4) := by rw [su_at, if_pos ⟨rfl, rfl⟩]
    have p6 : (su (su σ' 0 4 (dz (σ' 0 4))) 0 4 (dz (dz (σ' 0 4)))) 0 1 = nI n := hi.2.1.1
    have p4 : va_up X 0 (su (su τ 11 10 (dz (σ' 0 4))) 11 10 (dz (dz (σ' 0 4)))) 0 11 4 = nI n := by
      rw [va_up_self]
      show τ 11 4 = nI n
      rw [← hs.1.2.1]; exact hi.2.1.1
    rw [X5_quarrels_b40, X6_quarrels_b41, le_nI (by omega) (by omega), le_nI (by omega) (by omega), if_neg (show ¬ m ≤ j by omega), if_neg (show ¬ m ≤ j by omega), va_up_self, draw4, draw6, Option.bind_some, Option.bind_some]
    simp only [bx_uu, va_up_self, hz]
    rw [draw4, draw6, Option.bind_some, Option.bind_some]
    simp only [bx_uu, va_up_self, z1, z2]
    rw [noPair5 p4 hn, areTwo6 p6 hn, Option.bind_some, Option.bind_some, if_bi, if_bi]
    cases htw : twoP n (dv (σ' 0 4) - dv (σ' 0 4) / 8 * 8) (dv (dz (σ' 0 4)) - dv (dz (σ' 0 4)) / 8 * 8)
    · simp only [Bool.not_false, if_true, Bool.false_eq_true, if_false]
      exact go _ _ hs2 hi2 (fm0_su (fm0_su hM _ _) _ _)
    · obtain ⟨a, b, ha, hb, hab, ea, eb⟩ := twoP_ex hn htw
      simp only [Bool.not_true, if_true, Bool.false_eq_true, if_false]
      unfold X4_seat
      rw [Option.bind_some, ea, eb]
      exact go _ _ ((hs2.u5 (nI a)).u6 (nI b)) (iv_seat hi2 ha hb hab) (fm0_su (fm0_su (fm0_su (fm0_su hM _ _) _ _) _ _) _ _)
theorem st_quarrels : St_quarrels Rel := by
  intro k X σ p1 hk h
  obtain ⟨hs, n, mi, w, t, hi⟩ := h.1
  have hm := hi.1.2.1
  have h0 : σ 0 0 = nI mi := hi.2.1.2.1
  have h5 : X 0 11 5 = nI mi := by rw [← hs.1.1]; exact h0
  unfold X5_quarrels X6_quarrels
  have e8 : inr (1 : Int32).toInt (20 : Int32).toInt p1 = inr 1 20 p1 := rfl
  have f8 : inr (1 : Int64).toInt (20 : Int64).toInt p1 = inr 1 20 p1 := rfl
  simp only [out_eq, in32, e8, f8, Option.bind_some, if_bi, bind_et]
  cases hb : inr 1 20 p1
  · exact bf_0 h
  · simp only [Bool.not_true, if_true, Bool.false_eq_true, if_false]
    have hr := of_decide_eq_true hb
    obtain ⟨d, hd, rfl⟩ := inr_nat (n := 21) (x := p1) (by decide) (decide_eq_true (by omega))
    rw [h0, h5, nI_add, show (99999 : Int32) = nI 99999 from rfl, if_pos (nI_le (by omega) (by decide)), if_pos (nI_le (by omega) (by decide))]
    obtain ⟨r, τ', σ'', B', w', t', i1, i2, i3, i4, i5⟩ := quL (X := X) (σ := σ) d 0 FU FU (X 0) σ (by omega) (show d < 2000 by omega) (FU_lt (by omega)) (FU_lt (by omega)) (by omega) hs hi (fm0_rf σ)
    rw [upd0_id] at i1
    exact ⟨r, _, σ'', i1, i2, h.set0 ⟨i3, n, mi + d, w', t', i4.mono (by omega)⟩ (up0 X _) i5⟩
def od5 : Nat → Int32 → Int32 → Int64 → Int64 → Option Int64
  | 0, _, _, _, _ => none
  | n + 1, x1, x2, x3, x5 => if (lg_cmp x5 (1 : Int64)) ≤ (0 : Int32) then (if x2 = (0 : Int32) then X5_power x3 x1 else X5_power x5 x1) else (if (lg_cmp (x3 - x3 / (2 : Int64) * (2 : Int64)) (0 : Int64)) = (0 : Int32) then od5 n x1 x2 (x3 / (2 : Int64)) (x5 / (2 : Int64)) else (if x2 = (0 : Int32) then X5_power x3 x1 else X5_power x5 x1))
theorem od5_eq (X : XS) (x1 x2 : Int32) : ∀ (fuel : Nat) (x3 x5 : Int64), X5_odds_b52 fuel X x1 x2 x3 x5 = (od5 fuel x1 x2 x3 x5).bind fun v => some (v, X) := by
  intro fuel
  induction fuel with
  | zero => intro x3 x5; rfl
  | succ f ih =>
    intro x3 x5
    rw [X5_odds_b52, od5]
    have e : X5_odds_b86 X x1 x2 x3 x5 = (if x2 = (0 : Int32) then X5_power x3 x1 else X5_power x5 x1).bind fun v => some (v, X) := by
      unfold X5_odds_b86
      split <;> rfl
    rw [e, ih]
    split
    · rfl
    · split <;> rfl
def od87 : Nat → Int32 → Int32 → Int32 → Int32 → Int64 → Int32 → Option Int64
  | 0, _, _, _, _, _, _ => none
  | n + 1, x1, x2, x3, x4, x5, x7 => if x1 ≤ x7 then some x5 else (if x2 = (0 : Int32) then (nz x4 (od87 n x1 x2 x3 x4 (x5 * (Int32.toInt64 (x3 / x4))) (x7 + 1))) else (nz x4 (od87 n x1 x2 x3 x4 (x5 * (Int32.toInt64 ((64 : Int32) / x4))) (x7 + 1))))
theorem nz_bind {α β : Type} (i : Int32) (x : Option α) (f : α → Option β) : nz i (x.bind f) = (nz i x).bind f := by
  unfold nz
  split <;> rfl
theorem od87_eq (σ : MS) (x1 x2 x3 x4 : Int32) : ∀ (fuel : Nat) (x5 : Int64) (x7 : Int32), X6_odds_b87 fuel σ x1 x2 x3 x4 x5 x7 = (od87 fuel x1 x2 x3 x4 x5 x7).bind fun v => some (v, σ) := by
  intro fuel
  induction fuel with
  | zero => intro x5 x7; rfl
  | succ f ih =>
    intro x5 x7
    rw [X6_odds_b87, od87]
    unfold X6_odds_b113
    rw [ih, ih, nz_bind, nz_bind]
    split
    · rfl
    · split <;> rfl
def od60 : Nat → Int32 → Int32 → Int32 → Int32 → Option Int64
  | 0, _, _, _, _ => none
  | n + 1, x1, x2, x3, x4 => nz x4 (if (x3 - x3 / x4 * x4) = (0 : Int32) then (nz x4 (if ((64 : Int32) - (64 : Int32) / x4 * x4) = (0 : Int32) then (od87 FU x1 x2 x3 x4 (1 : Int64) (0 : Int32)) else (od60 n x1 x2 x3 (x4 + (-1 : Int32))))) else (od60 n x1 x2 x3 (x4 + (-1 : Int32))))
theorem if_bind {α β : Type} {p : Prop} [Decidable p] (x y : Option α) (f : α → Option β) : (if p then x.bind f else y.bind f) = (if p then x else y).bind f := by split <;> rfl
theorem od60_eq (σ : MS) (x1 x2 x3 : Int32) : ∀ (fuel : Nat) (x4 : Int32), X6_odds_b60 fuel σ x1 x2 x3 x4 = (od60 fuel x1 x2 x3 x4).bind fun v => some (v, σ) := by
  intro fuel
  induction fuel with
  | zero => intro x4; rfl
  | succ f ih =>
    intro x4
    rw [X6_odds_b60, od60, od87_eq, ih, if_bind, nz_bind, if_bind, nz_bind]
theorem od_dec : ∀ n, n < 9 → ∀ d, d < 11 → ∀ b, b < 2 → (od5 FU (nI d) (nI b) (Int32.toInt64 (nI n) * Int32.toInt64 (nI n - (1 : Int32))) (64 : Int64)).isSome = true ∧ od5 FU (nI d) (nI b) (Int32.toInt64 (nI n) * Int32.toInt64 (nI n - (1 : Int32))) (64 : Int64) = od60 FU (nI d) (nI b) (if (0 : Int32) ≤ nI n * (nI n - (1 : Int32)) then nI n * (nI n - (1 : Int32)) else 0) (64 : Int32) := by decide +kernel
theorem st_odds : St_odds Rel := by
  intro k X σ p1 p2 hk h
  obtain ⟨hs, n, mi, w, t, hi⟩ := h.1
  have hn := hi.1.1
  have h1 : σ 0 1 = nI n := hi.2.1.1
  have h2 : X 0 11 4 = nI n := by rw [← hs.1.2.1]; exact h1
  unfold X5_odds X6_odds X5_odds_b19 X6_odds_b22 X6_odds_b55
  have e10 : inr (0 : Int32).toInt (10 : Int32).toInt p1 = inr 0 10 p1 := rfl
  have f10 : inr (0 : Int64).toInt (10 : Int64).toInt p1 = inr 0 10 p1 := rfl
  have e1 : inr (0 : Int32).toInt (1 : Int32).toInt p2 = inr 0 1 p2 := rfl
  have f1 : inr (0 : Int64).toInt (1 : Int64).toInt p2 = inr 0 1 p2 := rfl
  have bad : ∃ (r : Int64) (X' : XS) (σ' : MS), ((X5_found X (-1000001)).bind fun q9 => some (Int32.toInt64 q9.1, q9.2)) = some (r, X') ∧ ((X6_finds σ (-1000001)).bind fun q10 => some (Int32.toInt64 q10.1, q10.2)) = some (r, σ') ∧ Rel (k + 1) X' σ' := by
    obtain ⟨r, X', σ', q1, q2, q3⟩ := bf_0 h
    exact ⟨Int32.toInt64 r, X', σ', by rw [q1]; rfl, by rw [q2]; rfl, q3⟩
  simp only [out_eq, in32, e10, f10, e1, f1, Option.bind_some, if_bi, h1, h2]
  cases hb : inr 0 10 p1
  · exact bad
  · obtain ⟨d, hd, rfl⟩ := inr_nat (n := 11) (by decide) hb
    cases hb2 : inr 0 1 p2
    · exact bad
    · obtain ⟨b, hb3, rfl⟩ := inr_nat (n := 2) (by decide) hb2
      simp only [Bool.not_true, if_true, Bool.false_eq_true, if_false]
      obtain ⟨o1, o2⟩ := od_dec n (by omega) d hd b hb3
      obtain ⟨r, er⟩ := Option.isSome_iff_exists.mp o1
      have e6 : (if (0 : Int32) ≤ nI n * (nI n - 1) then X6_odds_b60 FU σ (nI d) (nI b) (nI n * (nI n - 1)) 64 else X6_odds_b60 FU σ (nI d) (nI b) 0 64) = X6_odds_b60 FU σ (nI d) (nI b) (if (0 : Int32) ≤ nI n * (nI n - 1) then nI n * (nI n - 1) else 0) 64 := by split <;> rfl
      rw [e6, od5_eq, od60_eq, ← o2, er]
      exact ⟨r, X, σ, rfl, rfl, h.up⟩
