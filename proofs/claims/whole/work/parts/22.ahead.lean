/-! PURE 12: trials; go, ahead, view, dry, filled, round -/
theorem nxt_at {v : Nat → Int32} {i : Nat} (h0 : i ≠ 0) (h2 : i ≠ 2) (h3 : i ≠ 3) (h : hd v = true → i ≠ iA v ∧ i ≠ iB v) : nxt v i = v i := by
  unfold nxt nx0
  rw [upd_n h0]
  by_cases hh : hd v = true
  · obtain ⟨h4, h5⟩ := h hh
    rw [if_pos hh]
    by_cases hg : v (iA v) = v (iB v)
    · rw [if_pos hg, upd_n h3]
    · rw [if_neg hg]
      unfold mvd mv2
      rw [upd_n h5, upd_n h4, upd_n h2]
  · rw [if_neg hh]
theorem nxt_hi {B n mi w t : Nat} {v : Nat → Int32} (hi : Iv B n mi w t v) {i : Nat} (h : 81 ≤ i) : nxt v i = v i := by
  refine nxt_at (by omega) (by omega) (by omega) (fun hh => ?_)
  obtain ⟨a, b, ha, hb, hab, h5, h6, eA, eB, eT, eIA, eIB⟩ := hAB hi hh
  have hn := hi.1.1
  have ht := hi.1.2.2.2
  rw [eIA, eIB]
  omega
theorem itn_hi {n : Nat} {i : Nat} (h : 81 ≤ i) : ∀ (d : Nat) {B mi w t : Nat} {v : Nat → Int32}, Iv B n mi w t v → itn d v i = v i := by
  intro d
  induction d with
  | zero => intro B mi w t v _; rfl
  | succ d ih =>
    intro B mi w t v hi
    obtain ⟨w1, t1, h1⟩ := iv_nxt hi
    exact (ih h1).trans (nxt_hi hi h)
/-- the reference's state while something is tried -/
def trs (σ : MS) (v : Nat → Int32) (c : Int32) : MS := su (sr (cpj σ 3 0 81) 0 v) 22 6 c
/-- and behind it -/
def bk (σ : MS) (c : Int32) : MS := su (cpj σ 3 0 81) 22 6 c
theorem trs_lay (σ : MS) : cpj σ 3 0 81 = trs σ (σ 0) (σ 22 6) := by
  unfold trs
  have e : sr (cpj σ 3 0 81) 0 (σ 0) = cpj σ 3 0 81 := sr_self (cpj σ 3 0 81) 0
  rw [e]
  exact (su_self (cpj σ 3 0 81) 22 6).symm
theorem trs_0 (σ : MS) (v : Nat → Int32) (c : Int32) : trs σ v c 0 = v := rfl
theorem trs_6 (σ : MS) (v : Nat → Int32) (c : Int32) : trs σ v c 22 6 = c := rfl
theorem trs_3 (σ : MS) (v : Nat → Int32) (c : Int32) {j : Nat} (h : j < 81) : trs σ v c 3 j = σ 0 j := by
  show cpj σ 3 0 81 3 j = σ 0 j
  exact cpj_r h
theorem su_su22 (σ : MS) (x y : Int32) : su (su σ 22 6 x) 22 6 y = su σ 22 6 y := by
  show va_up (va_up σ 22 _) 22 (upd (va_up σ 22 (upd (σ 22) 6 x) 22) 6 y) = va_up σ 22 _
  rw [bx_uu, va_up_self, upd_upd]
theorem trs_set (σ : MS) (v u : Nat → Int32) (c x : Int32) : su (sr (trs σ v c) 0 u) 22 6 x = trs σ u x := by
  unfold trs
  rw [sr_su, sr_sr, su_su22]
theorem trs_min {σ : MS} {B n mi w t : Nat} {v : Nat → Int32} (hi : Iv B n mi w t v) (c : Int32) : X6_minute (trs σ v c) = some (trs σ (nxt v) (c + cme v)) := by
  rw [min6 (σ := trs σ v c) hi, trs_set]
  rfl
theorem trs_go {σ : MS} {B n mi w t d : Nat} {v : Nat → Int32} (hi : Iv B n mi w t v) (hd : d < 2000) (c : Int32) : X6_goesOn (trs σ v c) (nI d) = some (trs σ (itn d v) (cms d v c)) := by
  unfold X6_goesOn
  have h := goes6 d 0 FU d (by omega) hd (FU_lt hd) (σ := trs σ v c) hi
  rw [trs_set] at h
  exact h
theorem trs_back (σ : MS) {R : Nat → Int32} (c x : Int32) (hR : ∀ i, 81 ≤ i → R i = σ 0 i) : X6_takesBack (trs σ R c) x = some (x, bk σ c) := by
  rw [takes6]
  have e : (fun i => if i < 81 then trs σ R c 3 i else trs σ R c 0 i) = σ 0 := by
    funext i
    by_cases h : i < 81
    · rw [if_pos h, trs_3 σ R c h]
    · rw [if_neg h, trs_0, hR i (by omega)]
  have e2 : cpj (trs σ R c) 0 3 81 = bk σ c := by
    unfold cpj
    rw [e]
    unfold trs bk
    rw [sr_su, sr_sr]
    have e3 : sr (cpj σ 3 0 81) 0 (σ 0) = cpj σ 3 0 81 := sr_self (cpj σ 3 0 81) 0
    rw [e3]
  rw [e2]
theorem fm_bk (σ : MS) (c : Int32) : FM σ (bk σ c) := ⟨rfl, rfl, rfl, rfl, rfl, rfl, rfl, rfl, rfl⟩
theorem bk_bk (σ : MS) (c d : Int32) : bk (bk σ c) d = bk σ d := by
  have e0 : bk σ c 0 = σ 0 := rfl
  have e3 : ∀ i, bk σ c 3 i = if i < 81 then σ 0 i else σ 3 i := fun _ => rfl
  unfold bk at *
  funext k l
  unfold cpj
  rw [su_at, su_at]
  by_cases h : k = 22 ∧ l = 6
  · rw [if_pos h, if_pos h]
  · rw [if_neg h, if_neg h]
    by_cases h3 : k = 3
    · subst h3
      rw [sr_at, sr_at]
      show (if l < 81 then σ 0 l else (if l < 81 then σ 0 l else σ 3 l)) = if l < 81 then σ 0 l else σ 3 l
      by_cases h4 : l < 81
      · rw [if_pos h4, if_pos h4]
      · rw [if_neg h4, if_neg h4]
    · rw [sr_ne h3, sr_ne h3, su_at, if_neg h, sr_ne h3]
theorem mi_ok {k mi B d : Nat} (hk : k < 512) (hB : B = 100 * k) (hm : mi ≤ B) (hd : d ≤ 400) : mi + d ≤ 99999 := by omega
theorem st_go : St_go Rel := by
  intro k X σ p1 hk h
  obtain ⟨hs, n, mi, w, t, hi⟩ := h.1
  have hm := hi.1.2.1
  have h0 : σ 0 0 = nI mi := hi.2.1.2.1
  have h5 : X 0 11 5 = nI mi := by rw [← hs.1.1]; exact h0
  unfold X5_go X6_go
  have e8 : inr (1 : Int32).toInt (100 : Int32).toInt p1 = inr 1 100 p1 := rfl
  have f8 : inr (1 : Int64).toInt (100 : Int64).toInt p1 = inr 1 100 p1 := rfl
  simp only [out_eq, in32, e8, f8, Option.bind_some, if_bi, bind_et]
  cases hb : inr 1 100 p1
  · exact bf_0 h
  · simp only [Bool.not_true, if_true, Bool.false_eq_true, if_false]
    have hr := of_decide_eq_true hb
    obtain ⟨d, hd, rfl⟩ := inr_nat (n := 101) (x := p1) (by decide) (decide_eq_true (by omega))
    have hd1 : 1 ≤ d := by
      have := hr.1
      rw [nI_toInt (by omega)] at this
      omega
    rw [h0, h5, nI_add, show (99999 : Int32) = nI 99999 from rfl, if_pos (nI_le (by omega) (by decide)), if_pos (nI_le (by omega) (by decide))]
    obtain ⟨τ', e2, hq2⟩ := passes4 d 0 FU d (by omega) (by omega) (FU_lt (by omega)) (by omega) hs hi
    have e3 := goes6 d 0 FU d (by omega) (by omega) (FU_lt (by omega)) (σ := σ) hi
    obtain ⟨B', w', t', hi'⟩ := iv_itn d hi
    have e6 : τ' 11 6 = itn d (σ 0) 2 := hq2.1.2.2.1.symm
    refine ⟨itn d (σ 0) 2, va_up X 0 τ', su (sr σ 0 (itn d (σ 0))) 22 6 (cms d (σ 0) (σ 22 6)), ?_, ?_, ?_⟩
    · unfold X4_passMinutes
      rw [show (0 : Int32) = nI 0 from rfl, e2, Option.bind_some, va_up_self, e6]
    · unfold X6_goesOn
      rw [show (0 : Int32) = nI 0 from rfl, e3, Option.bind_some]
      rfl
    · exact h.set0 ⟨hq2, n, mi + d, w', t', hi'.mono (by omega)⟩ (up0 X _) ⟨rfl, rfl, rfl, rfl, rfl, rfl, rfl, rfl⟩
theorem behind6 {σ : MS} {B n mi w t d q : Nat} (hi : Iv B n mi w t (σ 0)) (hd : d < 2000) (hq : q < 81) : X6_behind σ (nI q) (nI d) = some (itn d (σ 0) q, bk σ (cms d (σ 0) (σ 22 6))) := by
  unfold X6_behind
  rw [lays6, Option.bind_some, trs_lay, trs_go hi hd, Option.bind_some, ai_n hq (by decide), nI_clamp (by omega), trs_back σ _ _ (fun i h => itn_hi h d hi)]
  rfl
theorem Rel.tried {k : Nat} {X : XS} {σ : MS} (h : Rel k X σ) (τ : MS) (c : Int32) : Rel k (va_up X 1 τ) (bk σ c) := h.fr (FX.u1 X τ) (fm_bk σ c)
theorem st_ahead : St_ahead Rel := by
  intro k X σ p1 hk h
  obtain ⟨hs, n, mi, w, t, hi⟩ := h.1
  have hm := hi.1.2.1
  unfold X5_ahead X6_ahead
  have e8 : inr (0 : Int32).toInt (200 : Int32).toInt p1 = inr 0 200 p1 := rfl
  have f8 : inr (0 : Int64).toInt (200 : Int64).toInt p1 = inr 0 200 p1 := rfl
  simp only [out_eq, in32, e8, f8, Option.bind_some, if_bi, bind_et]
  cases hb : inr 0 200 p1
  · exact bf_0 h
  · simp only [Bool.not_true, if_true, Bool.false_eq_true, if_false]
    obtain ⟨d, hd, rfl⟩ := inr_nat (n := 201) (x := p1) (by decide) hb
    obtain ⟨Xr, e1, hq⟩ := takeOver4 (X 1) (X 0) hs
    obtain ⟨τ', e2, hq2⟩ := passes4 d 0 FU d (by omega) (by omega) (FU_lt (by omega)) (by omega) hq hi
    have e6 : τ' 11 6 = itn d (σ 0) 2 := hq2.1.2.2.1.symm
    refine ⟨itn d (σ 0) 2, va_up X 1 τ', bk σ (cms d (σ 0) (σ 22 6)), ?_, ?_, (h.tried τ' _).up⟩
    rotate_left
    · rw [show (2 : Int32) = nI 2 from rfl, behind6 hi (by omega) (by decide)]
    · unfold X4_passMinutes
      rw [e1, Option.bind_some, va_up_self, show (0 : Int32) = nI 0 from rfl, e2, Option.bind_some, bx_uu, va_up_self, e6]
theorem st_view : St_view Rel := by
  intro k X σ p1 p2 p3 hk h
  obtain ⟨hs, n, mi, w, t, hi⟩ := h.1
  have hn := hi.1.1
  have hm := hi.1.2.1
  have h1 : σ 0 1 = nI n := hi.2.1.1
  have h2 : X 0 11 4 = nI n := by rw [← hs.1.2.1]; exact h1
  unfold X5_view X6_view X5_view_b29 X6_view_b42
  have e8 : inr (0 : Int32).toInt (200 : Int32).toInt p3 = inr 0 200 p3 := rfl
  have f8 : inr (0 : Int64).toInt (200 : Int64).toInt p3 = inr 0 200 p3 := rfl
  simp only [out_eq, in32, e8, f8, Option.bind_some, if_bi, isThere4 h2 hn, isPerson6 h1 hn, noSub5, isSub6, bind_et]
  cases hp : isP n p1
  · exact bf_0 h
  · obtain ⟨p, hpn, rfl⟩ := isP_ex (by omega) hp
    cases hj : inr 0 5 p2
    · exact bf_0 h
    · obtain ⟨j, hj6, rfl⟩ := inr_nat (n := 6) (by decide) hj
      cases hb : inr 0 200 p3
      · exact bf_0 h
      · simp only [Bool.not_true, if_true, Bool.false_eq_true, if_false]
        obtain ⟨d, hd, rfl⟩ := inr_nat (n := 201) (by decide) hb
        obtain ⟨Xr, e1, hq⟩ := takeOver4 (X 1) (X 0) hs
        obtain ⟨τ', e2, hq2⟩ := passes4 d 0 FU d (by omega) (by omega) (FU_lt (by omega)) (by omega) hq hi
        refine ⟨itn d (σ 0) (9 + 8 * p + j), va_up X 1 τ', bk σ (cms d (σ 0) (σ 22 6)), ?_, ?_, (h.tried τ' _).up⟩
        rotate_left
        · rw [show (2 : Int32) = nI 2 from rfl, nI_add, place6, Option.bind_some, show 7 + 8 * p + (2 + j) = 9 + 8 * p + j by omega, behind6 hi (by omega) (by omega)]
        · unfold X4_passMinutes
          rw [e1, Option.bind_some, va_up_self, show (0 : Int32) = nI 0 from rfl, e2, Option.bind_some, bx_uu, va_up_self, viewOn4 (by omega) hj6, Option.bind_some, ← (hq2.2.1 p (by omega)).2.2 j hj6]
/-- the least number of minutes, from j on, behind which P holds; d: how many are tried -/
def srch (P : (Nat → Int32) → Bool) : Nat → Nat → (Nat → Int32) → Nat
  | 0, j, _ => j
  | d + 1, j, v => if P v then j else srch P d (j + 1) (nxt v)
def orN5 (X : XS) (x : Int32) : Option (Int32 × XS) := if (300 : Int32) < x then X5_found X (-1000004) else some (x, X)
theorem orNone_eq (σ : MS) (x : Int32) : X6_orNone σ x = if (300 : Int32) < x then X6_finds σ (-1000004) else some (x, σ) := by
  unfold X6_orNone
  rw [bind_et]
  by_cases h : x ≤ (300 : Int32)
  · rw [if_pos h, if_neg]
    intro h2
    have a := Int32.le_iff_toInt_le.mp h
    have b := Int32.lt_iff_toInt_lt.mp h2
    omega
  · rw [if_neg h, if_pos]
    apply Int32.lt_iff_toInt_lt.mpr
    have a : ¬ x.toInt ≤ (300 : Int32).toInt := fun e => h (Int32.le_iff_toInt_le.mpr e)
    omega
theorem both_orN {k : Nat} {X : XS} {σ : MS} (h : Rel k X σ) (x : Int32) : ∃ (r : Int32) (X' : XS) (σ' : MS), orN5 X x = some (r, X') ∧ X6_orNone σ x = some (r, σ') ∧ Rel (k + 1) X' σ' := by
  rw [orNone_eq]
  unfold orN5
  by_cases c : (300 : Int32) < x
  · rw [if_pos c, if_pos c]; exact bf_3 h
  · rw [if_neg c, if_neg c]; exact h.asks x rfl rfl
theorem n300 {j : Nat} (hj : j < 2000) : (300 : Int32) < nI j ↔ 300 < j := nI_ltI (a := 300) (by decide) (by omega)
theorem dry5 {n : Nat} {X : XS} : ∀ (d j fuel : Nat) {B mi w t : Nat} {τ : MS} {v : Nat → Int32}, j + d = 301 → d < fuel → mi + d ≤ 99999 → Sq τ v → Iv B n mi w t v → ∃ τ', X5_dry_b13 fuel (va_up X 1 τ) (nI j) = orN5 (va_up X 1 τ') (nI (srch (fun u => decide (qset u = 0)) d j v)) := by
  intro d
  induction d with
  | zero =>
    intro j fuel B mi w t τ v hj hf hm hs hi
    obtain ⟨f, rfl⟩ : ∃ f, fuel = f + 1 := ⟨fuel - 1, by omega⟩
    refine ⟨τ, ?_⟩
    rw [X5_dry_b13, if_pos ((n300 (by omega)).mpr (by omega)), bind_et]
    unfold orN5 srch
    rw [if_pos ((n300 (by omega)).mpr (by omega))]
  | succ d ih =>
    intro j fuel B mi w t τ v hj hf hm hs hi
    obtain ⟨f, rfl⟩ : ∃ f, fuel = f + 1 := ⟨fuel - 1, by omega⟩
    rw [X5_dry_b13, if_neg (fun e => absurd ((n300 (by omega)).mp e) (by omega)), va_up_self, quar4 hs hi, Option.bind_some]
    by_cases hq : qset v = 0
    · refine ⟨τ, ?_⟩
      rw [if_pos ((nI_eq0 (by have := qset_lt v; omega)).mpr hq), srch, if_pos (decide_eq_true hq)]
      unfold orN5
      rw [if_neg (fun e => absurd ((n300 (by omega)).mp e) (by omega))]
    · obtain ⟨τ1, e1, hs1⟩ := pass4 hs hi (by omega)
      obtain ⟨w1, t1, hi1⟩ := iv_nxt hi
      obtain ⟨τ2, e2⟩ := ih (j + 1) f (by omega) (by omega) (by omega) hs1 hi1
      refine ⟨τ2, ?_⟩
      rw [if_neg (fun e => hq ((nI_eq0 (by have := qset_lt v; omega)).mp e)), e1, Option.bind_some, bx_uu, nI_1, srch, if_neg (by simp [hq])]
      exact e2
theorem dry6 {n : Nat} {σ : MS} : ∀ (d j fuel : Nat) {B mi w t : Nat} {v : Nat → Int32} (c : Int32), j + d = 301 → d < fuel → Iv B n mi w t v → (∀ i, 81 ≤ i → v i = σ 0 i) → ∃ c', X6_dry_b6 fuel (trs σ v c) (nI j) = X6_orNone (bk σ c') (nI (srch (fun u => decide (qset u = 0)) d j v)) := by
  intro d
  induction d with
  | zero =>
    intro j fuel B mi w t v c hj hf hi hv
    obtain ⟨f, rfl⟩ : ∃ f, fuel = f + 1 := ⟨fuel - 1, by omega⟩
    refine ⟨c, ?_⟩
    rw [X6_dry_b6, if_pos ((n300 (by omega)).mpr (by omega))]
    unfold X6_dry_b30
    rw [trs_back σ c _ hv, Option.bind_some, bind_et, srch]
  | succ d ih =>
    intro j fuel B mi w t v c hj hf hi hv
    obtain ⟨f, rfl⟩ : ∃ f, fuel = f + 1 := ⟨fuel - 1, by omega⟩
    rw [X6_dry_b6, if_neg (fun e => absurd ((n300 (by omega)).mp e) (by omega)), disp6 (σ := trs σ v c) hi, Option.bind_some, trs_0]
    by_cases hq : qset v = 0
    · refine ⟨c, ?_⟩
      rw [if_pos ((nI_eq0 (by have := qset_lt v; omega)).mpr hq), srch, if_pos (decide_eq_true hq)]
      unfold X6_dry_b30
      rw [trs_back σ c _ hv, Option.bind_some, bind_et]
    · obtain ⟨w1, t1, hi1⟩ := iv_nxt hi
      obtain ⟨c2, e2⟩ := ih (j + 1) f (c + cme v) (by omega) (by omega) hi1 (fun i h => (nxt_hi hi h).trans (hv i h))
      refine ⟨c2, ?_⟩
      rw [if_neg (fun e => hq ((nI_eq0 (by have := qset_lt v; omega)).mp e)), trs_min hi, Option.bind_some, nI_1, srch, if_neg (by simp [hq])]
      exact e2
theorem st_dry : St_dry Rel := by
  intro k X σ hk h
  obtain ⟨hs, n, mi, w, t, hi⟩ := h.1
  have hm := hi.1.2.1
  obtain ⟨Xr, e1, hq⟩ := takeOver4 (X 1) (X 0) hs
  obtain ⟨τ', e2⟩ := dry5 (X := X) 301 0 FU rfl (FU_lt (by decide)) (by omega) hq hi
  obtain ⟨c', e3⟩ := dry6 (σ := σ) 301 0 FU (σ 22 6) rfl (FU_lt (by decide)) hi (fun _ _ => rfl)
  unfold X5_dry X6_dry
  rw [e1, Option.bind_some, lays6, Option.bind_some, trs_lay, show (0 : Int32) = nI 0 from rfl, e2, e3]
  exact both_orN (h.tried τ' c') _
def flP (x : Int32) (u : Nat → Int32) : Bool := !decide (u 2 < x)
theorem fill5 {n : Nat} {X : XS} (x : Int32) : ∀ (d j fuel : Nat) {B mi w t : Nat} {τ : MS} {v : Nat → Int32}, j + d = 301 → d < fuel → mi + d ≤ 99999 → Sq τ v → Iv B n mi w t v → ∃ τ', X5_filled_b30 fuel (va_up X 1 τ) x (nI j) = orN5 (va_up X 1 τ') (nI (srch (flP x) d j v)) := by
  intro d
  induction d with
  | zero =>
    intro j fuel B mi w t τ v hj hf hm hs hi
    obtain ⟨f, rfl⟩ : ∃ f, fuel = f + 1 := ⟨fuel - 1, by omega⟩
    refine ⟨τ, ?_⟩
    rw [X5_filled_b30, if_pos ((n300 (by omega)).mpr (by omega)), bind_et]
    unfold orN5 srch
    rw [if_pos ((n300 (by omega)).mpr (by omega))]
  | succ d ih =>
    intro j fuel B mi w t τ v hj hf hm hs hi
    obtain ⟨f, rfl⟩ : ∃ f, fuel = f + 1 := ⟨fuel - 1, by omega⟩
    have e6 : τ 11 6 = v 2 := hs.1.2.2.1.symm
    rw [X5_filled_b30, if_neg (fun e => absurd ((n300 (by omega)).mp e) (by omega)), va_up_self, e6]
    by_cases hq : v 2 < x
    · obtain ⟨τ1, e1, hs1⟩ := pass4 hs hi (by omega)
      obtain ⟨w1, t1, hi1⟩ := iv_nxt hi
      obtain ⟨τ2, e2⟩ := ih (j + 1) f (by omega) (by omega) (by omega) hs1 hi1
      refine ⟨τ2, ?_⟩
      rw [if_pos hq, e1, Option.bind_some, bx_uu, nI_1, srch, if_neg (by unfold flP; simp [hq])]
      exact e2
    · refine ⟨τ, ?_⟩
      rw [if_neg hq, srch, if_pos (by unfold flP; simp [hq])]
      unfold orN5
      rw [if_neg (fun e => absurd ((n300 (by omega)).mp e) (by omega))]
theorem le_nlt {α : Type} (x y : Int32) (a b : α) : (if x ≤ y then a else b) = if y < x then b else a := by
  by_cases h : x ≤ y
  · rw [if_pos h, if_neg]
    intro h2
    have c := Int32.le_iff_toInt_le.mp h
    have d := Int32.lt_iff_toInt_lt.mp h2
    omega
  · rw [if_neg h, if_pos]
    apply Int32.lt_iff_toInt_lt.mpr
    have c : ¬ x.toInt ≤ y.toInt := fun e => h (Int32.le_iff_toInt_le.mpr e)
    omega
theorem fill6 {n : Nat} {σ : MS} (x : Int32) : ∀ (d j fuel : Nat) {B mi w t : Nat} {v : Nat → Int32} (c : Int32), j + d = 301 → d < fuel → Iv B n mi w t v → (∀ i, 81 ≤ i → v i = σ 0 i) → ∃ c', X6_filled_b25 fuel (trs σ v c) x (nI j) = X6_orNone (bk σ c') (nI (srch (flP x) d j v)) := by
  intro d
  induction d with
  | zero =>
    intro j fuel B mi w t v c hj hf hi hv
    obtain ⟨f, rfl⟩ : ∃ f, fuel = f + 1 := ⟨fuel - 1, by omega⟩
    refine ⟨c, ?_⟩
    rw [X6_filled_b25, if_pos ((n300 (by omega)).mpr (by omega))]
    unfold X6_filled_b52
    rw [trs_back σ c _ hv, Option.bind_some, bind_et, srch]
  | succ d ih =>
    intro j fuel B mi w t v c hj hf hi hv
    obtain ⟨f, rfl⟩ : ∃ f, fuel = f + 1 := ⟨fuel - 1, by omega⟩
    rw [X6_filled_b25, if_neg (fun e => absurd ((n300 (by omega)).mp e) (by omega)), trs_0, le_nlt]
    by_cases hq : v 2 < x
    · obtain ⟨w1, t1, hi1⟩ := iv_nxt hi
      obtain ⟨c2, e2⟩ := ih (j + 1) f (c + cme v) (by omega) (by omega) hi1 (fun i h => (nxt_hi hi h).trans (hv i h))
      refine ⟨c2, ?_⟩
      rw [if_pos hq, trs_min hi, Option.bind_some, nI_1, srch, if_neg (by unfold flP; simp [hq])]
      exact e2
    · refine ⟨c, ?_⟩
      rw [if_neg hq, srch, if_pos (by unfold flP; simp [hq])]
      unfold X6_filled_b52
      rw [trs_back σ c _ hv, Option.bind_some, bind_et]
theorem st_filled : St_filled Rel := by
  intro k X σ p1 hk h
  obtain ⟨hs, n, mi, w, t, hi⟩ := h.1
  have hm := hi.1.2.1
  unfold X5_filled X6_filled
  have e8 : inr (0 : Int32).toInt (999999 : Int32).toInt p1 = inr 0 999999 p1 := rfl
  have f8 : inr (0 : Int64).toInt (999999 : Int64).toInt p1 = inr 0 999999 p1 := rfl
  simp only [out_eq, in32, e8, f8, Option.bind_some, if_bi, bind_et]
  cases hb : inr 0 999999 p1
  · exact bf_0 h
  · simp only [Bool.not_true, if_true, Bool.false_eq_true, if_false]
    obtain ⟨Xr, e1, hq⟩ := takeOver4 (X 1) (X 0) hs
    obtain ⟨τ', e2⟩ := fill5 (X := X) p1 301 0 FU rfl (FU_lt (by decide)) (by omega) hq hi
    obtain ⟨c', e3⟩ := fill6 (σ := σ) p1 301 0 FU (σ 22 6) rfl (FU_lt (by decide)) hi (fun _ _ => rfl)
    rw [e1, Option.bind_some, lays6, Option.bind_some, trs_lay, show (0 : Int32) = nI 0 from rfl, e2, e3]
    exact both_orN (h.tried τ' c') _
