/-! PURE 26: items of a text -/
def FrX (X0 X : XS) : Prop := ∀ c, c ≠ 1 → c ≠ 3 → X c = X0 c
def FrM (σ0 σ : MS) : Prop := σ 1 = σ0 1 ∧ σ 2 = σ0 2 ∧ σ 4 = σ0 4 ∧ σ 12 = σ0 12 ∧ σ 18 = σ0 18 ∧ σ 19 = σ0 19 ∧ σ 20 = σ0 20 ∧ σ 22 5 = σ0 22 5 ∧ σ 22 13 = σ0 22 13
theorem FrX.u1 {X0 X : XS} (h : FrX X0 X) (τ : MS) : FrX X0 (va_up X 1 τ) := fun c h1 h3 => (va_up_ne _ _ h1).trans (h c h1 h3)
theorem FrX.u3 {X0 X : XS} (h : FrX X0 X) (τ : MS) : FrX X0 (va_up X 3 τ) := fun c h1 h3 => (va_up_ne _ _ h3).trans (h c h1 h3)
theorem FrM.s0 {σ0 σ : MS} (h : FrM σ0 σ) (f : Nat → Int32) : FrM σ0 (sr σ 0 f) := ⟨h.1, h.2.1, h.2.2.1, h.2.2.2.1, h.2.2.2.2.1, h.2.2.2.2.2.1, h.2.2.2.2.2.2.1, h.2.2.2.2.2.2.2.1, h.2.2.2.2.2.2.2.2⟩
theorem FrM.s22 {σ0 σ : MS} (h : FrM σ0 σ) {j : Nat} (h5 : j ≠ 5) (h13 : j ≠ 13) (x : Int32) : FrM σ0 (su σ 22 j x) := ⟨h.1, h.2.1, h.2.2.1, h.2.2.2.1, h.2.2.2.2.1, h.2.2.2.2.2.1, h.2.2.2.2.2.2.1, (by rw [su_at, if_neg (by omega)]; exact h.2.2.2.2.2.2.2.1), (by rw [su_at, if_neg (by omega)]; exact h.2.2.2.2.2.2.2.2)⟩
def Tke (y : Nat → Nat) (tl st bh : Nat) : Prop := st ≤ bh ∧ bh ≤ tl ∧ (st < tl → st < bh) ∧ (srt y tl st = 1 ∨ srt y tl st = 2 → ∀ i, st ≤ i → i < bh → srt y tl i = srt y tl st)
def PS (X0 : XS) (σ0 : MS) (y : Nat → Nat) (tl mi st bh : Nat) (X : XS) (σ : MS) : Prop := (FrX X0 X ∧ FrM σ0 σ) ∧ (Ty y tl (X 3) ∧ Tz y tl σ) ∧ Tke y tl st bh ∧ (X 3 6 3 = nI st ∧ X 3 6 4 = nI bh ∧ X 3 6 2 = nI (srt y tl st) ∧ X 3 6 5 = nI (numv y tl st bh)) ∧ (σ 22 14 = nI st ∧ σ 22 15 = nI bh ∧ σ 22 17 = 0) ∧ Sq (X 1) (σ 0) ∧ ∃ n w t, Iv mi n mi w t (σ 0)
/-- it has failed: the fault's place is the same -/
def PF (X0 : XS) (σ0 : MS) (y : Nat → Nat) (tl : Nat) (X : XS) (σ : MS) : Prop := (FrX X0 X ∧ FrM σ0 σ) ∧ Tz y tl σ ∧ σ 22 17 = 1 ∧ ∃ st bh, st ≤ bh ∧ bh ≤ tl ∧ X 3 6 3 = nI st ∧ σ 22 14 = nI st ∧ σ 22 15 = nI bh
theorem Tz.s0 {y : Nat → Nat} {tl : Nat} {σ : MS} (h : Tz y tl σ) (f : Nat → Int32) : Tz y tl (sr σ 0 f) := h
theorem PF.s0 {X0 X : XS} {σ0 σ : MS} {y : Nat → Nat} {tl : Nat} (h : PF X0 σ0 y tl X σ) (f : Nat → Int32) : PF X0 σ0 y tl X (sr σ 0 f) := ⟨⟨h.1.1, h.1.2.s0 f⟩, h.2.1, h.2.2⟩
theorem tke_1 {y : Nat → Nat} {tl st bh : Nat} (h : Tke y tl st bh) (e : srt y tl st = 1) : ∀ i, st ≤ i → i < bh → srt y tl i = 1 := fun i h1 h2 => (h.2.2.2 (Or.inl e) i h1 h2).trans e
theorem tke_2 {y : Nat → Nat} {tl st bh : Nat} (h : Tke y tl st bh) (e : srt y tl st = 2) : ∀ i, st ≤ i → i < bh → srt y tl i = 2 := fun i h1 h2 => (h.2.2.2 (Or.inr e) i h1 h2).trans e
theorem ps_sq {X0 X : XS} {σ0 σ : MS} {y : Nat → Nat} {tl mi st bh n w t : Nat} {τ : MS} {v : Nat → Int32} (h : PS X0 σ0 y tl mi st bh X σ) (hs : Sq τ v) (hi : Iv mi n mi w t v) : PS X0 σ0 y tl mi st bh (va_up X 1 τ) (sr σ 0 v) := ⟨⟨h.1.1.u1 τ, h.1.2.s0 v⟩, h.2.1, h.2.2.1, h.2.2.2.1, h.2.2.2.2.1, hs, n, w, t, hi⟩
theorem ps_16 {X0 X : XS} {σ0 σ : MS} {y : Nat → Nat} {tl mi st bh : Nat} (h : PS X0 σ0 y tl mi st bh X σ) (x : Int32) : PS X0 σ0 y tl mi st bh X (su σ 22 16 x) := ⟨⟨h.1.1, h.1.2.s22 (by decide) (by decide) x⟩, ⟨h.2.1.1, h.2.1.2.su (by decide) x⟩, h.2.2.1, h.2.2.2.1, h.2.2.2.2.1, h.2.2.2.2.2.1, h.2.2.2.2.2.2⟩
theorem ps_fail {X0 X : XS} {σ0 σ : MS} {y : Nat → Nat} {tl mi st bh : Nat} (h : PS X0 σ0 y tl mi st bh X σ) : PF X0 σ0 y tl X (su σ 22 17 1) := ⟨⟨h.1.1, h.1.2.s22 (by decide) (by decide) 1⟩, h.2.1.2.su (by decide) 1, by rw [su_at, if_pos ⟨rfl, rfl⟩], st, bh, h.2.2.1.1, h.2.2.1.2.1, h.2.2.2.1.1, h.2.2.2.2.1.1, h.2.2.2.2.1.2.1⟩
theorem ps_adv {X0 X : XS} {σ0 σ : MS} {y : Nat → Nat} {tl mi st bh : Nat} (h : PS X0 σ0 y tl mi st bh X σ) : ∃ ρ' σ' st' bh', X2_advance (X 3) = some ρ' ∧ X6_token σ = some σ' ∧ PS X0 σ0 y tl mi st' bh' (va_up X 3 ρ') σ' ∧ bh ≤ st' ∧ σ' 0 = σ 0 ∧ σ' 22 16 = σ 22 16 := by
  obtain ⟨⟨f1, f2⟩, ⟨t1, t2⟩, k1, ⟨r3, r4, r2, r5⟩, ⟨s14, s15, s17⟩, hs, hi⟩ := h
  obtain ⟨ρ', e1, a1, a3, a4, a2, a5⟩ := adv5 t1 k1.2.1 r4
  have e2 := tok6 t2 k1.2.1 s15
  have hS := tkS_le (y := y) k1.2.1
  have hB := tkB_le (y := y) hS.2
  refine ⟨ρ', _, tkS y tl bh, tkB y tl (tkS y tl bh), e1, e2, ⟨⟨f1.u3 ρ', (f2.s22 (by decide) (by decide) _).s22 (by decide) (by decide) _⟩, ⟨a1, (t2.su (by decide) _).su (by decide) _⟩, hB, ⟨a3, a4, a2, a5⟩, ⟨?_, ?_, ?_⟩, hs, hi⟩, hS.1, rfl, ?_⟩
  · rw [su_at, if_neg (by decide), su_at, if_pos ⟨rfl, rfl⟩]
  · rw [su_at, if_pos ⟨rfl, rfl⟩]
  · rw [su_at, if_neg (by decide), su_at, if_neg (by decide)]; exact s17
  · rw [su_at, if_neg (by decide), su_at, if_neg (by decide)]
theorem ps_num {X0 X : XS} {σ0 σ : MS} {y : Nat → Nat} {tl mi st bh : Nat} (h : PS X0 σ0 y tl mi st bh X σ) (hi : Int32) : (X2_isNumberUpTo (X 3) hi = some 1 ∧ okN y tl st bh hi = true ∧ ∃ ρ' σ' st' bh', X2_advance (X 3) = some ρ' ∧ X6_number σ 0 hi = some σ' ∧ PS X0 σ0 y tl mi st' bh' (va_up X 3 ρ') σ' ∧ bh ≤ st' ∧ σ' 0 = σ 0 ∧ σ' 22 16 = nI (numv y tl st bh)) ∨ (X2_isNumberUpTo (X 3) hi = some 0 ∧ ∃ σ', X6_number σ 0 hi = some σ' ∧ PF X0 σ0 y tl X σ' ∧ σ' 0 = σ 0) := by
  have h' := ps_16 h (nI (numv y tl st bh))
  obtain ⟨⟨f1, f2⟩, ⟨t1, t2⟩, k1, ⟨r3, r4, r2, r5⟩, ⟨s14, s15, s17⟩, hs, hii⟩ := h
  have hn := numv_lt (tke_2 k1)
  have e6 := number6 t2 s14 s15 k1.1 k1.2.1 s17 (tke_2 k1) hi
  have e5 := upTo5 r2 r5 hn hi
  cases ho : okN y tl st bh hi
  · refine Or.inr ⟨by rw [e5, ho]; rfl, _, ?_, ps_fail h', rfl⟩
    rw [e6, ho]; rfl
  · obtain ⟨ρ', σ', st', bh', g1, g2, g3, g4, g5, g6⟩ := ps_adv h'
    refine Or.inl ⟨by rw [e5, ho]; rfl, rfl, ρ', σ', st', bh', g1, ?_, g3, g4, g5, ?_⟩
    · rw [e6, ho]; exact g2
    · rw [g6, su_at, if_pos ⟨rfl, rfl⟩]
def sgn (y : Nat → Nat) (tl st c : Nat) : Bool := decide (st < tl ∧ y st = c)
theorem sign5 {y : Nat → Nat} {tl st c : Nat} {ρ : MS} (hc : c = 45 ∨ c = 59) (hT : Ty y tl ρ) (h3 : ρ 6 3 = nI st) (h2 : ρ 6 2 = nI (srt y tl st)) (hst : st ≤ tl) : X2_isSign ρ (nI c) = some (bi (sgn y tl st c)) := by
  have htl := hT.1
  have := srt_lt y tl st
  unfold X2_isSign sgn
  rw [h2, h3]
  by_cases c3 : srt y tl st = 3
  · have hlt : st < tl := Nat.lt_of_not_le (fun z => by rw [srt_0.mpr z] at c3; cases c3)
    obtain ⟨y1, y2⟩ := hT.2.2 st hlt
    rw [if_pos (show nI (srt y tl st) = 3 by rw [c3]; rfl), ai_n (by omega) (by decide), nI_clamp (by omega), y1]
    by_cases e : y st = c
    · rw [if_pos (by rw [e]), decide_eq_true ⟨hlt, e⟩]; rfl
    · rw [if_neg (fun z => e ((nI_eq (by omega) (by omega)).mp z)), decide_eq_false (fun z => e z.2)]; rfl
  · rw [if_neg (show ¬ nI (srt y tl st) = 3 from fun z => c3 ((nI_eq (b := 3) (by omega) (by decide)).mp z)), decide_eq_false]
    · rfl
    · intro ⟨z1, z2⟩
      apply c3
      unfold srt
      rw [if_pos z1, if_neg (by omega), if_neg (by omega), if_pos (by omega)]
theorem here6 {y : Nat → Nat} {tl st c : Nat} {σ : MS} (hc : c < 256) (hT : Tz y tl σ) (h14 : σ 22 14 = nI st) (hst : st ≤ tl) (h17 : σ 22 17 = 0) : X6_isHere σ (nI c) = some (bi (sgn y tl st c)) := by
  have htl := hT.1
  unfold X6_isHere sgn
  rw [if_pos h17, h14, byte6 hT (by omega), Option.bind_some]
  have hb := bt_eq (y := y) (tl := tl) (j := st) (c := c) (fun z => (hT.2.2 st z).2) hc
  by_cases e : st < tl ∧ y st = c
  · rw [if_pos (hb.mpr e), decide_eq_true e]; rfl
  · rw [if_neg (fun z => e (hb.mp z)), decide_eq_false e]; rfl
/-- how a step of both ends -/
def OUT (X0 : XS) (σ0 : MS) (y : Nat → Nat) (tl mi st : Nat) (A : Option (Int32 × XS)) (B : Option MS) : Prop := (∃ X' σ' st' bh', A = some (1, X') ∧ B = some σ' ∧ PS X0 σ0 y tl mi st' bh' X' σ' ∧ st ≤ st') ∨ (∃ X' σ', A = some (0, X') ∧ B = some σ' ∧ PF X0 σ0 y tl X' σ')
theorem OUT.le {X0 : XS} {σ0 : MS} {y : Nat → Nat} {tl mi st st2 : Nat} {A : Option (Int32 × XS)} {B : Option MS} (h : OUT X0 σ0 y tl mi st A B) (hl : st2 ≤ st) : OUT X0 σ0 y tl mi st2 A B := by
  rcases h with ⟨X', σ', st', bh', e1, e2, e3, e4⟩ | h
  · exact Or.inl ⟨X', σ', st', bh', e1, e2, e3, by omega⟩
  · exact Or.inr h
theorem OUT.zb {X0 : XS} {σ0 : MS} {y : Nat → Nat} {tl mi st : Nat} {A : Option (Int32 × XS)} {B : Option MS} (h : OUT X0 σ0 y tl mi st A B) : OUT X0 σ0 y tl mi st (A.bind fun q => zb q.1 (some (q.1, q.2))) B := by
  rcases h with ⟨X', σ', st', bh', rfl, e2, e3, e4⟩ | ⟨X', σ', rfl, e2, e3⟩
  · exact Or.inl ⟨X', σ', st', bh', by rw [Option.bind_some, zb_1], e2, e3, e4⟩
  · exact Or.inr ⟨X', σ', by rw [Option.bind_some, zb_0], e2, e3⟩
theorem neg_in {m : Nat} (h : m ≤ 9) : inr (-9) 9 (-(nI m)) = true ∧ inr (-9) 9 (nI m) = true := by
  have : ∀ m, m < 10 → inr (-9) 9 (-(nI m)) = true ∧ inr (-9) 9 (nI m) = true := by decide +kernel
  exact this m (by omega)
theorem okN_le {y : Nat → Nat} {tl st bh : Nat} {h : Nat} (hh : h < 1000) (e : okN y tl st bh (nI h) = true) : numv y tl st bh ≤ h := by
  have e1 := (of_decide_eq_true e).2
  rw [nI_toInt (by omega)] at e1
  omega
theorem view44 {X0 X : XS} {σ0 σ : MS} {y : Nat → Nat} {tl mi st bh p j : Nat} (h : PS X0 σ0 y tl mi st bh X σ) (hp : p < 8) (hj : j < 6) (b : Bool) (k : XS → Int32 → Int32 → Option (Int32 × XS)) : (∃ X' σ' x st' bh', X2_readViews_b44 k X (nI p) (nI j) (bi b) = k X' (nI p) (nI (j + 1)) ∧ X6_viewHere_b16 σ (bi b) = some (x, σ') ∧ σ' 22 17 = 0 ∧ PS X0 σ0 y tl mi st' bh' X' (su σ' 0 (7 + 8 * p + (2 + j)) x) ∧ st ≤ st') ∨ (∃ X' x σ', X2_readViews_b44 k X (nI p) (nI j) (bi b) = some (0, X') ∧ X6_viewHere_b16 σ (bi b) = some (x, σ') ∧ PF X0 σ0 y tl X' σ') := by
  have r5 := h.2.2.2.1.2.2.2
  have k1 := h.2.2.1
  rcases ps_num h (nI 9) with ⟨g1, g2, ρ', σ', st', bh', g3, g4, g5, g6, g7, g8⟩ | ⟨g1, σ', g2, g3, g4⟩
  · left
    have hle := okN_le (by decide) g2
    obtain ⟨n1, n2⟩ := neg_in hle
    have hs : Sq (X 1) (σ 0) := h.2.2.2.2.2.1
    obtain ⟨n, w, t, hi⟩ := h.2.2.2.2.2.2
    have step : ∀ x : Int32, inr (-9) 9 x = true → X2_readViews_b75 k X (nI p) (nI j) (nI p) (nI j) x = k (va_up (va_up X 1 (su (X 1) 2 (p * 6 + j) x)) 3 ρ') (nI p) (nI (j + 1)) ∧ PS X0 σ0 y tl mi st' bh' (va_up (va_up X 1 (su (X 1) 2 (p * 6 + j) x)) 3 ρ') (su σ' 0 (7 + 8 * p + (2 + j)) x) := by
      intro x hx
      constructor
      · unfold X2_readViews_b75
        have n13 : va_up X 1 (su (X 1) 2 (p * 6 + j) x) 3 = X 3 := rfl
        rw [setView4 hp hj, Option.bind_some, n13, g3, Option.bind_some, nI_1]
      · have e0 : va_up (va_up X 1 (su (X 1) 2 (p * 6 + j) x)) 3 ρ' = va_up (va_up X 3 ρ') 1 (su (X 1) 2 (p * 6 + j) x) := by
          funext c
          by_cases c1 : c = 1
          · subst c1; rfl
          · by_cases c3 : c = 3
            · subst c3; rfl
            · rw [va_up_ne _ _ c3, va_up_ne _ _ c1, va_up_ne _ _ c1, va_up_ne _ _ c3]
        have e1 : su σ' 0 (7 + 8 * p + (2 + j)) x = sr σ' 0 (upd (σ 0) (9 + 8 * p + j) x) := by
          rw [su_eq_sr, g7, show 7 + 8 * p + (2 + j) = 9 + 8 * p + j by omega]
        rw [e0, e1]
        exact ps_sq g5 (hs.uv x hp hj) (setV hi hp hj x hx)
    have h17 : σ' 22 17 = 0 := g5.2.2.2.2.1.2.2
    have e9 : (9 : Int32) = nI 9 := rfl
    cases b
    · obtain ⟨s1, s2⟩ := step _ n2
      refine ⟨_, σ', nI (numv y tl st bh), st', bh', ?_, ?_, h17, s2, by have := k1.1; omega⟩
      · unfold X2_readViews_b44
        rw [e9, g1, Option.bind_some, if_neg (by decide), if_pos (show bi false = 0 from rfl), r5]
        exact s1
      · unfold X6_viewHere_b16
        rw [e9, g4, Option.bind_some, if_pos (show bi false = 0 from rfl), g8]
    · obtain ⟨s1, s2⟩ := step _ n1
      refine ⟨_, σ', -(nI (numv y tl st bh)), st', bh', ?_, ?_, h17, s2, by have := k1.1; omega⟩
      · unfold X2_readViews_b44
        rw [e9, g1, Option.bind_some, if_neg (by decide), if_neg (show ¬ bi true = 0 by decide), r5]
        exact s1
      · unfold X6_viewHere_b16
        rw [e9, g4, Option.bind_some, if_neg (show ¬ bi true = 0 by decide), g8]
  · right
    have e9 : (9 : Int32) = nI 9 := rfl
    have e1 : X2_readViews_b44 k X (nI p) (nI j) (bi b) = some (0, X) := by
      unfold X2_readViews_b44
      rw [e9, g1, Option.bind_some, if_pos rfl]
    cases b
    · refine ⟨X, σ' 22 16, σ', e1, ?_, g3⟩
      unfold X6_viewHere_b16
      rw [e9, g2, Option.bind_some, if_pos (show bi false = 0 from rfl)]
    · refine ⟨X, -(σ' 22 16), σ', e1, ?_, g3⟩
      unfold X6_viewHere_b16
      rw [e9, g2, Option.bind_some, if_neg (show ¬ bi true = 0 by decide)]
theorem view35 {X0 X : XS} {σ0 σ : MS} {y : Nat → Nat} {tl mi st bh p j : Nat} (h : PS X0 σ0 y tl mi st bh X σ) (hp : p < 8) (hj : j < 6) (k : XS → Int32 → Int32 → Option (Int32 × XS)) : (∃ X' σ' x st' bh', X2_readViews_b35 k X (nI p) (nI j) (bi (sgn y tl st 45)) = k X' (nI p) (nI (j + 1)) ∧ X6_viewHere σ = some (x, σ') ∧ σ' 22 17 = 0 ∧ PS X0 σ0 y tl mi st' bh' X' (su σ' 0 (7 + 8 * p + (2 + j)) x) ∧ st ≤ st') ∨ (∃ X' x σ', X2_readViews_b35 k X (nI p) (nI j) (bi (sgn y tl st 45)) = some (0, X') ∧ X6_viewHere σ = some (x, σ') ∧ PF X0 σ0 y tl X' σ') := by
  obtain ⟨⟨f1, f2⟩, ⟨t1, t2⟩, k1, ⟨r3, r4, r2, r5⟩, ⟨s14, s15, s17⟩, hs, hii⟩ := id h
  have eh : X6_isHere σ 45 = some (bi (sgn y tl st 45)) := here6 (c := 45) (by decide) t2 s14 (by have := k1.1; have := k1.2.1; omega) s17
  unfold X2_readViews_b35 X6_viewHere
  rw [eh, Option.bind_some]
  cases hb : sgn y tl st 45
  · rw [if_pos (show bi false = 0 from rfl), if_pos (show bi false = 0 from rfl)]
    exact view44 h hp hj false k
  · rw [if_neg (show ¬ bi true = 0 by decide), if_neg (show ¬ bi true = 0 by decide), must1 s17]
    obtain ⟨ρ', σ1, st1, bh1, g1, g2, g3, g4, g5, g6⟩ := ps_adv h
    rw [g1, g2, Option.bind_some, Option.bind_some]
    have hk := k1.1
    rcases view44 g3 hp hj true k with ⟨X', σ', x, st', bh', a1, a2, a3, a4, a5⟩ | q
    · exact Or.inl ⟨X', σ', x, st', bh', a1, a2, a3, a4, by omega⟩
    · exact Or.inr q
theorem viewsL {X0 : XS} {σ0 : MS} {y : Nat → Nat} {tl mi p : Nat} (hp : p < 8) : ∀ (d j f5 f6 st bh : Nat) (X : XS) (σ : MS), j + d = 5 → d < f5 → d < f6 → PS X0 σ0 y tl mi st bh X σ → OUT X0 σ0 y tl mi st (X2_readViews_b35 (X2_readViews_b2 f5) X (nI p) (nI j) (bi (sgn y tl st 45))) (X6_personItem_b100 f6 σ (nI p) (nI j)) := by
  intro d
  induction d with
  | zero =>
    intro j f5 f6 st bh X σ hj h5 h6 h
    obtain ⟨g5, rfl⟩ : ∃ f, f5 = f + 1 := ⟨f5 - 1, by omega⟩
    obtain ⟨g6, rfl⟩ : ∃ f, f6 = f + 1 := ⟨f6 - 1, by omega⟩
    have ej : j = 5 := by omega
    subst ej
    rcases view35 h hp (show 5 < 6 by decide) (X2_readViews_b2 (g5 + 1)) with ⟨X', σ', x, st', bh', a1, a2, a3, a4, a5⟩ | ⟨X', x, σ', a1, a2, a3⟩
    · refine Or.inl ⟨X', _, st', bh', ?_, ?_, a4, a5⟩
      · rw [a1, X2_readViews_b2, if_pos (show (6 : Int32) ≤ nI (5 + 1) by decide)]
      · rw [X6_personItem_b100, a2, Option.bind_some, show (2 : Int32) = nI 2 from rfl, nI_add, place6, Option.bind_some, if_pos a3]
        unfold X6_personItem_b130
        rw [ai_n (by omega) (by decide), nI_clamp (by omega), if_pos (show (6 : Int32) ≤ nI 5 + 1 by decide)]
    · refine Or.inr ⟨X', _, a1, ?_, a3.s0 (upd (σ' 0) (7 + 8 * p + (2 + 5)) 0)⟩
      rw [X6_personItem_b100, a2, Option.bind_some, show (2 : Int32) = nI 2 from rfl, nI_add, place6, Option.bind_some, if_neg (show ¬ σ' 22 17 = 0 by rw [a3.2.2.1]; decide)]
      unfold X6_personItem_b130
      rw [ai_n (by omega) (by decide), nI_clamp (by omega), if_pos (show (6 : Int32) ≤ nI 5 + 1 by decide)]
      rfl
  | succ d ih =>
    intro j f5 f6 st bh X σ hj h5 h6 h
    obtain ⟨g5, rfl⟩ : ∃ f, f5 = f + 1 := ⟨f5 - 1, by omega⟩
    obtain ⟨g6, rfl⟩ : ∃ f, f6 = f + 1 := ⟨f6 - 1, by omega⟩
    have n6 : ¬ (6 : Int32) ≤ nI (j + 1) := fun z => by have := (nI_leI (a := 6) (by decide) (by omega)).mp z; omega
    rcases view35 h hp (show j < 6 by omega) (X2_readViews_b2 (g5 + 1)) with ⟨X', σ', x, st', bh', a1, a2, a3, a4, a5⟩ | ⟨X', x, σ', a1, a2, a3⟩
    · obtain ⟨⟨f1, f2⟩, ⟨t1, t2⟩, k1, ⟨r3, r4, r2, r5⟩, ⟨s14, s15, s17⟩, hs, hii⟩ := id a4
      have hst' : st' ≤ tl := by have := k1.1; have := k1.2.1; omega
      have htl := t1.1
      have e5 : X2_isSign (X' 3) 45 = some (bi (sgn y tl st' 45)) := sign5 (c := 45) (Or.inl rfl) t1 r3 r2 hst'
      have e6 : X6_isHere (su σ' 0 (7 + 8 * p + (2 + j)) x) 45 = some (bi (sgn y tl st' 45)) := here6 (c := 45) (by decide) t2 s14 hst' s17
      have i1 := (ih (j + 1) g5 g6 st' bh' X' _ (by omega) (by omega) (by omega) a4).le a5
      have ea : X2_readViews_b35 (X2_readViews_b2 (g5 + 1)) X (nI p) (nI j) (bi (sgn y tl st 45)) = if sgn y tl st' 45 then X2_readViews_b35 (X2_readViews_b2 g5) X' (nI p) (nI (j + 1)) (bi (sgn y tl st' 45)) else if srt y tl st' = 2 then X2_readViews_b35 (X2_readViews_b2 g5) X' (nI p) (nI (j + 1)) (bi (sgn y tl st' 45)) else some (1, X') := by
        rw [a1, X2_readViews_b2, if_neg n6, e5, Option.bind_some, if_neg (nI_nle (by omega) (by omega)), r2]
        cases sgn y tl st' 45
        · rw [if_pos (show bi false = 0 from rfl)]
          have := srt_lt y tl st'
          by_cases c2 : srt y tl st' = 2
          · rw [if_pos (show nI (srt y tl st') = 2 by rw [c2]; rfl), if_pos c2]; rfl
          · rw [if_neg (show ¬ nI (srt y tl st') = 2 from fun z => c2 ((nI_eq (b := 2) (by omega) (by decide)).mp z)), if_neg c2]; rfl
        · rw [if_neg (show ¬ bi true = 0 by decide)]; rfl
      have eb : X6_personItem_b100 (g6 + 1) σ (nI p) (nI j) = if sgn y tl st' 45 then X6_personItem_b100 g6 (su σ' 0 (7 + 8 * p + (2 + j)) x) (nI p) (nI (j + 1)) else if srt y tl st' = 2 then X6_personItem_b100 g6 (su σ' 0 (7 + 8 * p + (2 + j)) x) (nI p) (nI (j + 1)) else some (su σ' 0 (7 + 8 * p + (2 + j)) x) := by
        rw [X6_personItem_b100, a2, Option.bind_some, show (2 : Int32) = nI 2 from rfl, nI_add, place6, Option.bind_some, if_pos a3]
        unfold X6_personItem_b130
        rw [ai_n (by omega) (by decide), nI_clamp (by omega), nI_1, if_neg n6, if_pos s17, e6, Option.bind_some]
        cases sgn y tl st' 45
        · rw [if_pos (show bi false = 0 from rfl), s14, byte6 t2 (by omega), Option.bind_some, digit6 (fun z => (t2.2.2 st' z).2), Option.bind_some, if_bi]
          by_cases c2 : srt y tl st' = 2
          · rw [if_pos (decide_eq_true c2), if_pos c2]; rfl
          · rw [if_neg (by rw [decide_eq_false c2]; decide), if_neg c2]; rfl
        · rw [if_neg (show ¬ bi true = 0 by decide)]; rfl
      rw [ea, eb]
      by_cases cs : sgn y tl st' 45 = true
      · rw [if_pos cs, if_pos cs]; exact i1
      · rw [if_neg cs, if_neg cs]
        by_cases c2 : srt y tl st' = 2
        · rw [if_pos c2, if_pos c2]; exact i1
        · rw [if_neg c2, if_neg c2]
          exact Or.inl ⟨X', _, st', bh', rfl, rfl, a4, a5⟩
    · refine Or.inr ⟨X', _, a1, ?_, a3.s0 (upd (σ' 0) (7 + 8 * p + (2 + j)) 0)⟩
      have n17 : ¬ su σ' 0 (7 + 8 * p + (2 + j)) 0 22 17 = 0 := by
        show ¬ σ' 22 17 = 0
        rw [a3.2.2.1]; decide
      rw [X6_personItem_b100, a2, Option.bind_some, show (2 : Int32) = nI 2 from rfl, nI_add, place6, Option.bind_some, if_neg (show ¬ σ' 22 17 = 0 by rw [a3.2.2.1]; decide)]
      unfold X6_personItem_b130
      rw [ai_n (by omega) (by decide), nI_clamp (by omega), nI_1, if_neg n6, if_neg n17]
      rfl
