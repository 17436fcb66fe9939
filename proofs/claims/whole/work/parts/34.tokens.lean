/-! PURE 24: tokens in both -/
theorem bind_st {α : Type} (o : Option α) : (o.bind fun q => some q) = o := by cases o <;> rfl
/-- the tape: y its bytes, tl how many -/
def Ty (y : Nat → Nat) (tl : Nat) (ρ : MS) : Prop := tl ≤ 120 ∧ ρ 6 1 = nI tl ∧ ∀ j, j < tl → ρ 0 j = nI (y j) ∧ y j < 256
def Tz (y : Nat → Nat) (tl : Nat) (σ : MS) : Prop := tl ≤ 120 ∧ σ 22 13 = nI tl ∧ ∀ j, j < tl → σ 12 j = nI (y j) ∧ y j < 256
theorem Ty.su {y : Nat → Nat} {tl : Nat} {ρ : MS} (h : Ty y tl ρ) {j : Nat} (hj : j ≠ 1) (x : Int32) : Ty y tl (su ρ 6 j x) := by
  refine ⟨h.1, ?_, fun i hi => ?_⟩
  · rw [su_at, if_neg (by omega)]; exact h.2.1
  · rw [su_at, if_neg (by omega)]; exact h.2.2 i hi
theorem Tz.su {y : Nat → Nat} {tl : Nat} {σ : MS} (h : Tz y tl σ) {j : Nat} (hj : j ≠ 13) (x : Int32) : Tz y tl (su σ 22 j x) := by
  refine ⟨h.1, ?_, fun i hi => ?_⟩
  · rw [su_at, if_neg (by omega)]; exact h.2.1
  · rw [su_at, if_neg (by omega)]; exact h.2.2 i hi
def srt (y : Nat → Nat) (tl j : Nat) : Nat := if j < tl then (if 97 ≤ y j ∧ y j ≤ 122 then 1 else if 48 ≤ y j ∧ y j ≤ 57 then 2 else if y j = 59 ∨ y j = 45 then 3 else 4) else 0
def bt (y : Nat → Nat) (tl j : Nat) : Int32 := if j < tl then nI (y j) else -1
theorem sort5 {y : Nat → Nat} {tl j : Nat} {ρ : MS} (h : Ty y tl ρ) (hj : j < 1000) : X2_sortAt ρ (nI j) = some (nI (srt y tl j)) := by
  have htl := h.1
  unfold X2_sortAt srt
  rw [h.2.1]
  by_cases c : j < tl
  · obtain ⟨y1, y2⟩ := h.2.2 j c
    rw [if_pos (nI_lt c (by omega)), if_pos c, ai_n (by omega) (by decide), nI_clamp (by omega), y1]
    have b45 : X2_sortAt_b45 ρ (nI (y j)) = some (nI (if y j = 59 ∨ y j = 45 then 3 else 4)) := by
      unfold X2_sortAt_b45
      rw [show (59 : Int32) = nI 59 from rfl, show (45 : Int32) = nI 45 from rfl]
      by_cases e1 : y j = 59
      · rw [if_pos (by rw [e1]), if_pos (Or.inl e1)]; rfl
      · rw [if_neg (fun z => e1 ((nI_eq (b := 59) (by omega) (by decide)).mp z))]
        by_cases e2 : y j = 45
        · rw [if_pos (by rw [e2]), if_pos (Or.inr e2)]; rfl
        · rw [if_neg (fun z => e2 ((nI_eq (b := 45) (by omega) (by decide)).mp z)), if_neg (by omega)]; rfl
    have b31 : X2_sortAt_b31 ρ (nI (y j)) = some (nI (if 48 ≤ y j ∧ y j ≤ 57 then 2 else if y j = 59 ∨ y j = 45 then 3 else 4)) := by
      unfold X2_sortAt_b31
      rw [b45, show (48 : Int32) = nI 48 from rfl, show (57 : Int32) = nI 57 from rfl]
      by_cases e1 : y j < 48
      · rw [if_pos ((nI_ltI (b := 48) (by omega) (by decide)).mpr e1), if_neg (show ¬ (48 ≤ y j ∧ y j ≤ 57) by omega)]
      · rw [if_neg (fun z => e1 ((nI_ltI (b := 48) (by omega) (by decide)).mp z))]
        by_cases e2 : 57 < y j
        · rw [if_pos ((nI_ltI (a := 57) (by decide) (by omega)).mpr e2), if_neg (show ¬ (48 ≤ y j ∧ y j ≤ 57) by omega)]
        · rw [if_neg (fun z => e2 ((nI_ltI (a := 57) (by decide) (by omega)).mp z)), if_pos (show 48 ≤ y j ∧ y j ≤ 57 by omega)]; rfl
    rw [b31, show (97 : Int32) = nI 97 from rfl, show (122 : Int32) = nI 122 from rfl]
    by_cases e1 : y j < 97
    · rw [if_pos ((nI_ltI (b := 97) (by omega) (by decide)).mpr e1), if_neg (show ¬ (97 ≤ y j ∧ y j ≤ 122) by omega)]
    · rw [if_neg (fun z => e1 ((nI_ltI (b := 97) (by omega) (by decide)).mp z))]
      by_cases e2 : 122 < y j
      · rw [if_pos ((nI_ltI (a := 122) (by decide) (by omega)).mpr e2), if_neg (show ¬ (97 ≤ y j ∧ y j ≤ 122) by omega)]
      · rw [if_neg (fun z => e2 ((nI_ltI (a := 122) (by decide) (by omega)).mp z)), if_pos (show 97 ≤ y j ∧ y j ≤ 122 by omega)]; rfl
  · rw [if_neg (nI_nlt (by omega) (by omega)), if_neg c]; rfl
theorem byte6 {y : Nat → Nat} {tl j : Nat} {σ : MS} (h : Tz y tl σ) (hj : j < 1000) : X6_byteAt σ (nI j) = some (bt y tl j) := by
  have htl := h.1
  unfold X6_byteAt bt
  rw [h.2.1, le_nI (by omega) (by omega)]
  by_cases c : j < tl
  · rw [if_neg (by omega), if_pos c, ai_n (by omega) (by decide), nI_clamp (by omega), (h.2.2 j c).1]
  · rw [if_pos (by omega), if_neg c]
theorem inr_n {lo hi v : Nat} (hv : v < 2 ^ 31) : inr (lo : Int) (hi : Int) (nI v) = decide (lo ≤ v ∧ v ≤ hi) := by
  unfold inr
  rw [nI_toInt hv]
  by_cases c : lo ≤ v ∧ v ≤ hi
  · rw [decide_eq_true c]; exact decide_eq_true (by omega)
  · rw [decide_eq_false c]; exact decide_eq_false (by omega)
theorem letter6 {y : Nat → Nat} {tl j : Nat} (hy : j < tl → y j < 256) : X6_isLetter (bt y tl j) = some (bi (decide (srt y tl j = 1))) := by
  unfold X6_isLetter
  rw [in32, Option.bind_some, zb_b]
  congr 2
  have e : inr (97 : Int64).toInt (122 : Int64).toInt (bt y tl j) = inr ((97 : Nat) : Int) ((122 : Nat) : Int) (bt y tl j) := rfl
  rw [e]
  unfold bt srt
  by_cases c : j < tl
  · have := hy c
    rw [if_pos c, if_pos c, inr_n (by omega)]
    by_cases c1 : 97 ≤ y j ∧ y j ≤ 122
    · rw [if_pos c1, decide_eq_true c1]; rfl
    · rw [if_neg c1, decide_eq_false c1]
      split
      · rfl
      · split <;> rfl
  · rw [if_neg c, if_neg c]; rfl
theorem digit6 {y : Nat → Nat} {tl j : Nat} (hy : j < tl → y j < 256) : X6_isDigit (bt y tl j) = some (bi (decide (srt y tl j = 2))) := by
  unfold X6_isDigit
  rw [in32, Option.bind_some, zb_b]
  congr 2
  have e : inr (48 : Int64).toInt (57 : Int64).toInt (bt y tl j) = inr ((48 : Nat) : Int) ((57 : Nat) : Int) (bt y tl j) := rfl
  rw [e]
  unfold bt srt
  by_cases c : j < tl
  · have := hy c
    rw [if_pos c, if_pos c, inr_n (by omega)]
    by_cases c1 : 97 ≤ y j ∧ y j ≤ 122
    · rw [if_pos c1, decide_eq_false (by omega)]; rfl
    · rw [if_neg c1]
      by_cases c2 : 48 ≤ y j ∧ y j ≤ 57
      · rw [if_pos c2, decide_eq_true c2]; rfl
      · rw [if_neg c2, decide_eq_false c2]
        split <;> rfl
  · rw [if_neg c, if_neg c]; rfl
theorem bt_eq {y : Nat → Nat} {tl j c : Nat} (hy : j < tl → y j < 256) (hc : c < 256) : bt y tl j = nI c ↔ j < tl ∧ y j = c := by
  unfold bt
  by_cases h : j < tl
  · have := hy h
    rw [if_pos h, nI_eq (by omega) (by omega)]
    exact ⟨fun e => ⟨h, e⟩, fun e => e.2⟩
  · rw [if_neg h]
    constructor
    · intro e
      have e1 := congrArg Int32.toInt e
      rw [nI_toInt (by omega)] at e1
      have e2 : (-1 : Int32).toInt = -1 := by decide
      omega
    · intro e; exact absurd e.1 h
/-- blanks skipped -/
def skp (y : Nat → Nat) : Nat → Nat → Nat
  | 0, j => j
  | d + 1, j => if y j = 32 then skp y d (j + 1) else j
theorem skp_le (y : Nat → Nat) : ∀ d j, j ≤ skp y d j ∧ skp y d j ≤ j + d := by
  intro d
  induction d with
  | zero => intro j; exact ⟨Nat.le_refl _, Nat.le_refl _⟩
  | succ d ih =>
    intro j
    unfold skp
    by_cases c : y j = 32
    · rw [if_pos c]; have := ih (j + 1); omega
    · rw [if_neg c]; omega
def xt (y : Nat → Nat) (tl c : Nat) : Nat → Nat → Nat
  | 0, k => k
  | d + 1, k => if srt y tl k = c then xt y tl c d (k + 1) else k
theorem xt_le (y : Nat → Nat) (tl c : Nat) : ∀ d k, k ≤ xt y tl c d k ∧ xt y tl c d k ≤ k + d ∧ ∀ i, k ≤ i → i < xt y tl c d k → srt y tl i = c := by
  intro d
  induction d with
  | zero => intro k; exact ⟨Nat.le_refl _, Nat.le_refl _, fun i h1 h2 => by unfold xt at h2; omega⟩
  | succ d ih =>
    intro k
    unfold xt
    by_cases e : srt y tl k = c
    · rw [if_pos e]
      obtain ⟨h1, h2, h3⟩ := ih (k + 1)
      refine ⟨by omega, by omega, fun i q1 q2 => ?_⟩
      by_cases e1 : i = k
      · rw [e1]; exact e
      · exact h3 i (by omega) q2
    · rw [if_neg e]
      exact ⟨Nat.le_refl _, by omega, fun i q1 q2 => by omega⟩
def nmF (y : Nat → Nat) : Nat → Nat → Nat → Nat
  | 0, _, v => v
  | d + 1, k, v => if v ≤ 999 then nmF y d (k + 1) (10 * v + y k - 48) else nmF y d (k + 1) v
theorem nmF_big (y : Nat → Nat) : ∀ d k v, 999 < v → nmF y d k v = v := by
  intro d
  induction d with
  | zero => intro k v _; rfl
  | succ d ih =>
    intro k v h
    unfold nmF
    rw [if_neg (by omega)]
    exact ih (k + 1) v h
theorem srt_2 {y : Nat → Nat} {tl k : Nat} (h : srt y tl k = 2) : k < tl ∧ 48 ≤ y k ∧ y k ≤ 57 := by
  unfold srt at h
  by_cases c : k < tl
  · rw [if_pos c] at h
    by_cases c1 : 97 ≤ y k ∧ y k ≤ 122
    · rw [if_pos c1] at h; cases h
    · rw [if_neg c1] at h
      by_cases c2 : 48 ≤ y k ∧ y k ≤ 57
      · exact ⟨c, c2⟩
      · rw [if_neg c2] at h
        split at h <;> cases h
  · rw [if_neg c] at h; cases h
theorem srt_1 {y : Nat → Nat} {tl k : Nat} (h : srt y tl k = 1) : k < tl ∧ 97 ≤ y k ∧ y k ≤ 122 := by
  unfold srt at h
  by_cases c : k < tl
  · rw [if_pos c] at h
    by_cases c1 : 97 ≤ y k ∧ y k ≤ 122
    · exact ⟨c, c1⟩
    · rw [if_neg c1] at h
      by_cases c2 : 48 ≤ y k ∧ y k ≤ 57
      · rw [if_pos c2] at h; cases h
      · rw [if_neg c2] at h
        split at h <;> cases h
  · rw [if_neg c] at h; cases h
theorem srt_0 {y : Nat → Nat} {tl k : Nat} : srt y tl k = 0 ↔ tl ≤ k := by
  unfold srt
  by_cases c : k < tl
  · rw [if_pos c]
    constructor
    · intro h
      split at h
      · cases h
      · split at h
        · cases h
        · split at h <;> cases h
    · intro h; omega
  · rw [if_neg c]
    exact ⟨fun _ => by omega, fun _ => rfl⟩
theorem srt_lt (y : Nat → Nat) (tl k : Nat) : srt y tl k < 5 := by
  unfold srt
  split
  · split
    · decide
    · split
      · decide
      · split <;> decide
  · decide
theorem nmF_lt (y : Nat → Nat) (tl : Nat) : ∀ d k v, v ≤ 9999 → (∀ i, k ≤ i → i < k + d → srt y tl i = 2) → nmF y d k v ≤ 9999 := by
  intro d
  induction d with
  | zero => intro k v h _; exact h
  | succ d ih =>
    intro k v h hs
    obtain ⟨_, h1, h2⟩ := srt_2 (hs k (Nat.le_refl _) (by omega))
    unfold nmF
    split
    · exact ih (k + 1) _ (by omega) (fun i q1 q2 => hs i (by omega) (by omega))
    · exact ih (k + 1) v h (fun i q1 q2 => hs i (by omega) (by omega))
theorem num5 {y : Nat → Nat} {tl bh : Nat} : ∀ (d k v f : Nat) (ρ : MS), Ty y tl ρ → k + d = bh → bh ≤ tl → d < f → v ≤ 9999 → ρ 6 4 = nI bh → ρ 6 2 = nI 2 → ρ 6 5 = nI v → (∀ i, k ≤ i → i < bh → srt y tl i = 2) → X2_readNumber_b10 f ρ (nI k) = some (su ρ 6 5 (nI (nmF y d k v))) := by
  intro d
  induction d with
  | zero =>
    intro k v f ρ hT hk hb hf hv h4 h2 h5 hs
    have htl := hT.1
    obtain ⟨g, rfl⟩ : ∃ g, f = g + 1 := ⟨f - 1, by omega⟩
    rw [X2_readNumber_b10, h4, le_nI (by omega) (by omega), if_pos (by omega), nmF, ← h5, su_self]
  | succ d ih =>
    intro k v f ρ hT hk hb hf hv h4 h2 h5 hs
    have htl := hT.1
    obtain ⟨g, rfl⟩ : ∃ g, f = g + 1 := ⟨f - 1, by omega⟩
    obtain ⟨s1, s2, s3⟩ := srt_2 (hs k (Nat.le_refl _) (by omega))
    rw [X2_readNumber_b10, h4, le_nI (by omega) (by omega), if_neg (by omega), h2, if_pos (show nI 2 = 2 from rfl), h5, nmF]
    by_cases c : v ≤ 999
    · have nc : ¬ (999 : Int32) < nI v := fun z => by have := (nI_ltI (a := 999) (by decide) (by omega)).mp z; omega
      have ev : (10 : Int32) * nI v + ρ 0 k - 48 = nI (10 * v + y k - 48) := by
        rw [(hT.2.2 k s1).1, show (10 : Int32) = nI 10 from rfl, pk_mul, nI_add, show (48 : Int32) = nI 48 from rfl, pk_sub (by omega)]
      rw [if_neg nc, if_pos c, ai_n (by omega) (by decide), nI_clamp (by omega), ev, nI_1]
      rw [ih (k + 1) (10 * v + y k - 48) g _ (hT.su (by decide) _) (by omega) hb (by omega) (by omega) (by rw [su_at, if_neg (by decide)]; exact h4) (by rw [su_at, if_neg (by decide)]; exact h2) (by rw [su_at, if_pos ⟨rfl, rfl⟩]) (fun i q1 q2 => hs i (by omega) q2), su_su]
    · have nc : (999 : Int32) < nI v := (nI_ltI (a := 999) (by decide) (by omega)).mpr (by omega)
      rw [if_pos nc, if_neg c, nmF_big y d (k + 1) v (by omega), ← h5, su_self]
def numv (y : Nat → Nat) (tl st bh : Nat) : Nat := if srt y tl st = 2 then nmF y (bh - st) st 0 else 0
theorem readN5 {y : Nat → Nat} {tl st bh : Nat} {ρ : MS} (hT : Ty y tl ρ) (h3 : ρ 6 3 = nI st) (h4 : ρ 6 4 = nI bh) (h2 : ρ 6 2 = nI (srt y tl st)) (hb : bh ≤ tl) (hsb : st ≤ bh) (hs : srt y tl st = 2 → ∀ i, st ≤ i → i < bh → srt y tl i = 2) : X2_readNumber ρ = some (su ρ 6 5 (nI (numv y tl st bh))) := by
  have htl := hT.1
  unfold X2_readNumber numv
  have e3 : su ρ 6 5 0 6 3 = nI st := by rw [su_at, if_neg (by decide)]; exact h3
  rw [e3]
  by_cases c : srt y tl st = 2
  · rw [if_pos c]
    rw [num5 (y := y) (tl := tl) (bh := bh) (bh - st) st 0 FU (su ρ 6 5 0) (hT.su (by decide) _) (by omega) hb (FU_lt (by omega)) (by omega) (by rw [su_at, if_neg (by decide)]; exact h4) (by rw [su_at, if_neg (by decide), h2, c]) (by rw [su_at, if_pos ⟨rfl, rfl⟩]; rfl) (hs c), su_su]
  · rw [if_neg c]
    show X2_readNumber_b10 (1999 + 1) (su ρ 6 5 0) (nI st) = _
    have e2 : ¬ su ρ 6 5 0 6 2 = 2 := by
      rw [su_at, if_neg (by decide), h2]
      exact fun z => c ((nI_eq (b := 2) (by have := srt_lt y tl st; omega) (by decide)).mp z)
    rw [X2_readNumber_b10, if_neg e2]
    split <;> rfl
theorem adv98 {y : Nat → Nat} {tl st c : Nat} (hc : c = 1 ∨ c = 2) (hst : srt y tl st = c) : ∀ (d k f : Nat) (ρ : MS), Ty y tl ρ → k + d = tl → d < f → st ≤ k → ρ 6 3 = nI st → ρ 6 4 = nI k → ρ 6 2 = nI c → (∀ i, st ≤ i → i < k → srt y tl i = c) → X2_advance_b98 f ρ = some (su (su ρ 6 4 (nI (xt y tl c d k))) 6 5 (nI (numv y tl st (xt y tl c d k)))) := by
  have fin : ∀ (k : Nat) (ρ : MS), Ty y tl ρ → k ≤ tl → st ≤ k → ρ 6 3 = nI st → ρ 6 4 = nI k → ρ 6 2 = nI c → (∀ i, st ≤ i → i < k → srt y tl i = c) → ((X2_readNumber ρ).bind fun s3 => some s3) = some (su (su ρ 6 4 (nI k)) 6 5 (nI (numv y tl st k))) := by
    intro k ρ hT hk hsk h3 h4 h2 hs
    have e4 : su ρ 6 4 (nI k) = ρ := by rw [← h4, su_self]
    rw [readN5 hT h3 h4 (by rw [h2, hst]) hk hsk (fun e i q1 q2 => by rw [hs i q1 q2, ← hst, e]), e4]
    rfl
  intro d
  induction d with
  | zero =>
    intro k f ρ hT hk hf hsk h3 h4 h2 hs
    have htl := hT.1
    obtain ⟨g, rfl⟩ : ∃ g, f = g + 1 := ⟨f - 1, by omega⟩
    rw [X2_advance_b98, hT.2.1, h4, le_nI (by omega) (by omega), if_pos (by omega)]
    exact fin k ρ hT (by omega) hsk h3 h4 h2 hs
  | succ d ih =>
    intro k f ρ hT hk hf hsk h3 h4 h2 hs
    have htl := hT.1
    obtain ⟨g, rfl⟩ : ∃ g, f = g + 1 := ⟨f - 1, by omega⟩
    rw [X2_advance_b98, hT.2.1, h4, le_nI (by omega) (by omega), if_neg (by omega), sort5 hT (by omega), Option.bind_some, h2, xt]
    by_cases e : srt y tl k = c
    · have h3' : su ρ 6 4 (nI (k + 1)) 6 3 = nI st := by rw [su_at, if_neg (by decide)]; exact h3
      have h4' : su ρ 6 4 (nI (k + 1)) 6 4 = nI (k + 1) := by rw [su_at, if_pos ⟨rfl, rfl⟩]
      have h2' : su ρ 6 4 (nI (k + 1)) 6 2 = nI c := by rw [su_at, if_neg (by decide)]; exact h2
      rw [if_pos (by rw [e]), if_pos e, nI_1, ih (k + 1) g _ (hT.su (by decide) _) (by omega) (by omega) (by omega) h3' h4' h2' (fun i q1 q2 => by
        by_cases e1 : i = k
        · rw [e1]; exact e
        · exact hs i q1 (by omega)), su_su]
    · have := srt_lt y tl k
      rw [if_neg (fun z => e ((nI_eq (by omega) (by omega)).mp z)), if_neg e]
      exact fin k ρ hT (by omega) hsk h3 h4 h2 hs
def tkB (y : Nat → Nat) (tl st : Nat) : Nat := if srt y tl st = 0 then st else if srt y tl st = 1 then xt y tl 1 (tl - (st + 1)) (st + 1) else if srt y tl st = 2 then xt y tl 2 (tl - (st + 1)) (st + 1) else st + 1
def tkS (y : Nat → Nat) (tl bh : Nat) : Nat := skp y (tl - bh) bh
theorem tkS_le {y : Nat → Nat} {tl bh : Nat} (h : bh ≤ tl) : bh ≤ tkS y tl bh ∧ tkS y tl bh ≤ tl := by
  unfold tkS
  have := skp_le y (tl - bh) bh
  omega
theorem tkB_le {y : Nat → Nat} {tl st : Nat} (h : st ≤ tl) : st ≤ tkB y tl st ∧ tkB y tl st ≤ tl ∧ (st < tl → st < tkB y tl st) ∧ (srt y tl st = 1 ∨ srt y tl st = 2 → ∀ i, st ≤ i → i < tkB y tl st → srt y tl i = srt y tl st) := by
  have key : ∀ c, srt y tl st = c → srt y tl st ≠ 0 → st ≤ xt y tl c (tl - (st + 1)) (st + 1) ∧ xt y tl c (tl - (st + 1)) (st + 1) ≤ tl ∧ (st < tl → st < xt y tl c (tl - (st + 1)) (st + 1)) ∧ (srt y tl st = 1 ∨ srt y tl st = 2 → ∀ i, st ≤ i → i < xt y tl c (tl - (st + 1)) (st + 1) → srt y tl i = srt y tl st) := by
    intro c hc h0
    have hlt : st < tl := by
      refine Nat.lt_of_not_le (fun z => h0 (srt_0.mpr z))
    obtain ⟨x1, x2, x3⟩ := xt_le y tl c (tl - (st + 1)) (st + 1)
    refine ⟨by omega, by omega, fun _ => by omega, fun _ i q1 q2 => ?_⟩
    by_cases e : i = st
    · rw [e]
    · rw [x3 i (by omega) q2, hc]
  unfold tkB
  by_cases c0 : srt y tl st = 0
  · rw [if_pos c0]
    have := srt_0.mp c0
    exact ⟨Nat.le_refl _, h, fun z => by omega, fun _ i q1 q2 => by omega⟩
  · rw [if_neg c0]
    by_cases c1 : srt y tl st = 1
    · rw [if_pos c1]; exact key 1 c1 c0
    · rw [if_neg c1]
      by_cases c2 : srt y tl st = 2
      · rw [if_pos c2]; exact key 2 c2 c0
      · rw [if_neg c2]
        have hlt : st < tl := Nat.lt_of_not_le (fun z => c0 (srt_0.mpr z))
        exact ⟨by omega, by omega, fun _ => by omega, fun z => by omega⟩
theorem adv79 {y : Nat → Nat} {tl st : Nat} {ρ : MS} (hT : Ty y tl ρ) (hst : st ≤ tl) (h3 : ρ 6 3 = nI st) : X2_advance_b46 ρ = some (su (su (su ρ 6 2 (nI (srt y tl st))) 6 4 (nI (tkB y tl st))) 6 5 (nI (numv y tl st (tkB y tl st)))) := by
  have htl := hT.1
  have hlt5 := srt_lt y tl st
  unfold X2_advance_b46
  rw [h3, sort5 hT (by omega), Option.bind_some]
  have e2 : su ρ 6 2 (nI (srt y tl st)) 6 2 = nI (srt y tl st) := by rw [su_at, if_pos ⟨rfl, rfl⟩]
  have e3 : su ρ 6 2 (nI (srt y tl st)) 6 3 = nI st := by rw [su_at, if_neg (by decide)]; exact h3
  rw [e2, e3]
  have f2 : ∀ x, su (su ρ 6 2 (nI (srt y tl st))) 6 4 x 6 2 = nI (srt y tl st) := fun x => by rw [su_at, if_neg (by decide)]; exact e2
  have f3 : ∀ x, su (su ρ 6 2 (nI (srt y tl st))) 6 4 x 6 3 = nI st := fun x => by rw [su_at, if_neg (by decide)]; exact e3
  have f4 : ∀ x, su (su ρ 6 2 (nI (srt y tl st))) 6 4 x 6 4 = x := fun x => by rw [su_at, if_pos ⟨rfl, rfl⟩]
  have fT : ∀ x, Ty y tl (su (su ρ 6 2 (nI (srt y tl st))) 6 4 x) := fun x => (hT.su (by decide) _).su (by decide) _
  unfold tkB
  by_cases c0 : srt y tl st = 0
  · have := srt_0.mp c0
    have z1 : ¬ nI (srt y tl st) = 1 := by rw [c0]; decide
    have z2 : ¬ nI (srt y tl st) = 2 := by rw [c0]; decide
    rw [if_pos (by rw [c0]; rfl), if_pos c0]
    unfold X2_advance_b79
    rw [f2, if_neg z1, if_neg z2, bind_st, readN5 (fT _) (f3 _) (f4 _) (f2 _) (by omega) (Nat.le_refl _) (fun e => by omega)]
  · have hlt : st < tl := Nat.lt_of_not_le (fun z => c0 (srt_0.mpr z))
    rw [if_neg (fun z => c0 ((nI_eq0 (by omega)).mp z)), if_neg c0, nI_1]
    unfold X2_advance_b79
    rw [f2]
    by_cases c1 : srt y tl st = 1
    · rw [if_pos (by rw [c1]; rfl), if_pos c1, adv98 (st := st) (Or.inl rfl) c1 (tl - (st + 1)) (st + 1) FU _ (fT _) (by omega) (FU_lt (by omega)) (by omega) (f3 _) (f4 _) (by rw [f2, c1]) (fun i q1 q2 => by rw [show i = st by omega]; exact c1), su_su]
    · rw [if_neg (fun z => c1 ((nI_eq1 (by omega)).mp z)), if_neg c1]
      by_cases c2 : srt y tl st = 2
      · rw [if_pos (by rw [c2]; rfl), if_pos c2, adv98 (st := st) (Or.inr rfl) c2 (tl - (st + 1)) (st + 1) FU _ (fT _) (by omega) (FU_lt (by omega)) (by omega) (f3 _) (f4 _) (by rw [f2, c2]) (fun i q1 q2 => by rw [show i = st by omega]; exact c2), su_su]
      · rw [if_neg (show ¬ nI (srt y tl st) = 2 from fun z => c2 ((nI_eq (b := 2) (by omega) (by decide)).mp z)), if_neg c2, bind_st, readN5 (fT _) (f3 _) (f4 _) (f2 _) (by omega) (by omega) (fun e => absurd e c2)]
theorem adv8 {y : Nat → Nat} {tl : Nat} : ∀ (d j f : Nat) (ρ : MS), Ty y tl ρ → j + d = tl → d < f → ρ 6 3 = nI j → X2_advance_b8 f ρ = X2_advance_b46 (su ρ 6 3 (nI (skp y d j))) := by
  intro d
  induction d with
  | zero =>
    intro j f ρ hT hj hf h3
    have htl := hT.1
    obtain ⟨g, rfl⟩ : ∃ g, f = g + 1 := ⟨f - 1, by omega⟩
    rw [X2_advance_b8, hT.2.1, h3, le_nI (by omega) (by omega), if_pos (by omega), skp, ← h3, su_self]
  | succ d ih =>
    intro j f ρ hT hj hf h3
    have htl := hT.1
    obtain ⟨g, rfl⟩ : ∃ g, f = g + 1 := ⟨f - 1, by omega⟩
    obtain ⟨y1, y2⟩ := hT.2.2 j (by omega)
    rw [X2_advance_b8, hT.2.1, h3, le_nI (by omega) (by omega), if_neg (by omega), ai_n (by omega) (by decide), nI_clamp (by omega), y1, skp]
    by_cases e : y j = 32
    · rw [if_pos (by rw [e]; rfl), if_pos e, nI_1, ih (j + 1) g _ (hT.su (by decide) _) (by omega) (by omega) (by rw [su_at, if_pos ⟨rfl, rfl⟩]), su_su]
    · rw [if_neg (show ¬ nI (y j) = 32 from fun z => e ((nI_eq (b := 32) (by omega) (by decide)).mp z)), if_neg e, ← h3, su_self]
theorem adv5 {y : Nat → Nat} {tl bh : Nat} {ρ : MS} (hT : Ty y tl ρ) (hb : bh ≤ tl) (h4 : ρ 6 4 = nI bh) : ∃ ρ', X2_advance ρ = some ρ' ∧ Ty y tl ρ' ∧ ρ' 6 3 = nI (tkS y tl bh) ∧ ρ' 6 4 = nI (tkB y tl (tkS y tl bh)) ∧ ρ' 6 2 = nI (srt y tl (tkS y tl bh)) ∧ ρ' 6 5 = nI (numv y tl (tkS y tl bh) (tkB y tl (tkS y tl bh))) := by
  have htl := hT.1
  have hS := tkS_le (y := y) hb
  unfold X2_advance
  rw [h4, adv8 (tl - bh) bh FU (su ρ 6 3 (nI bh)) (hT.su (by decide) _) (by omega) (FU_lt (by omega)) (by rw [su_at, if_pos ⟨rfl, rfl⟩]), su_su]
  rw [adv79 (st := tkS y tl bh) (hT.su (by decide) _) hS.2 (by rw [su_at, if_pos ⟨rfl, rfl⟩]; rfl)]
  refine ⟨_, rfl, (((hT.su (by decide) _).su (by decide) _).su (by decide) _).su (by decide) _, ?_, ?_, ?_, ?_⟩
  · rw [su_at, if_neg (by decide), su_at, if_neg (by decide), su_at, if_neg (by decide), su_at, if_pos ⟨rfl, rfl⟩]; rfl
  · rw [su_at, if_neg (by decide), su_at, if_pos ⟨rfl, rfl⟩]
  · rw [su_at, if_neg (by decide), su_at, if_neg (by decide), su_at, if_pos ⟨rfl, rfl⟩]
  · rw [su_at, if_pos ⟨rfl, rfl⟩]
/-! the reference's tokens -/
theorem tok1 {y : Nat → Nat} {tl : Nat} : ∀ (d k f : Nat) (σ : MS), Tz y tl σ → k + d = tl → d < f → σ 22 15 = nI k → X6_token_b86 f σ 1 0 = some (su σ 22 15 (nI (xt y tl 1 d k))) := by
  intro d
  induction d with
  | zero =>
    intro k f σ hT hk hf h15
    have htl := hT.1
    obtain ⟨g, rfl⟩ : ∃ g, f = g + 1 := ⟨f - 1, by omega⟩
    have e0 : srt y tl k = 0 := srt_0.mpr (by omega)
    rw [X6_token_b86, if_neg (by decide), h15, byte6 hT (by omega), Option.bind_some, letter6 (fun z => (hT.2.2 k z).2), Option.bind_some, if_bi, e0, if_neg (by decide)]
    unfold X6_token_b104
    rw [if_pos rfl, xt, ← h15, su_self]
  | succ d ih =>
    intro k f σ hT hk hf h15
    have htl := hT.1
    obtain ⟨g, rfl⟩ : ∃ g, f = g + 1 := ⟨f - 1, by omega⟩
    rw [X6_token_b86, if_neg (by decide), h15, byte6 hT (by omega), Option.bind_some, letter6 (fun z => (hT.2.2 k z).2), Option.bind_some, if_bi, xt]
    by_cases e : srt y tl k = 1
    · rw [if_pos (decide_eq_true e), if_pos e]
      unfold X6_token_b122
      rw [h15, nI_1, ih (k + 1) g _ (hT.su (by decide) _) (by omega) (by omega) (by rw [su_at, if_pos ⟨rfl, rfl⟩]), su_su]
    · rw [if_neg (by rw [decide_eq_false e]; decide), if_neg e]
      unfold X6_token_b104
      rw [if_pos rfl, ← h15, su_self]
theorem tok2 {y : Nat → Nat} {tl : Nat} : ∀ (d k f : Nat) (σ : MS), Tz y tl σ → k + d = tl → d < f → σ 22 15 = nI k → X6_token_b86 f σ 0 1 = some (su σ 22 15 (nI (xt y tl 2 d k))) := by
  intro d
  induction d with
  | zero =>
    intro k f σ hT hk hf h15
    have htl := hT.1
    obtain ⟨g, rfl⟩ : ∃ g, f = g + 1 := ⟨f - 1, by omega⟩
    have e0 : srt y tl k = 0 := srt_0.mpr (by omega)
    rw [X6_token_b86, if_pos rfl]
    unfold X6_token_b104
    rw [if_neg (by decide), h15, byte6 hT (by omega), Option.bind_some, digit6 (fun z => (hT.2.2 k z).2), Option.bind_some, if_bi, e0, if_neg (by decide), xt, ← h15, su_self]
  | succ d ih =>
    intro k f σ hT hk hf h15
    have htl := hT.1
    obtain ⟨g, rfl⟩ : ∃ g, f = g + 1 := ⟨f - 1, by omega⟩
    rw [X6_token_b86, if_pos rfl]
    unfold X6_token_b104
    rw [if_neg (by decide), h15, byte6 hT (by omega), Option.bind_some, digit6 (fun z => (hT.2.2 k z).2), Option.bind_some, if_bi, xt]
    by_cases e : srt y tl k = 2
    · rw [if_pos (decide_eq_true e), if_pos e]
      unfold X6_token_b122
      rw [h15, nI_1, ih (k + 1) g _ (hT.su (by decide) _) (by omega) (by omega) (by rw [su_at, if_pos ⟨rfl, rfl⟩]), su_su]
    · rw [if_neg (by rw [decide_eq_false e]; decide), if_neg e, ← h15, su_self]
theorem tok0 {f : Nat} {σ : MS} : X6_token_b86 (f + 1) σ 0 0 = some σ := by
  rw [X6_token_b86, if_pos rfl]
  unfold X6_token_b104
  rw [if_pos rfl]
theorem tok8 {y : Nat → Nat} {tl : Nat} : ∀ (d j f : Nat) (σ : MS), Tz y tl σ → j + d = tl → d < f → σ 22 14 = nI j → X6_token_b8 f σ = some (su (su σ 22 14 (nI (skp y d j))) 22 15 (nI (tkB y tl (skp y d j)))) := by
  have fin : ∀ (j : Nat) (σ : MS), Tz y tl σ → j ≤ tl → σ 22 14 = nI j → (if σ 22 13 ≤ σ 22 14 then X6_token_b83 σ (bi (decide (srt y tl j = 1))) (bi (decide (srt y tl j = 2))) (σ 22 14) else X6_token_b83 σ (bi (decide (srt y tl j = 1))) (bi (decide (srt y tl j = 2))) (σ 22 14 + 1)) = some (su (su σ 22 14 (nI j)) 22 15 (nI (tkB y tl j))) := by
    intro j σ hT hj h14
    have htl := hT.1
    have e14 : su σ 22 14 (nI j) = σ := by rw [← h14, su_self]
    rw [e14, hT.2.1, h14, le_nI (by omega) (by omega), nI_1]
    unfold X6_token_b83 tkB
    by_cases c0 : srt y tl j = 0
    · have := srt_0.mp c0
      have d1 : decide (srt y tl j = 1) = false := by rw [c0]; rfl
      have d2 : decide (srt y tl j = 2) = false := by rw [c0]; rfl
      rw [if_pos (by omega), if_pos c0, d1, d2]
      exact tok0 (f := 1999)
    · have hlt : j < tl := Nat.lt_of_not_le (fun z => c0 (srt_0.mpr z))
      rw [if_neg (by omega), if_neg c0]
      by_cases c1 : srt y tl j = 1
      · have d1 : decide (srt y tl j = 1) = true := decide_eq_true c1
        have d2 : decide (srt y tl j = 2) = false := by rw [c1]; rfl
        rw [if_pos c1, d1, d2]
        have e1 := tok1 (y := y) (tl := tl) (tl - (j + 1)) (j + 1) FU (su σ 22 15 (nI (j + 1))) (hT.su (by decide) _) (by omega) (FU_lt (by omega)) (by rw [su_at, if_pos ⟨rfl, rfl⟩])
        rw [su_su] at e1
        exact e1
      · rw [if_neg c1]
        have d1 : decide (srt y tl j = 1) = false := decide_eq_false c1
        by_cases c2 : srt y tl j = 2
        · have d2 : decide (srt y tl j = 2) = true := decide_eq_true c2
          rw [if_pos c2, d1, d2]
          have e1 := tok2 (y := y) (tl := tl) (tl - (j + 1)) (j + 1) FU (su σ 22 15 (nI (j + 1))) (hT.su (by decide) _) (by omega) (FU_lt (by omega)) (by rw [su_at, if_pos ⟨rfl, rfl⟩])
          rw [su_su] at e1
          exact e1
        · rw [if_neg c2, d1, decide_eq_false c2]
          exact tok0 (f := 1999)
  intro d
  induction d with
  | zero =>
    intro j f σ hT hj hf h14
    have htl := hT.1
    obtain ⟨g, rfl⟩ : ∃ g, f = g + 1 := ⟨f - 1, by omega⟩
    have hb := byte6 hT (show j < 1000 by omega)
    have nb : ¬ bt y tl j = 32 := fun z => by have := (bt_eq (c := 32) (fun z => (hT.2.2 j z).2) (by decide)).mp z; omega
    rw [X6_token_b8, h14, hb, Option.bind_some, if_neg nb, Option.bind_some, letter6 (fun z => (hT.2.2 j z).2), Option.bind_some, Option.bind_some, digit6 (fun z => (hT.2.2 j z).2), Option.bind_some, ← h14, skp]
    exact fin j σ hT (by omega) h14
  | succ d ih =>
    intro j f σ hT hj hf h14
    have htl := hT.1
    obtain ⟨g, rfl⟩ : ∃ g, f = g + 1 := ⟨f - 1, by omega⟩
    have hb := byte6 hT (show j < 1000 by omega)
    rw [X6_token_b8, h14, hb, Option.bind_some, skp]
    by_cases e : y j = 32
    · have yb : bt y tl j = 32 := (bt_eq (c := 32) (fun z => (hT.2.2 j z).2) (by decide)).mpr ⟨by omega, e⟩
      rw [if_pos yb, if_pos e, nI_1, ih (j + 1) g _ (hT.su (by decide) _) (by omega) (by omega) (by rw [su_at, if_pos ⟨rfl, rfl⟩]), su_su]
    · have nb : ¬ bt y tl j = 32 := fun z => e ((bt_eq (c := 32) (fun z => (hT.2.2 j z).2) (by decide)).mp z).2
      rw [if_neg nb, if_neg e, Option.bind_some, letter6 (fun z => (hT.2.2 j z).2), Option.bind_some, Option.bind_some, digit6 (fun z => (hT.2.2 j z).2), Option.bind_some]
      have q := fin j σ hT (by omega) h14
      rw [h14] at q
      exact q
theorem tok6 {y : Nat → Nat} {tl bh : Nat} {σ : MS} (hT : Tz y tl σ) (hb : bh ≤ tl) (h15 : σ 22 15 = nI bh) : X6_token σ = some (su (su σ 22 14 (nI (tkS y tl bh))) 22 15 (nI (tkB y tl (tkS y tl bh)))) := by
  have htl := hT.1
  unfold X6_token
  rw [h15, tok8 (tl - bh) bh FU (su σ 22 14 (nI bh)) (hT.su (by decide) _) (by omega) (FU_lt (by omega)) (by rw [su_at, if_pos ⟨rfl, rfl⟩]), su_su]
  rfl
