/-! PURE 25: words, numbers -/
def nch (k i : Nat) : Nat := (chs k (nI i)).toNatClampNeg
def slen (k : Nat) : Nat := strL.getD k 0
theorem nch_dec : ∀ k, k < 11 → slen k < 8 ∧ ∀ i, i < slen k → chs k (nI i) = nI (nch k i) ∧ 97 ≤ nch k i ∧ nch k i ≤ 122 := by decide +kernel
def isW (y : Nat → Nat) (tl st bh k : Nat) : Bool := decide (srt y tl st = 1 ∧ bh - st = slen k ∧ ∀ i, i < slen k → y (st + i) = nch k i)
theorem word5L {y : Nat → Nat} {tl st bh k : Nat} {ρ : MS} (hT : Ty y tl ρ) (h3 : ρ 6 3 = nI st) (hk : k < 11) (hl : st + slen k = bh) (hb : bh ≤ tl) : ∀ (d i f : Nat), i + d = slen k → d < f → X2_isWord_b28 ρ f k (nI i) = some (bi (decide (∀ q, q < slen k → i ≤ q → y (st + q) = nch k q))) := by
  have htl := hT.1
  obtain ⟨l1, l2⟩ := nch_dec k hk
  have es : strL.getD k 0 = slen k := rfl
  intro d
  induction d with
  | zero =>
    intro i f hi hf
    obtain ⟨g, rfl⟩ : ∃ g, f = g + 1 := ⟨f - 1, by omega⟩
    rw [X2_isWord_b28, es, le_nI (by omega) (by omega), if_pos (by omega), decide_eq_true (fun q q1 q2 => by omega)]
    rfl
  | succ d ih =>
    intro i f hi hf
    obtain ⟨g, rfl⟩ : ∃ g, f = g + 1 := ⟨f - 1, by omega⟩
    obtain ⟨c1, c2, c3⟩ := l2 i (by omega)
    obtain ⟨y1, y2⟩ := hT.2.2 (st + i) (by omega)
    rw [X2_isWord_b28, es, le_nI (by omega) (by omega), if_neg (by omega), h3, nI_add, ai_n (by omega) (by decide), ai_n (by omega) (by omega), nI_clamp (by omega), y1, c1, nI_1, ih (i + 1) g (by omega) (by omega)]
    by_cases e : y (st + i) = nch k i
    · rw [if_pos (by rw [e])]
      congr 2
      apply bool_ext
      rw [decide_eq_true_eq, decide_eq_true_eq]
      constructor
      · intro h q q1 q2
        by_cases e1 : q = i
        · rw [e1]; exact e
        · exact h q q1 (by omega)
      · intro h q q1 q2
        exact h q q1 (by omega)
    · rw [if_neg (fun z => e ((nI_eq (by omega) (by omega)).mp z)), decide_eq_false (fun h => e (h i (by omega) (Nat.le_refl _)))]
      rfl
theorem isWord5 {y : Nat → Nat} {tl st bh k : Nat} {ρ : MS} (hT : Ty y tl ρ) (h3 : ρ 6 3 = nI st) (h4 : ρ 6 4 = nI bh) (h2 : ρ 6 2 = nI (srt y tl st)) (hs : st ≤ bh) (hb : bh ≤ tl) (hk : k < 11) : X2_isWord ρ k = some (bi (isW y tl st bh k)) := by
  have htl := hT.1
  have := srt_lt y tl st
  obtain ⟨l1, l2⟩ := nch_dec k hk
  have es : strL.getD k 0 = slen k := rfl
  unfold X2_isWord isW
  rw [h2, h3, h4, pk_sub hs, es]
  by_cases c1 : srt y tl st = 1
  · rw [if_pos (show nI (srt y tl st) = 1 by rw [c1]; rfl)]
    by_cases c2 : bh - st = slen k
    · rw [if_pos (by rw [c2])]
      have e := word5L hT h3 hk (show st + slen k = bh by omega) hb (slen k) 0 FU (by omega) (FU_lt (by omega))
      have e0 : X2_isWord_b28 ρ FU k 0 = X2_isWord_b28 ρ FU k (nI 0) := rfl
      rw [e0, e]
      congr 2
      apply bool_ext
      rw [decide_eq_true_eq, decide_eq_true_eq]
      exact ⟨fun h => ⟨c1, c2, fun i hi => h i hi (Nat.zero_le _)⟩, fun h i hi _ => h.2.2 i hi⟩
    · rw [if_neg (fun z => c2 ((nI_eq (by omega) (by omega)).mp z)), decide_eq_false (fun h => c2 h.2.1)]
      rfl
  · rw [if_neg (show ¬ nI (srt y tl st) = 1 from fun z => c1 ((nI_eq1 (by omega)).mp z)), decide_eq_false (fun h => c1 h.1)]
    rfl
/-! words as numbers -/
def pvf (f : Nat → Nat) : Nat → Nat
  | 0 => 0
  | m + 1 => 32 * pvf f m + f m
def cvf (f : Nat → Nat) : Nat → Nat
  | 0 => 0
  | m + 1 => if cvf f m ≤ 36028797018963967 then 32 * cvf f m + f m else cvf f m
theorem pvf_mono (f : Nat → Nat) : ∀ m, pvf f m ≤ pvf f (m + 1) := by
  intro m
  rw [pvf]
  omega
theorem cvf_pvf (f : Nat → Nat) : ∀ m, (cvf f m ≤ 36028797018963967 → cvf f m = pvf f m) ∧ (pvf f m ≤ 36028797018963967 → cvf f m = pvf f m) := by
  intro m
  induction m with
  | zero => exact ⟨fun _ => rfl, fun _ => rfl⟩
  | succ m ih =>
    have hm := pvf_mono f m
    rw [cvf]
    by_cases c : cvf f m ≤ 36028797018963967
    · rw [if_pos c, ih.1 c, pvf]
      exact ⟨fun _ => rfl, fun _ => rfl⟩
    · rw [if_neg c]
      exact ⟨fun z => absurd z c, fun z => absurd (by rw [ih.2 (by omega)]; omega) c⟩
theorem pvf_inj (f g : Nat → Nat) : ∀ m l, (∀ i, i < m → 1 ≤ f i ∧ f i ≤ 26) → (∀ i, i < l → 1 ≤ g i ∧ g i ≤ 26) → pvf f m = pvf g l → m = l ∧ ∀ i, i < m → f i = g i := by
  intro m
  induction m with
  | zero =>
    intro l _ hg e
    cases l with
    | zero => exact ⟨rfl, fun i hi => by omega⟩
    | succ l =>
      rw [pvf, pvf] at e
      have := hg l (Nat.lt_succ_self l)
      omega
  | succ m ih =>
    intro l hf hg e
    have f1 := hf m (Nat.lt_succ_self m)
    cases l with
    | zero =>
      rw [pvf, pvf] at e
      omega
    | succ l =>
      have g1 := hg l (Nat.lt_succ_self l)
      rw [pvf, pvf] at e
      obtain ⟨h1, h2⟩ := ih l (fun i hi => hf i (by omega)) (fun i hi => hg i (by omega)) (by omega)
      subst h1
      refine ⟨rfl, fun i hi => ?_⟩
      by_cases c : i = m
      · rw [c]; omega
      · exact h2 i (by omega)
theorem pvf_cg {f g : Nat → Nat} : ∀ m, (∀ i, i < m → f i = g i) → pvf f m = pvf g m := by
  intro m
  induction m with
  | zero => intro _; rfl
  | succ m ih =>
    intro h
    rw [pvf, pvf, ih (fun i hi => h i (by omega)), h m (Nat.lt_succ_self m)]
def hsh (k : Nat) : Nat := pvf (fun i => nch k i - 96) (slen k)
theorem hsh_dec : hsh 6 = 542723566 ∧ hsh 0 = 136230 ∧ hsh 1 = 404481202 ∧ hsh 2 = 437899442 ∧ hsh 3 = 22088722073 ∧ hsh 4 = 23716 ∧ hsh 5 = 220501444 ∧ hsh 7 = 23569509 ∧ hsh 8 = 679786867 ∧ hsh 9 = 525618 ∧ hsh 10 = 494 := by decide +kernel
theorem hsh_lt : ∀ k, k < 11 → 1 ≤ hsh k ∧ hsh k ≤ 36028797018963967 := by decide +kernel
/-- the word's number, as a loop over longs -/
def w64 (σ : MS) : Nat → Nat → Int64 → Int64
  | 0, _, v => v
  | d + 1, k, v => if (lg_cmp v (36028797018963967 : Int64)) ≤ (0 : Int32) then w64 σ d (k + 1) (((32 : Int64) * v) + (Int32.toInt64 (σ 12 k - (96 : Int32)))) else w64 σ d (k + 1) v
theorem word6L {y : Nat → Nat} {tl st bh : Nat} {σ : MS} (hT : Tz y tl σ) (h14 : σ 22 14 = nI st) (h15 : σ 22 15 = nI bh) (hs : st ≤ bh) (hb : bh ≤ tl) : ∀ (d k f : Nat) (v : Int64), k + d = bh → d < f → X6_word_b7 σ f v (nI k) = some (if σ 22 17 = 0 then (if srt y tl st = 1 then w64 σ d k v else 0) else 0) := by
  have htl := hT.1
  intro d
  induction d with
  | zero =>
    intro k f v hk hf
    obtain ⟨g, rfl⟩ : ∃ g, f = g + 1 := ⟨f - 1, by omega⟩
    rw [X6_word_b7, h15, le_nI (by omega) (by omega), if_pos (show bh ≤ k by omega), h14, byte6 hT (by omega), Option.bind_some, letter6 (fun z => (hT.2.2 st z).2), Option.bind_some, if_bi, w64]
    by_cases c : σ 22 17 = 0
    · rw [if_pos c, if_pos c]
      by_cases c1 : srt y tl st = 1
      · rw [if_pos (decide_eq_true c1), if_pos c1]
      · rw [if_neg (by rw [decide_eq_false c1]; decide), if_neg c1]
    · rw [if_neg c, if_neg c]
  | succ d ih =>
    intro k f v hk hf
    obtain ⟨g, rfl⟩ : ∃ g, f = g + 1 := ⟨f - 1, by omega⟩
    rw [X6_word_b7, h15, le_nI (by omega) (by omega), if_neg (show ¬ bh ≤ k by omega), ai_n (by omega) (by decide), nI_clamp (by omega), nI_1, ih (k + 1) g _ (by omega) (by omega), ih (k + 1) g _ (by omega) (by omega), w64]
    split
    · rfl
    · rfl
theorem cmp_eq (x z : Int64) : lg_cmp x z = 0 ↔ x = z := by
  unfold lg_cmp
  by_cases h1 : z < x
  · rw [if_pos h1]
    constructor
    · intro h; exact absurd h (by decide)
    · intro h; subst h; rw [Int64.lt_iff_toInt_lt] at h1; omega
  · rw [if_neg h1]
    by_cases h2 : x = z
    · rw [if_pos h2]; exact ⟨fun _ => h2, fun _ => rfl⟩
    · rw [if_neg h2]
      constructor
      · intro h; exact absurd h (by decide)
      · intro h; exact absurd h h2
theorem w64_c {y : Nat → Nat} {tl st : Nat} {σ : MS} (hT : Tz y tl σ) : ∀ (d m : Nat), st + m + d ≤ tl → (∀ i, st ≤ i → i < st + m + d → srt y tl i = 1) → cvf (fun i => y (st + i) - 96) m < 2 ^ 61 → w64 σ d (st + m) (lN (cvf (fun i => y (st + i) - 96) m)) = lN (cvf (fun i => y (st + i) - 96) (m + d)) ∧ cvf (fun i => y (st + i) - 96) (m + d) < 2 ^ 61 := by
  intro d
  induction d with
  | zero => intro m _ _ hc; exact ⟨rfl, hc⟩
  | succ d ih =>
    intro m hd hs hc
    obtain ⟨s1, s2, s3⟩ := srt_1 (hs (st + m) (by omega) (by omega))
    have e12 : σ 12 (st + m) = nI (y (st + m)) := (hT.2.2 _ s1).1
    have eb : Int32.toInt64 (σ 12 (st + m) - 96) = lN (y (st + m) - 96) := by
      rw [e12, show (96 : Int32) = nI 96 from rfl, pk_sub (by omega), nI_l (by omega)]
    have hcm : lg_cmp (lN (cvf (fun i => y (st + i) - 96) m)) (36028797018963967 : Int64) ≤ 0 ↔ cvf (fun i => y (st + i) - 96) m ≤ 36028797018963967 := by
      have e1 : (0 < lg_cmp (lN (cvf (fun i => y (st + i) - 96) m)) (36028797018963967 : Int64)) ↔ 36028797018963967 < cvf (fun i => y (st + i) - 96) m := by
        rw [cmp_gt, show (36028797018963967 : Int64) = lN 36028797018963967 from rfl, pk_lLT (by omega) (by omega)]
      constructor
      · intro h
        refine Nat.le_of_not_lt (fun z => ?_)
        have a := Int32.lt_iff_toInt_lt.mp (e1.mpr z)
        have b := Int32.le_iff_toInt_le.mp h
        omega
      · intro h
        apply Int32.le_iff_toInt_le.mpr
        refine Int.not_lt.mp (fun z => ?_)
        have := e1.mp (Int32.lt_iff_toInt_lt.mpr z)
        omega
    have step : cvf (fun i => y (st + i) - 96) (m + 1) = if cvf (fun i => y (st + i) - 96) m ≤ 36028797018963967 then 32 * cvf (fun i => y (st + i) - 96) m + (y (st + m) - 96) else cvf (fun i => y (st + i) - 96) m := by rw [cvf]
    have hc1 : cvf (fun i => y (st + i) - 96) (m + 1) < 2 ^ 61 := by
      rw [step]
      split <;> omega
    have i1 := ih (m + 1) (by omega) (fun i q1 q2 => hs i q1 (by omega)) hc1
    rw [show m + 1 + d = m + (d + 1) by omega] at i1
    refine ⟨?_, i1.2⟩
    rw [w64, eb, ← i1.1, step, show st + (m + 1) = st + m + 1 by omega]
    by_cases c : cvf (fun i => y (st + i) - 96) m ≤ 36028797018963967
    · rw [if_pos (hcm.mpr c), if_pos c, show (32 : Int64) = lN 32 from rfl, lN_mul, lN_add]
    · rw [if_neg (fun z => c (hcm.mp z)), if_neg c]
/-- the reference's word: it's each name's number just where that name stands -/
theorem word6 {y : Nat → Nat} {tl st bh : Nat} {σ : MS} (hT : Tz y tl σ) (h14 : σ 22 14 = nI st) (h15 : σ 22 15 = nI bh) (hs : st ≤ bh) (hb : bh ≤ tl) (h17 : σ 22 17 = 0) (hw : srt y tl st = 1 → ∀ i, st ≤ i → i < bh → srt y tl i = 1) : ∃ W, X6_word σ = some W ∧ ∀ k, k < 11 → (lg_cmp W (lN (hsh k)) = 0 ↔ isW y tl st bh k = true) := by
  have htl := hT.1
  refine ⟨if srt y tl st = 1 then w64 σ (bh - st) st 0 else 0, ?_, fun k hk => ?_⟩
  · unfold X6_word
    rw [h14, word6L hT h14 h15 hs hb (bh - st) st FU 0 (by omega) (FU_lt (by omega)), if_pos h17]
  · obtain ⟨l1, l2⟩ := nch_dec k hk
    obtain ⟨q1, q2⟩ := hsh_lt k hk
    rw [cmp_eq]
    unfold isW
    rw [decide_eq_true_eq]
    by_cases c1 : srt y tl st = 1
    · rw [if_pos c1]
      have hall := hw c1
      obtain ⟨w1, w2⟩ := w64_c (st := st) hT (bh - st) 0 (by omega) (fun i a b => hall i a (by omega)) (by rw [cvf]; decide)
      have w1' : w64 σ (bh - st) st 0 = lN (cvf (fun i => y (st + i) - 96) (0 + (bh - st))) := w1
      rw [Nat.zero_add] at w1' w2
      rw [w1', pk_lEQ (by omega) (by omega)]
      obtain ⟨p1, p2⟩ := cvf_pvf (fun i => y (st + i) - 96) (bh - st)
      constructor
      · intro e
        have e1 : pvf (fun i => y (st + i) - 96) (bh - st) = pvf (fun i => nch k i - 96) (slen k) := by
          rw [← p1 (by omega), e]; rfl
        obtain ⟨a1, a2⟩ := pvf_inj _ _ _ _ (fun i hi => by
          obtain ⟨_, s2, s3⟩ := srt_1 (hall (st + i) (by omega) (by omega))
          show 1 ≤ y (st + i) - 96 ∧ y (st + i) - 96 ≤ 26
          omega) (fun i hi => by
          obtain ⟨_, s2, s3⟩ := l2 i hi
          show 1 ≤ nch k i - 96 ∧ nch k i - 96 ≤ 26
          omega) e1
        refine ⟨c1, a1, fun i hi => ?_⟩
        have a3 : y (st + i) - 96 = nch k i - 96 := a2 i (by omega)
        obtain ⟨_, s2, s3⟩ := srt_1 (hall (st + i) (by omega) (by omega))
        obtain ⟨_, s4, s5⟩ := l2 i hi
        omega
      · intro ⟨_, a1, a2⟩
        have e1 : pvf (fun i => y (st + i) - 96) (bh - st) = hsh k := by
          rw [a1]
          exact pvf_cg _ (fun i hi => by rw [a2 i hi])
        rw [p2 (by omega), e1]
    · rw [if_neg c1]
      constructor
      · intro e
        have e1 := (pk_lEQ (a := 0) (b := hsh k) (by omega) (by omega)).mp e
        omega
      · intro e; exact absurd e.1 c1
theorem word6w {y : Nat → Nat} {tl st bh : Nat} {σ : MS} (hT : Tz y tl σ) (h14 : σ 22 14 = nI st) (h15 : σ 22 15 = nI bh) (hs : st ≤ bh) (hb : bh ≤ tl) (h17 : σ 22 17 = 1) : X6_word σ = some 0 := by
  have htl := hT.1
  unfold X6_word
  rw [h14, word6L hT h14 h15 hs hb (bh - st) st FU 0 (by omega) (FU_lt (by omega)), if_neg (by rw [h17]; decide)]
/-! must, numbers -/
theorem must1 {σ : MS} (h : σ 22 17 = 0) : X6_must σ 1 = X6_token σ := by
  have e : su σ 22 17 0 = σ := by rw [← h, su_self]
  unfold X6_must X6_must_b17
  rw [if_pos h, if_neg (by decide), zb_0, e, if_pos h, bind_st]
theorem must0 {σ : MS} (h : σ 22 17 = 0) : X6_must σ 0 = some (su σ 22 17 1) := by
  unfold X6_must X6_must_b17
  rw [if_pos h, if_pos rfl, zb_1, if_neg (by rw [su_at, if_pos ⟨rfl, rfl⟩]; decide)]
theorem mustW {σ : MS} (h : σ 22 17 = 1) (x : Int32) : X6_must σ x = some σ := by
  have e : su σ 22 17 1 = σ := by rw [← h, su_self]
  unfold X6_must X6_must_b17
  rw [if_neg (by rw [h]; decide), zb_1, e, if_neg (by rw [h]; decide)]
theorem num6L {y : Nat → Nat} {tl st bh : Nat} {σ : MS} {lo hi : Int32} (hT : Tz y tl σ) (h15 : σ 22 15 = nI bh) (hb : bh ≤ tl) : ∀ (d k v f : Nat), k + d = bh → d < f → v ≤ 9999 → (∀ i, k ≤ i → i < bh → srt y tl i = 2) → X6_number_b29 f σ lo hi 1 (nI v) (nI k) = X6_number_b79 σ lo hi 1 (nI (nmF y d k v)) := by
  have htl := hT.1
  intro d
  induction d with
  | zero =>
    intro k v f hk hf hv hs
    obtain ⟨g, rfl⟩ : ∃ g, f = g + 1 := ⟨f - 1, by omega⟩
    rw [X6_number_b29, h15, le_nI (by omega) (by omega), if_pos (show bh ≤ k by omega), nmF]
  | succ d ih =>
    intro k v f hk hf hv hs
    obtain ⟨g, rfl⟩ : ∃ g, f = g + 1 := ⟨f - 1, by omega⟩
    obtain ⟨s1, s2, s3⟩ := srt_2 (hs k (Nat.le_refl _) (by omega))
    rw [X6_number_b29, h15, le_nI (by omega) (by omega), if_neg (show ¬ bh ≤ k by omega), if_neg (show ¬ (1 : Int32) = 0 by decide), show (999 : Int32) = nI 999 from rfl, le_nI (by omega) (by omega), nmF]
    by_cases c : v ≤ 999
    · have ev : (10 : Int32) * nI v + σ 12 k - 48 = nI (10 * v + y k - 48) := by
        rw [(hT.2.2 k s1).1, show (10 : Int32) = nI 10 from rfl, pk_mul, nI_add, show (48 : Int32) = nI 48 from rfl, pk_sub (by omega)]
      rw [if_pos c, if_pos c, ai_n (by omega) (by decide), nI_clamp (by omega), ev, nI_1]
      exact ih (k + 1) _ g (by omega) (by omega) (by omega) (fun i q1 q2 => hs i (by omega) q2)
    · rw [if_neg c, if_neg c, nI_1]
      exact ih (k + 1) v g (by omega) (by omega) hv (fun i q1 q2 => hs i (by omega) q2)
/-- a number from 0 on that may be at most hi -/
def okN (y : Nat → Nat) (tl st bh : Nat) (hi : Int32) : Bool := decide (srt y tl st = 2 ∧ (numv y tl st bh : Int) ≤ hi.toInt)
theorem numv_lt {y : Nat → Nat} {tl st bh : Nat} (hs : srt y tl st = 2 → ∀ i, st ≤ i → i < bh → srt y tl i = 2) : numv y tl st bh ≤ 9999 := by
  unfold numv
  split
  · rename_i c
    exact nmF_lt y tl _ st 0 (by omega) (fun i q1 q2 => hs c i q1 (by omega))
  · omega
theorem number6 {y : Nat → Nat} {tl st bh : Nat} {σ : MS} (hT : Tz y tl σ) (h14 : σ 22 14 = nI st) (h15 : σ 22 15 = nI bh) (hs : st ≤ bh) (hb : bh ≤ tl) (h17 : σ 22 17 = 0) (hw : srt y tl st = 2 → ∀ i, st ≤ i → i < bh → srt y tl i = 2) (hi : Int32) : X6_number σ 0 hi = if okN y tl st bh hi then X6_token (su σ 22 16 (nI (numv y tl st bh))) else some (su (su σ 22 16 (nI (numv y tl st bh))) 22 17 1) := by
  have htl := hT.1
  have hn := numv_lt (bh := bh) hw
  have k17 : ∀ x, su σ 22 16 x 22 17 = 0 := fun x => by rw [su_at, if_neg (by decide)]; exact h17
  unfold X6_number okN
  rw [if_pos h17, h14, byte6 hT (by omega), Option.bind_some, digit6 (fun z => (hT.2.2 st z).2), Option.bind_some]
  by_cases c : srt y tl st = 2
  · have e1 : bi (decide (srt y tl st = 2)) = 1 := by rw [decide_eq_true c]; rfl
    have e2 := num6L (lo := 0) (hi := hi) (st := st) hT h15 hb (bh - st) st 0 FU (by omega) (FU_lt (by omega)) (by omega) (hw c)
    have en : numv y tl st bh = nmF y (bh - st) st 0 := by unfold numv; rw [if_pos c]
    have e0 : X6_number_b29 FU σ 0 hi 1 0 (nI st) = X6_number_b29 FU σ 0 hi 1 (nI 0) (nI st) := rfl
    rw [e1, e0, e2, ← en]
    unfold X6_number_b79
    rw [if_neg (by decide), in_eq, Option.bind_some, if_bi, must1 (k17 _), must0 (k17 _), Option.bind_some, bind_st, Int32.toInt_toInt64, Int32.toInt_toInt64, Int32.toInt_toInt64, nI_toInt (by omega), i32_0]
    by_cases c2 : (numv y tl st bh : Int) ≤ hi.toInt
    · rw [if_pos (decide_eq_true (by omega)), if_pos (decide_eq_true ⟨c, c2⟩)]
    · rw [if_neg (by rw [decide_eq_false (by omega)]; decide), if_neg (by rw [decide_eq_false (fun z => c2 z.2)]; decide)]
  · have e1 : bi (decide (srt y tl st = 2)) = 0 := by rw [decide_eq_false c]; rfl
    have en : numv y tl st bh = 0 := by unfold numv; rw [if_neg c]
    rw [e1, en]
    have e2 : X6_number_b29 (1999 + 1) σ 0 hi 0 0 (nI st) = X6_number_b79 σ 0 hi 0 0 := by
      rw [X6_number_b29, if_pos (show (0 : Int32) = 0 from rfl)]
      split <;> rfl
    have e3 : FU = 1999 + 1 := rfl
    rw [e3, e2]
    unfold X6_number_b79
    rw [if_pos rfl, must0 (k17 _), Option.bind_some, if_neg (by rw [decide_eq_false (fun z => c z.1)]; decide)]
    rfl
theorem numberW {σ : MS} (h : σ 22 17 = 1) (lo hi : Int32) : X6_number σ lo hi = some σ := by
  unfold X6_number
  rw [if_neg (by rw [h]; decide)]
theorem upTo5 {y : Nat → Nat} {tl st bh : Nat} {ρ : MS} (h2 : ρ 6 2 = nI (srt y tl st)) (h5 : ρ 6 5 = nI (numv y tl st bh)) (hn : numv y tl st bh ≤ 9999) (hi : Int32) : X2_isNumberUpTo ρ hi = some (bi (okN y tl st bh hi)) := by
  have := srt_lt y tl st
  unfold X2_isNumberUpTo okN
  rw [h2, h5]
  by_cases c : srt y tl st = 2
  · rw [if_pos (show nI (srt y tl st) = 2 by rw [c]; rfl)]
    by_cases c2 : (numv y tl st bh : Int) ≤ hi.toInt
    · rw [if_neg (fun z => by have := lt_i.mp z; rw [nI_toInt (by omega)] at this; omega), decide_eq_true ⟨c, c2⟩]; rfl
    · rw [if_pos (lt_i.mpr (by rw [nI_toInt (by omega)]; omega)), decide_eq_false (fun z => c2 z.2)]; rfl
  · rw [if_neg (show ¬ nI (srt y tl st) = 2 from fun z => c ((nI_eq (b := 2) (by omega) (by decide)).mp z)), decide_eq_false (fun z => c z.1)]; rfl
def peF (y : Nat → Nat) : Nat → Nat → Nat → Nat
  | 0, _, v => v
  | d + 1, k, v => if v ≤ 99 then peF y d (k + 1) (10 * v + y k - 48) else peF y d (k + 1) 1000
theorem pe_nm (y : Nat → Nat) (tl : Nat) : ∀ d k v u, (∀ i, k ≤ i → i < k + d → srt y tl i = 2) → ((u = v ∧ v ≤ 999) ∨ (u = 1000 ∧ 999 < v)) → ((peF y d k u = nmF y d k v ∧ nmF y d k v ≤ 999) ∨ (peF y d k u = 1000 ∧ 999 < nmF y d k v)) := by
  intro d
  induction d with
  | zero => intro k v u _ h; exact h
  | succ d ih =>
    intro k v u hs h
    obtain ⟨s1, s2, s3⟩ := srt_2 (hs k (Nat.le_refl _) (by omega))
    have hs' : ∀ i, k + 1 ≤ i → i < k + 1 + d → srt y tl i = 2 := fun i q1 q2 => hs i (by omega) (by omega)
    unfold peF nmF
    rcases h with ⟨rfl, h2⟩ | ⟨rfl, h2⟩
    · rw [if_pos h2]
      by_cases c : u ≤ 99
      · rw [if_pos c]
        exact ih (k + 1) _ _ hs' (Or.inl ⟨rfl, by omega⟩)
      · rw [if_neg c]
        exact ih (k + 1) _ _ hs' (Or.inr ⟨rfl, by omega⟩)
    · rw [if_neg (by decide), if_neg (by omega)]
      exact ih (k + 1) _ _ hs' (Or.inr ⟨rfl, h2⟩)
theorem peekL {y : Nat → Nat} {tl st bh : Nat} {σ : MS} (hT : Tz y tl σ) (h15 : σ 22 15 = nI bh) (hb : bh ≤ tl) : ∀ (d k v f : Nat), k + d = bh → d < f → v ≤ 1000 → (∀ i, k ≤ i → i < bh → srt y tl i = 2) → X6_peeked_b7 σ f (nI v) (nI k) = some (nI (peF y d k v)) := by
  have htl := hT.1
  intro d
  induction d with
  | zero =>
    intro k v f hk hf hv hs
    obtain ⟨g, rfl⟩ : ∃ g, f = g + 1 := ⟨f - 1, by omega⟩
    rw [X6_peeked_b7, h15, le_nI (by omega) (by omega), if_pos (show bh ≤ k by omega), peF]
  | succ d ih =>
    intro k v f hk hf hv hs
    obtain ⟨g, rfl⟩ : ∃ g, f = g + 1 := ⟨f - 1, by omega⟩
    obtain ⟨s1, s2, s3⟩ := srt_2 (hs k (Nat.le_refl _) (by omega))
    rw [X6_peeked_b7, h15, le_nI (by omega) (by omega), if_neg (show ¬ bh ≤ k by omega), show (99 : Int32) = nI 99 from rfl, le_nI (by omega) (by omega), peF]
    by_cases c : v ≤ 99
    · have ev : (10 : Int32) * nI v + σ 12 k - 48 = nI (10 * v + y k - 48) := by
        rw [(hT.2.2 k s1).1, show (10 : Int32) = nI 10 from rfl, pk_mul, nI_add, show (48 : Int32) = nI 48 from rfl, pk_sub (by omega)]
      rw [if_pos c, if_pos c, ai_n (by omega) (by decide), nI_clamp (by omega), ev, nI_1]
      exact ih (k + 1) _ g (by omega) (by omega) (by omega) (fun i q1 q2 => hs i (by omega) q2)
    · rw [if_neg c, if_neg c, nI_1]
      exact ih (k + 1) 1000 g (by omega) (by omega) (by omega) (fun i q1 q2 => hs i (by omega) q2)
theorem peeked6 {y : Nat → Nat} {tl st bh : Nat} {σ : MS} (hT : Tz y tl σ) (h14 : σ 22 14 = nI st) (h15 : σ 22 15 = nI bh) (hs : st ≤ bh) (hb : bh ≤ tl) (c : srt y tl st = 2) (hw : ∀ i, st ≤ i → i < bh → srt y tl i = 2) : ∃ p : Nat, X6_peeked σ = some (nI p) ∧ ((p = numv y tl st bh ∧ p ≤ 999) ∨ (p = 1000 ∧ 999 < numv y tl st bh)) := by
  have htl := hT.1
  have en : numv y tl st bh = nmF y (bh - st) st 0 := by unfold numv; rw [if_pos c]
  refine ⟨peF y (bh - st) st 0, ?_, ?_⟩
  · unfold X6_peeked
    rw [h14]
    exact peekL (st := st) hT h15 hb (bh - st) st 0 FU (by omega) (FU_lt (by omega)) (by omega) hw
  · rw [en]
    rcases pe_nm y tl (bh - st) st 0 0 (fun i q1 q2 => hw i q1 (by omega)) (Or.inl ⟨rfl, by omega⟩) with ⟨h1, h2⟩ | ⟨h1, h2⟩
    · exact Or.inl ⟨h1, by omega⟩
    · exact Or.inr ⟨h1, h2⟩
