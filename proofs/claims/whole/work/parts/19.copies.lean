/-! PURE 9: copies of rows; image, undo, person -/
def cpj (σ : MS) (r q j : Nat) : MS := sr σ r (fun i => if i < j then σ q i else σ r i)
theorem sr_self (σ : MS) (r : Nat) : sr σ r (σ r) = σ := by
  funext k
  unfold sr va_up
  by_cases h : k = r
  · rw [if_pos h, h]
  · rw [if_neg h]
theorem sr_at (σ : MS) (r : Nat) (f : Nat → Int32) : sr σ r f r = f := va_up_self _ _ _
theorem sr_ne {σ : MS} {r k : Nat} {f : Nat → Int32} (h : k ≠ r) : sr σ r f k = σ k := va_up_ne _ _ h
theorem su_sr (σ : MS) (r j : Nat) (f : Nat → Int32) (x : Int32) : su (sr σ r f) r j x = sr σ r (upd f j x) := by
  unfold su
  rw [sr_at]
  exact bx_uu _ _ _ _
theorem su_eq_sr (σ : MS) (r j : Nat) (x : Int32) : su σ r j x = sr σ r (upd (σ r) j x) := rfl
theorem cpj_0 (σ : MS) (r q : Nat) : cpj σ r q 0 = σ := by
  unfold cpj
  have : (fun i => if i < 0 then σ q i else σ r i) = σ r := by
    funext i; rw [if_neg (Nat.not_lt_zero i)]
  rw [this, sr_self]
theorem cpj_s {r q : Nat} (h : q ≠ r) (σ : MS) (j : Nat) : su (cpj σ r q j) r j (cpj σ r q j q j) = cpj σ r q (j + 1) := by
  have e : cpj σ r q j q j = σ q j := by unfold cpj; rw [sr_ne h]
  rw [e]
  unfold cpj
  rw [su_sr]
  congr 1
  funext i
  rw [upd_at]
  by_cases h1 : i = j
  · subst h1; rw [if_pos rfl, if_pos (Nat.lt_succ_self i)]
  · rw [if_neg h1]
    by_cases h2 : i < j
    · rw [if_pos h2, if_pos (by omega)]
    · rw [if_neg h2, if_neg (by omega)]
theorem cpj_r {σ : MS} {r q n j : Nat} (h : j < n) : cpj σ r q n r j = σ q j := by
  unfold cpj; rw [sr_at, if_pos h]
theorem cpj_hi {σ : MS} {r q n j : Nat} (h : n ≤ j) : cpj σ r q n r j = σ r j := by
  unfold cpj; rw [sr_at, if_neg (by omega)]
theorem cpj_n {σ : MS} {r q n k : Nat} (h : k ≠ r) : cpj σ r q n k = σ k := sr_ne h
theorem lays_l (σ : MS) : ∀ (d j fuel : Nat), j + d = 81 → d < fuel → X6_laysAside_b2 fuel (cpj σ 3 0 j) (nI j) = some (cpj σ 3 0 81) := by
  intro d
  induction d with
  | zero =>
    intro j fuel hj hf
    obtain ⟨f, rfl⟩ : ∃ f, fuel = f + 1 := ⟨fuel - 1, by omega⟩
    have : j = 81 := by omega
    subst this
    rw [X6_laysAside_b2, if_pos (by decide)]
  | succ d ih =>
    intro j fuel hj hf
    obtain ⟨f, rfl⟩ : ∃ f, fuel = f + 1 := ⟨fuel - 1, by omega⟩
    rw [X6_laysAside_b2, show (81 : Int32) = nI 81 from rfl, le_nI (by decide) (by omega), if_neg (by omega), ai_n (by omega) (by decide), ai_n (by omega) (by decide), nI_clamp (by omega), cpj_s (by decide), nI_1]
    exact ih (j + 1) f (by omega) (by omega)
theorem takes_l (σ : MS) (x : Int32) : ∀ (d j fuel : Nat), j + d = 81 → d < fuel → X6_takesBack_b2 fuel (cpj σ 0 3 j) x (nI j) = some (x, cpj σ 0 3 81) := by
  intro d
  induction d with
  | zero =>
    intro j fuel hj hf
    obtain ⟨f, rfl⟩ : ∃ f, fuel = f + 1 := ⟨fuel - 1, by omega⟩
    have : j = 81 := by omega
    subst this
    rw [X6_takesBack_b2, if_pos (by decide)]
  | succ d ih =>
    intro j fuel hj hf
    obtain ⟨f, rfl⟩ : ∃ f, fuel = f + 1 := ⟨fuel - 1, by omega⟩
    rw [X6_takesBack_b2, show (81 : Int32) = nI 81 from rfl, le_nI (by decide) (by omega), if_neg (by omega), ai_n (by omega) (by decide), ai_n (by omega) (by decide), nI_clamp (by omega), cpj_s (by decide), nI_1]
    exact ih (j + 1) f (by omega) (by omega)
theorem saves_l (σ : MS) : ∀ (d j fuel : Nat), j + d = 81 → d < fuel → X6_saves_b2 fuel (cpj σ 2 0 j) (nI j) = some (cpj σ 2 0 81) := by
  intro d
  induction d with
  | zero =>
    intro j fuel hj hf
    obtain ⟨f, rfl⟩ : ∃ f, fuel = f + 1 := ⟨fuel - 1, by omega⟩
    have : j = 81 := by omega
    subst this
    rw [X6_saves_b2, if_pos (by decide)]
  | succ d ih =>
    intro j fuel hj hf
    obtain ⟨f, rfl⟩ : ∃ f, fuel = f + 1 := ⟨fuel - 1, by omega⟩
    rw [X6_saves_b2, show (81 : Int32) = nI 81 from rfl, le_nI (by decide) (by omega), if_neg (by omega), ai_n (by omega) (by decide), ai_n (by omega) (by decide), nI_clamp (by omega), cpj_s (by decide), nI_1]
    exact ih (j + 1) f (by omega) (by omega)
theorem puts_l (σ : MS) : ∀ (d j fuel : Nat), j + d = 81 → d < fuel → X6_putsBack_b2 fuel (cpj σ 0 2 j) (nI j) = some (cpj σ 0 2 81) := by
  intro d
  induction d with
  | zero =>
    intro j fuel hj hf
    obtain ⟨f, rfl⟩ : ∃ f, fuel = f + 1 := ⟨fuel - 1, by omega⟩
    have : j = 81 := by omega
    subst this
    rw [X6_putsBack_b2, if_pos (by decide)]
  | succ d ih =>
    intro j fuel hj hf
    obtain ⟨f, rfl⟩ : ∃ f, fuel = f + 1 := ⟨fuel - 1, by omega⟩
    rw [X6_putsBack_b2, show (81 : Int32) = nI 81 from rfl, le_nI (by decide) (by omega), if_neg (by omega), ai_n (by omega) (by decide), ai_n (by omega) (by decide), nI_clamp (by omega), cpj_s (by decide), nI_1]
    exact ih (j + 1) f (by omega) (by omega)
theorem imag_l (σ : MS) : ∀ (d j fuel : Nat), j + d = 81 → d < fuel → X6_image_b2 fuel (cpj σ 1 0 j) (nI j) = some (1, su (cpj σ 1 0 81) 22 5 1) := by
  intro d
  induction d with
  | zero =>
    intro j fuel hj hf
    obtain ⟨f, rfl⟩ : ∃ f, fuel = f + 1 := ⟨fuel - 1, by omega⟩
    have : j = 81 := by omega
    subst this
    rw [X6_image_b2, if_pos (by decide)]
  | succ d ih =>
    intro j fuel hj hf
    obtain ⟨f, rfl⟩ : ∃ f, fuel = f + 1 := ⟨fuel - 1, by omega⟩
    rw [X6_image_b2, show (81 : Int32) = nI 81 from rfl, le_nI (by decide) (by omega), if_neg (by omega), ai_n (by omega) (by decide), ai_n (by omega) (by decide), nI_clamp (by omega), cpj_s (by decide), nI_1]
    exact ih (j + 1) f (by omega) (by omega)
theorem undo_l (σ : MS) : ∀ (d j fuel : Nat), j + d = 81 → d < fuel → X6_undo_b16 fuel (cpj σ 0 1 j) (nI j) = some (cpj σ 0 1 81 0 0, cpj σ 0 1 81) := by
  intro d
  induction d with
  | zero =>
    intro j fuel hj hf
    obtain ⟨f, rfl⟩ : ∃ f, fuel = f + 1 := ⟨fuel - 1, by omega⟩
    have : j = 81 := by omega
    subst this
    rw [X6_undo_b16, if_pos (by decide)]
  | succ d ih =>
    intro j fuel hj hf
    obtain ⟨f, rfl⟩ : ∃ f, fuel = f + 1 := ⟨fuel - 1, by omega⟩
    rw [X6_undo_b16, show (81 : Int32) = nI 81 from rfl, le_nI (by decide) (by omega), if_neg (by omega), ai_n (by omega) (by decide), ai_n (by omega) (by decide), nI_clamp (by omega), cpj_s (by decide), nI_1]
    exact ih (j + 1) f (by omega) (by omega)
theorem lays6 (σ : MS) : X6_laysAside σ = some (cpj σ 3 0 81) := by
  have h := lays_l σ 81 0 FU rfl (FU_lt (by decide))
  rw [cpj_0] at h; exact h
theorem takes6 (σ : MS) (x : Int32) : X6_takesBack σ x = some (x, cpj σ 0 3 81) := by
  have h := takes_l σ x 81 0 FU rfl (FU_lt (by decide))
  rw [cpj_0] at h; exact h
theorem saves6 (σ : MS) : X6_saves σ = some (cpj σ 2 0 81) := by
  have h := saves_l σ 81 0 FU rfl (FU_lt (by decide))
  rw [cpj_0] at h; exact h
theorem puts6 (σ : MS) : X6_putsBack σ = some (cpj σ 0 2 81) := by
  have h := puts_l σ 81 0 FU rfl (FU_lt (by decide))
  rw [cpj_0] at h; exact h
theorem image6 (σ : MS) : X6_image σ = some (1, su (cpj σ 1 0 81) 22 5 1) := by
  have h := imag_l σ 81 0 FU rfl (FU_lt (by decide))
  rw [cpj_0] at h; exact h
theorem undo6 (σ : MS) : X6_undo_b16 FU σ 0 = some (cpj σ 0 1 81 0 0, cpj σ 0 1 81) := by
  have h := undo_l σ 81 0 FU rfl (FU_lt (by decide))
  rw [cpj_0] at h; exact h
theorem Sq.cg {τ : MS} {v v' : Nat → Int32} (h : Sq τ v) (he : ∀ j, j < 81 → v' j = v j) : Sq τ v' := by
  obtain ⟨⟨a0, a1, a2, a3, a4, a5, a6⟩, h4, h5⟩ := h
  refine ⟨⟨(he 0 (by decide)).trans a0, (he 1 (by decide)).trans a1, (he 2 (by decide)).trans a2, (he 3 (by decide)).trans a3, (he 4 (by decide)).trans a4, (he 5 (by decide)).trans a5, (he 6 (by decide)).trans a6⟩, fun p hp => ⟨?_, ?_, fun j hj => ?_⟩, fun k hk => ?_⟩
  · rw [he (7 + 8 * p) (by omega)]; exact (h4 p hp).1
  · rw [he (8 + 8 * p) (by omega)]; exact (h4 p hp).2.1
  · rw [he (9 + 8 * p + j) (by omega)]; exact (h4 p hp).2.2 j hj
  · rw [he (71 + k) (by omega)]; exact h5 k hk
theorem R_sq.cg {B : Nat} {τ : MS} {v v' : Nat → Int32} (h : R_sq B τ v) (he : ∀ j, j < 81 → v' j = v j) : R_sq B τ v' := by
  obtain ⟨h1, n, mi, w, t, h2⟩ := h
  exact ⟨h1.cg he, n, mi, w, t, h2.cg (fun j hj _ => he j hj)⟩
theorem cpy0 (f g : Nat → Int32) {n j : Nat} (h : j < n) : va_cpy f g 0 0 n j = f j := by
  rw [pk_cpy_in (Nat.zero_le j) (by omega), Nat.sub_zero, Nat.zero_add]
set_option maxRecDepth 20000 in
theorem takeOver4 (σ τ : MS) {v : Nat → Int32} (h : Sq τ v) : ∃ Xr : XS, X4_takeOver (pr2 σ τ) = some Xr ∧ Sq (Xr 0) v := by
  refine ⟨_, rfl, h.1, fun p hp => ⟨?_, ?_, fun j hj => ?_⟩, fun k hk => ?_⟩
  · show v (7 + 8 * p) = va_cpy (τ 0) (σ 0) 0 0 8 p
    rw [cpy0 _ _ hp]; exact (h.2.1 p hp).1
  · show v (8 + 8 * p) = va_cpy (τ 1) (σ 1) 0 0 8 p
    rw [cpy0 _ _ hp]; exact (h.2.1 p hp).2.1
  · show v (9 + 8 * p + j) = va_cpy (τ 2) (σ 2) 0 0 48 (p * 6 + j)
    rw [cpy0 _ _ (by omega)]; exact (h.2.1 p hp).2.2 j hj
  · show v (71 + k) = va_cpy (τ 3) (σ 3) 0 0 10 k
    rw [cpy0 _ _ hk]; exact h.2.2 k hk
theorem st_image : St_image Rel := by
  intro k X σ hk h
  obtain ⟨Xr, e, hq⟩ := takeOver4 (X 2) (X 0) h.1.1
  refine ⟨1, va_up (va_up X 2 (Xr 0)) 9 (su (X 9) 8 3 1), su (cpj σ 1 0 81) 22 5 1, ?_, image6 σ, ?_⟩
  · unfold X5_image
    rw [e]; rfl
  · obtain ⟨-, n, mi, w, t, hi⟩ := h.1.up (B' := 100 * (k + 1)) (by omega)
    have hv : ∀ j, j < 81 → cpj σ 1 0 81 1 j = σ 0 j := fun j hj => cpj_r hj
    have hr : R_sq (100 * (k + 1)) (Xr 0) ((su (cpj σ 1 0 81) 22 5 1) 1) := ⟨hq.cg hv, n, mi, w, t, hi.cg (fun j hj _ => hv j hj)⟩
    exact h.setK (Xr 0) 1 (su (cpj σ 1 0 81) 22 5 1) ⟨rfl, Or.inr ⟨rfl, hr⟩⟩ ⟨rfl, rfl, rfl, rfl, rfl, rfl, rfl⟩ _ ⟨rfl, rfl, rfl, rfl, rfl, fun s hs => by rw [va_up_ne (k := 9) _ _ (by omega), va_up_ne (k := 2) _ _ (by omega)]⟩
theorem st_undo : St_undo Rel := by
  intro k X σ hk h
  have hkp := h.2.1
  unfold X5_undo X6_undo
  rw [undo6]
  simp only [bind_et]
  rcases hkp with ⟨e, h0 | ⟨h1, hr⟩⟩
  · rw [if_pos (e.trans h0), if_pos h0]
    exact bf_3 h
  · have n0 : ¬ σ 22 5 = 0 := by rw [h1]; decide
    rw [if_neg (by rw [e]; exact n0), if_neg n0]
    obtain ⟨Xr, e2, hq⟩ := takeOver4 (X 0) (X 2) hr.1
    have hv : ∀ j, j < 81 → cpj σ 0 1 81 0 j = σ 1 j := fun j hj => cpj_r hj
    have hr' : R_sq (100 * (k + 1)) (Xr 0) (cpj σ 0 1 81 0) := by
      obtain ⟨-, n, mi, w, t, hi⟩ := hr.up (B' := 100 * (k + 1)) (by omega)
      exact ⟨hq.cg hv, n, mi, w, t, hi.cg (fun j hj _ => hv j hj)⟩
    refine ⟨cpj σ 0 1 81 0 0, va_up X 0 (Xr 0), _, ?_, rfl, ?_⟩
    · rw [e2, hr'.1.1.1]; rfl
    · exact h.set0 hr' (up0 X _) ⟨rfl, rfl, rfl, rfl, rfl, rfl, rfl, rfl⟩
/-- d places from a on become 0 -/
def zr (v : Nat → Int32) (a d : Nat) : Nat → Int32 := fun i => if a ≤ i ∧ i < a + d then 0 else v i
theorem zr_0 (v : Nat → Int32) (a : Nat) : zr v a 0 = v := by
  funext i; unfold zr; rw [if_neg (by omega)]
theorem zr_s (v : Nat → Int32) (a d : Nat) : zr (upd v a 0) (a + 1) d = zr v a (d + 1) := by
  funext i
  unfold zr
  rw [upd_at]
  by_cases h : a ≤ i ∧ i < a + (d + 1)
  · rw [if_pos h]
    by_cases h2 : a + 1 ≤ i ∧ i < a + 1 + d
    · rw [if_pos h2]
    · rw [if_neg h2, if_pos (by omega)]
  · rw [if_neg h, if_neg (by omega), if_neg (by omega)]
theorem addL4 {n : Nat} (hn : n < 8) : ∀ (d j fuel : Nat) (τ : MS) (v : Nat → Int32), j + d = 6 → d < fuel → Sq τ v → ∃ τ', X4_addPerson_b31 fuel τ (nI n) (nI j) = some (nI n, τ') ∧ Sq τ' (zr v (9 + 8 * n + j) d) := by
  intro d
  induction d with
  | zero =>
    intro j fuel τ v hj hf h
    obtain ⟨f, rfl⟩ : ∃ f, fuel = f + 1 := ⟨fuel - 1, by omega⟩
    refine ⟨τ, ?_, by rw [zr_0]; exact h⟩
    rw [X4_addPerson_b31, show (6 : Int32) = nI 6 from rfl, le_nI (by decide) (by omega), if_pos (by omega)]
  | succ d ih =>
    intro j fuel τ v hj hf h
    obtain ⟨f, rfl⟩ : ∃ f, fuel = f + 1 := ⟨fuel - 1, by omega⟩
    obtain ⟨τ', e, hq⟩ := ih (j + 1) f _ _ (by omega) (by omega) (h.uv (q := n) (i := j) 0 hn (by omega))
    refine ⟨τ', ?_, ?_⟩
    · rw [X4_addPerson_b31, show (6 : Int32) = nI 6 from rfl, le_nI (by decide) (by omega), if_neg (by omega), setView4 hn (by omega), Option.bind_some, nI_1]
      exact e
    · rw [← zr_s]; exact hq
theorem addL6 {n : Nat} (hn : n < 8) (kd : Int32) : ∀ (d j fuel : Nat) (σ : MS), j + d = 8 → d < fuel → X6_adds_b9 fuel σ kd (nI n) (nI j) = some (nI n, sr σ 0 (upd (upd (upd (zr (σ 0) (7 + 8 * n + j) d) (7 + 8 * n) kd) (8 + 8 * n) 3) 1 (σ 0 1 + 1))) := by
  intro d
  induction d with
  | zero =>
    intro j fuel σ hj hf
    obtain ⟨f, rfl⟩ : ∃ f, fuel = f + 1 := ⟨fuel - 1, by omega⟩
    rw [X6_adds_b9, show (8 : Int32) = nI 8 from rfl, le_nI (by decide) (by omega), if_pos (by omega), show (0 : Int32) = nI 0 from rfl, show (1 : Int32) = nI 1 from rfl, place6, place6, Option.bind_some, Option.bind_some, ai_n (by omega) (by decide), ai_n (by omega) (by decide), nI_clamp (by omega), nI_clamp (by omega), zr_0, show 7 + 8 * n + 1 = 8 + 8 * n by omega, Nat.add_zero]
    rw [su_eq_sr σ, su_sr, su_sr, sr_at, upd_n (show 1 ≠ 8 + 8 * n by omega), upd_n (show 1 ≠ 7 + 8 * n by omega)]
  | succ d ih =>
    intro j fuel σ hj hf
    obtain ⟨f, rfl⟩ : ∃ f, fuel = f + 1 := ⟨fuel - 1, by omega⟩
    rw [X6_adds_b9, show (8 : Int32) = nI 8 from rfl, le_nI (by decide) (by omega), if_neg (by omega), place6, Option.bind_some, ai_n (by omega) (by decide), nI_clamp (by omega), nI_1, ih (j + 1) f _ (by omega) (by omega)]
    rw [su_eq_sr, sr_at, show 7 + 8 * n + (j + 1) = 7 + 8 * n + j + 1 by omega, zr_s, upd_n (show 1 ≠ 7 + 8 * n + j by omega)]
    congr 2
    exact bx_uu _ _ _ _
/-- one more person -/
def adv (v : Nat → Int32) (n : Nat) (kd : Int32) : Nat → Int32 := upd (upd (upd (zr v (7 + 8 * n) 8) (7 + 8 * n) kd) (8 + 8 * n) 3) 1 (nI (n + 1))
theorem adds6 {σ : MS} {n : Nat} (h1 : σ 0 1 = nI n) (hn : n < 8) (kd : Int32) : X6_adds σ kd = some (nI n, sr σ 0 (adv (σ 0) n kd)) := by
  unfold X6_adds adv
  have := addL6 hn kd 8 0 FU σ rfl (FU_lt (by decide))
  rw [h1] at this ⊢
  rw [nI_1] at this
  exact this
theorem addP4 {τ : MS} {v : Nat → Int32} {n : Nat} (hs : Sq τ v) (h1 : v 1 = nI n) (hn : n < 8) (kd : Int32) : ∃ τ', X4_addPerson τ kd = some (nI n, τ') ∧ Sq τ' (adv v n kd) := by
  have h2 : τ 11 4 = nI n := by rw [← hs.1.2.1]; exact h1
  have hq := (((hs.u1 (nI (n + 1))).uk (q := n) kd hn).uo (q := n) 3 hn)
  obtain ⟨τ', e, hq'⟩ := addL4 hn 6 0 FU _ _ rfl (FU_lt (by decide)) hq
  refine ⟨τ', ?_, hq'.cg ?_⟩
  · unfold X4_addPerson
    rw [h2, ai_n hn (by decide), ai_n hn (by decide), nI_clamp (by omega), nI_1]
    exact e
  · intro j hj
    unfold adv zr
    simp only [upd_at]
    rcases (show j = 1 ∨ j = 7 + 8 * n ∨ j = 8 + 8 * n ∨ (9 + 8 * n ≤ j ∧ j < 15 + 8 * n) ∨ (j ≠ 1 ∧ j < 7 + 8 * n) ∨ 15 + 8 * n ≤ j by omega) with e | e | e | e | e | e
    · subst e; rw [if_pos rfl, if_neg (by omega), if_neg (by omega), if_neg (by omega), if_pos rfl]
    · subst e; rw [if_neg (by omega), if_neg (by omega), if_pos rfl, if_neg (by omega), if_neg (by omega), if_pos rfl]
    · subst e; rw [if_neg (by omega), if_pos rfl, if_neg (by omega), if_pos rfl]
    · rw [if_neg (by omega), if_neg (by omega), if_neg (by omega), if_pos (by omega), if_pos (by omega)]
    · rw [if_neg (by omega), if_neg (by omega), if_neg (by omega), if_neg (by omega), if_neg (by omega), if_neg (by omega), if_neg (by omega), if_neg (by omega)]
    · rw [if_neg (by omega), if_neg (by omega), if_neg (by omega), if_neg (by omega), if_neg (by omega), if_neg (by omega), if_neg (by omega), if_neg (by omega)]
theorem adv_at (v : Nat → Int32) (n : Nat) (kd : Int32) {j : Nat} (h : j ≠ 1) (h2 : j < 7 + 8 * n ∨ 15 + 8 * n ≤ j) : adv v n kd j = v j := by
  unfold adv zr
  rw [upd_n h, upd_n (by omega), upd_n (by omega), if_neg (by omega)]
theorem Iv.add {B n mi w t : Nat} {v : Nat → Int32} (h : Iv B n mi w t v) (hn : n < 8) {kd : Int32} (hk : ∃ k : Nat, k < 7 ∧ kd = nI k) : Iv B (n + 1) mi w t (adv v n kd) := by
  obtain ⟨h1, h2, h3, h4, h5⟩ := h
  unfold Iv
  rw [adv_at v n kd (show 0 ≠ 1 by decide) (by omega), adv_at v n kd (show 2 ≠ 1 by decide) (by omega), adv_at v n kd (show 3 ≠ 1 by decide) (by omega), adv_at v n kd (show 5 ≠ 1 by decide) (by omega), adv_at v n kd (show 6 ≠ 1 by decide) (by omega)]
  refine ⟨⟨hn, h1.2⟩, ⟨upd_s, h2.2⟩, h3.imp id (fun ⟨a, b, q1, q2, q3⟩ => ⟨a, b, by omega, by omega, q3⟩), fun p hp => ?_, fun k hk => ?_⟩
  · by_cases e : p = n
    · subst e
      refine ⟨?_, ?_, fun j hj => ?_⟩
      · unfold adv; rw [upd_n (by omega), upd_n (by omega), upd_s]; exact hk
      · unfold adv; rw [upd_n (by omega), upd_s]; exact ⟨3, by omega, rfl⟩
      · unfold adv zr; rw [upd_n (by omega), upd_n (by omega), upd_n (by omega), if_pos (by omega)]; decide
    · refine ⟨?_, ?_, fun j hj => ?_⟩
      · rw [adv_at v n kd (by omega) (by omega)]; exact (h4 p hp).1
      · rw [adv_at v n kd (by omega) (by omega)]; exact (h4 p hp).2.1
      · rw [adv_at v n kd (by omega) (by omega)]; exact (h4 p hp).2.2 j hj
  · rw [adv_at v n kd (by omega) (by omega)]
    exact (h5 k hk).imp id (fun ⟨p, q1, q2⟩ => ⟨p, by omega, q2⟩)
theorem crowd4 {τ : MS} {n : Nat} (h2 : τ 11 4 = nI n) (hn : n ≤ 8) : X4_isCrowded τ = some (bi (decide (n = 8))) := by
  unfold X4_isCrowded
  rw [h2]
  by_cases h : n = 8
  · subst h; rw [if_neg (by decide)]; rfl
  · have : nI n < 8 := (nI_ltI (b := 8) (by omega) (by decide)).mpr (by omega)
    rw [if_pos this, decide_eq_false h]; rfl
theorem st_person : St_person Rel := by
  intro k X σ p1 hk h
  obtain ⟨hs, n, mi, w, t, hi⟩ := h.1.up (B' := 100 * (k + 1)) (by omega)
  have hn := hi.1.1
  have h1 : σ 0 1 = nI n := hi.2.1.1
  have h2 : X 0 11 4 = nI n := by rw [← hs.1.2.1]; exact h1
  have e6 : inr (0 : Int32).toInt (6 : Int32).toInt p1 = inr 0 6 p1 := rfl
  unfold X5_person X6_person
  simp only [out_eq, e6, isKind6, crowd4 h2 hn, Option.bind_some, if_bi, bind_et]
  cases hb : inr 0 6 p1
  · exact bf_0 h
  · simp only [Bool.not_true, Bool.false_eq_true, if_false, if_true]
    by_cases h8 : n = 8
    · have c : σ 0 1 = 8 := by rw [h1, h8]; rfl
      rw [if_pos c, decide_eq_true h8]
      exact bf_1 h
    · have c : ¬ σ 0 1 = 8 := by rw [h1]; exact fun e => h8 ((nI_eq (b := 8) (by omega) (by decide)).mp e)
      rw [if_neg c, decide_eq_false h8]
      obtain ⟨τ', e, hq⟩ := addP4 hs h1 (by omega) p1
      obtain ⟨kd, hkd, ek⟩ := inr_nat (n := 7) (by decide) hb
      refine ⟨nI n, va_up X 0 τ', sr σ 0 (adv (σ 0) n p1), ?_, adds6 h1 (by omega) p1, ?_⟩
      · simp only [Bool.false_eq_true, if_false, e, Option.bind_some]
      · exact h.set0 ⟨hq, n + 1, mi, w, t, hi.add (by omega) ⟨kd, hkd, ek⟩⟩ (up0 X _) ⟨rfl, rfl, rfl, rfl, rfl, rfl, rfl, rfl⟩
