def X5_pairNumber (p1 : Int32) (p2 : Int32) : Option (Int32) := some (((8 : Int32) * p1) + p2)
set_option maxHeartbeats 4000000 in
set_option maxRecDepth 100000 in
theorem c_X5_pairNumber {l : Launch} {D : va_G} {cy cz : ClassId} {G : GT} {p1 : Int32} {p2 : Int32} {r : Int32} (hm : X5_pairNumber p1 p2 = some r) : CtI l D cy cz G yX5_pairNumber cX5_pairNumber 2 (some .int) 0 0 [.int p1, .int p2] ([] : va_W) ([] : va_W) r := by
  refine ct_i (own := "PumpTalk") (by decide) rfl (Nat.le_of_ble_eq_true rfl) ?_
  intro p e s m below meth c ls A C hr hlk hW hl
  have hx := C.1
  have hb := C.2.1
  have hl : lv_has ls 2 [(0, .int p1), (1, .int p2)] := hl
  unfold X5_pairNumber at hm
  refine lv_bipush (v := 8) hx hb dX5_pairNumber_0 (by decide) ?_
  refine lv_iload_n hx hb dX5_pairNumber_2 rfl (lv_at hl 0 rfl) ?_
  refine lv_imul hx hb dX5_pairNumber_3 ?_
  refine lv_iload_n hx hb dX5_pairNumber_4 rfl (lv_at hl 1 rfl) ?_
  refine lv_iadd hx hb dX5_pairNumber_5 ?_
  obtain rfl := Option.some.inj hm
  exact en_i C hr hlk hW dX5_pairNumber_6
theorem kX5_pairNumber : KS yX5_pairNumber cX5_pairNumber 2 (some .int) 2 := ⟨q390, q67, q391, by decide +kernel, by decide +kernel, by decide +kernel⟩
def X4_isCrowded (σ : MS) : Option (Int32) := if (σ 11 4) < (8 : Int32) then (some (0 : Int32)) else (some (1 : Int32))
set_option maxHeartbeats 4000000 in
set_option maxRecDepth 100000 in
theorem c_X4_isCrowded {l : Launch} {D : va_G} {cy cz : ClassId} {G : GT} {a : Nat → Nat} {σ : MS} {r : Int32} (hm : X4_isCrowded σ = some r) : CtI l D cy cz G yX4_isCrowded cX4_isCrowded 1 (some .boolean) 0 0 [.ref (a 0)] (cSq a cy σ) (cSq a cy σ) r := by
  refine ct_i (own := "PumpTalk$Square") (by decide) rfl (Nat.le_of_ble_eq_true rfl) ?_
  intro p e s m below meth c ls A C hr hlk hW hl
  have hx := C.1
  have hb := C.2.1
  have hl : lv_has ls 1 [(0, .ref (a 0))] := hl
  unfold X4_isCrowded at hm
  refine lv_aload_n hx hb dX4_isCrowded_0 rfl (lv_at hl 0 rfl) ?_
  refine gSq_people C hW q100 dX4_isCrowded_1 ?_
  refine lv_bipush (v := 8) hx hb dX4_isCrowded_4 (by decide) ?_
  refine lv_icmp_lt (tgt := 13) hx hb dX4_isCrowded_6 (by decide) (fun hc1 => ?_) (fun hc1 => ?_)
  · rw [if_pos hc1] at hm
    refine lv_iconst (v := 0) hx hb dX4_isCrowded_13 (by decide) ?_
    obtain rfl := Option.some.inj hm
    exact en_z C hr hlk rfl hW dX4_isCrowded_14
  · rw [if_neg hc1] at hm
    refine lv_iconst (v := 1) hx hb dX4_isCrowded_9 (by decide) ?_
    refine lv_goto (tgt := 14) hx hb dX4_isCrowded_10 (by decide) ?_
    obtain rfl := Option.some.inj hm
    exact en_z C hr hlk rfl hW dX4_isCrowded_14
theorem kX4_isCrowded : KM yX4_isCrowded cX4_isCrowded 1 (some .boolean) 0 := ⟨q237, q238, q68, q239, by decide +kernel, by decide +kernel, by decide +kernel⟩
def X4_setView (σ : MS) (p1 : Int32) (p2 : Int32) (p3 : Int32) : Option (MS) := ai ((p1 * (6 : Int32)) + p2) 48 (some (su σ 2 (Int32.toNatClampNeg ((p1 * (6 : Int32)) + p2)) p3))
set_option maxHeartbeats 4000000 in
set_option maxRecDepth 100000 in
theorem c_X4_setView {l : Launch} {D : va_G} {cy cz : ClassId} {G : GT} {a : Nat → Nat} {σ : MS} {p1 : Int32} {p2 : Int32} {p3 : Int32} {σr : MS} (hm : X4_setView σ p1 p2 p3 = some σr) : CtV l D cy cz G yX4_setView cX4_setView 4 none 0 0 [.ref (a 0), .int p1, .int p2, .int p3] (cSq a cy σ) (cSq a cy σr) () := by
  refine ct_v (own := "PumpTalk$Square") (by decide) rfl (Nat.le_of_ble_eq_true rfl) ?_
  intro p e s m below meth c ls A C hr hlk hW hl
  have hx := C.1
  have hb := C.2.1
  have hl : lv_has ls 4 [(0, .ref (a 0)), (1, .int p1), (2, .int p2), (3, .int p3)] := hl
  unfold X4_setView at hm
  refine lv_aload_n hx hb dX4_setView_0 rfl (lv_at hl 0 rfl) ?_
  refine gSq_views C hW q97 dX4_setView_1 ?_
  refine lv_iload_n hx hb dX4_setView_4 rfl (lv_at hl 1 rfl) ?_
  refine lv_bipush (v := 6) hx hb dX4_setView_5 (by decide) ?_
  refine lv_imul hx hb dX4_setView_7 ?_
  refine lv_iload_n hx hb dX4_setView_8 rfl (lv_at hl 2 rfl) ?_
  refine lv_iadd hx hb dX4_setView_9 ?_
  refine lv_iload_n hx hb dX4_setView_10 rfl (lv_at hl 3 rfl) ?_
  obtain ⟨hi1, hm⟩ := mi_ai hm
  refine tSq_views C hW hi1 dX4_setView_11 (fun H locs hW => ?_)
  obtain rfl := Option.some.inj hm
  exact en_v C hr hlk hW dX4_setView_12
theorem kX4_setView : KM yX4_setView cX4_setView 4 none 3 := ⟨q246, q247, q68, q248, by decide +kernel, by decide +kernel, by decide +kernel⟩
def X4_addPerson_b31 : Nat → MS → Int32 → Int32 → Option (Int32 × MS)
  | 0, _, _, _ => none
  | n + 1, σ, x2, x3 => if (6 : Int32) ≤ x3 then (some (x2, σ)) else ((X4_setView σ x2 x3 (0 : Int32)).bind fun s3 => X4_addPerson_b31 n s3 x2 ((x3 + (1 : Int32))))
set_option maxHeartbeats 4000000 in
set_option maxRecDepth 100000 in
theorem wX4_addPerson_b31 {p : Program} {l : Launch} {e : Env} {s : State} {m : MethodId} {below : List Frame} {meth : Method} {c : Code} {D : va_G} {cy cz : ClassId} {G : GT} {A : Nat → Prop} {args : Array Value} {a : Nat → Nat} {r : Int32} {σr : MS} (C : Cx p s m args c cX4_addPerson 4 "PumpTalk$Square" D cy cz G A) (hr : meth.sig.returnType = some .int) (hlk : meth.locks = false) : ∀ (n : Nat) (σ : MS) (x2 : Int32) (x3 : Int32) (H : Heap) (locs : List Loc) (ls : Array Slot), X4_addPerson_b31 n σ x2 x3 = some (r, σr) → Wd D A s.heap H locs (cSq a cy σ) → lv_has ls 4 [(0, .ref (a 0)), (2, .int x2), (3, .int x3)] → W p l e (rmz 1 23) s m args below meth c H locs 0 0 (MQ below (QI D cy cz A (cSq a cy σr) r) args s 0 0 A) (F0 m 31 ls []) := by
  have hx := C.1
  have hb := C.2.1
  intro n
  induction n with
  | zero =>
    intro σ x2 x3 H locs ls hm
    rw [X4_addPerson_b31] at hm
    cases hm
  | succ n ih =>
    intro σ x2 x3 H locs ls hm hW hl
    rw [X4_addPerson_b31] at hm
    refine lv_iload_n hx hb dX4_addPerson_31 rfl (lv_at hl 2 rfl) ?_
    refine lv_bipush (v := 6) hx hb dX4_addPerson_32 (by decide) ?_
    refine lv_icmp_ge (tgt := 50) hx hb dX4_addPerson_34 (by decide) (fun hc1 => ?_) (fun hc1 => ?_)
    · rw [if_pos hc1] at hm
      refine lv_iload_n hx hb dX4_addPerson_50 rfl (lv_at hl 1 rfl) ?_
      obtain ⟨rfl, rfl⟩ := Prod.mk.inj (Option.some.inj hm)
      exact en_i C hr hlk hW dX4_addPerson_51
    · rw [if_neg hc1] at hm
      refine lv_aload_n hx hb dX4_addPerson_37 rfl (lv_at hl 0 rfl) ?_
      refine lv_iload_n hx hb dX4_addPerson_38 rfl (lv_at hl 1 rfl) ?_
      refine lv_iload_n hx hb dX4_addPerson_39 rfl (lv_at hl 2 rfl) ?_
      refine lv_iconst (v := 0) hx hb dX4_addPerson_40 (by decide) ?_
      obtain ⟨s3, e2, hm⟩ := mi_bind hm
      refine cs_v (q0 := 0) (As := [.int x2, .int x3, .int (0 : Int32)]) (rest := []) C hW (c_X4_setView e2) kX4_setView q245 rfl rfl rfl rfl rfl hl.1 ⟨Nat.le_of_ble_eq_true rfl, Nat.le_of_ble_eq_true rfl⟩ ⟨Nat.le_refl 0, Nat.le_refl 0⟩ (Nat.le_of_ble_eq_true rfl) dX4_addPerson_41 (fun H locs hW => ?_)
      refine lv_iinc (v := (x3 + (1 : Int32))) (lv' := [(3, .int (x3 + (1 : Int32))), (0, .ref (a 0)), (2, .int x2)]) hx hb dX4_addPerson_44 hl (k := 2) rfl (congrArg (fun z : Int32 => x3 + z) (by decide)) (by decide) rfl (fun ls hl => ?_)
      refine lv_goto (tgt := 31) hx hb dX4_addPerson_47 (by decide) ?_
      exact ih s3 x2 ((x3 + (1 : Int32))) _ _ _ hm hW (lv_sub hl [1, 2, 0] rfl)
def X4_addPerson (σ : MS) (p1 : Int32) : Option (Int32 × MS) := ai (σ 11 4) 8 (ai (σ 11 4) 8 (X4_addPerson_b31 FU (su (su (su σ 11 4 ((σ 11 4) + (1 : Int32))) 0 (Int32.toNatClampNeg (σ 11 4)) p1) 1 (Int32.toNatClampNeg (σ 11 4)) (3 : Int32)) (σ 11 4) (0 : Int32)))
set_option maxHeartbeats 4000000 in
set_option maxRecDepth 100000 in
theorem c_X4_addPerson {l : Launch} {D : va_G} {cy cz : ClassId} {G : GT} {a : Nat → Nat} {σ : MS} {p1 : Int32} {r : Int32} {σr : MS} (hm : X4_addPerson σ p1 = some (r, σr)) : CtI l D cy cz G yX4_addPerson cX4_addPerson 4 (some .int) 1 23 [.ref (a 0), .int p1] (cSq a cy σ) (cSq a cy σr) r := by
  refine ct_i (own := "PumpTalk$Square") (by decide) rfl (Nat.le_of_ble_eq_true rfl) ?_
  intro p e s m below meth c ls A C hr hlk hW hl
  have hx := C.1
  have hb := C.2.1
  have hl : lv_has ls 4 [(0, .ref (a 0)), (1, .int p1)] := hl
  unfold X4_addPerson at hm
  refine lv_aload_n hx hb dX4_addPerson_0 rfl (lv_at hl 0 rfl) ?_
  refine gSq_people C hW q100 dX4_addPerson_1 ?_
  refine lv_istore_n (lv' := [(2, .int (σ 11 4)), (0, .ref (a 0)), (1, .int p1)]) hx hb dX4_addPerson_4 rfl hl (by decide) rfl (fun ls hl => ?_)
  refine lv_aload_n hx hb dX4_addPerson_5 rfl (lv_at hl 1 rfl) ?_
  refine lv_dup hx hb dX4_addPerson_6 rfl ?_
  refine gSq_people C hW q100 dX4_addPerson_7 ?_
  refine lv_iconst (v := 1) hx hb dX4_addPerson_10 (by decide) ?_
  refine lv_iadd hx hb dX4_addPerson_11 ?_
  refine pSq_people C hW q100 dX4_addPerson_12 (fun H locs hW => ?_)
  refine lv_aload_n hx hb dX4_addPerson_15 rfl (lv_at hl 1 rfl) ?_
  refine gSq_kindOf C hW q95 dX4_addPerson_16 ?_
  refine lv_iload_n hx hb dX4_addPerson_19 rfl (lv_at hl 0 rfl) ?_
  refine lv_iload_n hx hb dX4_addPerson_20 rfl (lv_at hl 2 rfl) ?_
  obtain ⟨hi4, hm⟩ := mi_ai hm
  refine tSq_kindOf C hW hi4 dX4_addPerson_21 (fun H locs hW => ?_)
  refine lv_aload_n hx hb dX4_addPerson_22 rfl (lv_at hl 1 rfl) ?_
  refine gSq_voiceOf C hW q96 dX4_addPerson_23 ?_
  refine lv_iload_n hx hb dX4_addPerson_26 rfl (lv_at hl 0 rfl) ?_
  refine lv_iconst (v := 3) hx hb dX4_addPerson_27 (by decide) ?_
  obtain ⟨hi5, hm⟩ := mi_ai hm
  refine tSq_voiceOf C hW hi5 dX4_addPerson_28 (fun H locs hW => ?_)
  refine lv_iconst (v := 0) hx hb dX4_addPerson_29 (by decide) ?_
  refine lv_istore_n (lv' := [(3, .int (0 : Int32)), (2, .int (σ 11 4)), (0, .ref (a 0)), (1, .int p1)]) hx hb dX4_addPerson_30 rfl hl (by decide) rfl (fun ls hl => ?_)
  exact wX4_addPerson_b31 C hr hlk FU (su (su (su σ 11 4 ((σ 11 4) + (1 : Int32))) 0 (Int32.toNatClampNeg (σ 11 4)) p1) 1 (Int32.toNatClampNeg (σ 11 4)) (3 : Int32)) (σ 11 4) (0 : Int32) _ _ _ hm hW (lv_sub hl [2, 1, 0] rfl)
theorem kX4_addPerson : KM yX4_addPerson cX4_addPerson 4 (some .int) 1 := ⟨q242, q243, q68, q244, by decide +kernel, by decide +kernel, by decide +kernel⟩
def X4_isThere (σ : MS) (p1 : Int32) : Option (Int32) := if p1 < (0 : Int32) then (some (0 : Int32)) else (if (σ 11 4) ≤ p1 then (some (0 : Int32)) else (some (1 : Int32)))
set_option maxHeartbeats 4000000 in
set_option maxRecDepth 100000 in
theorem c_X4_isThere {l : Launch} {D : va_G} {cy cz : ClassId} {G : GT} {a : Nat → Nat} {σ : MS} {p1 : Int32} {r : Int32} (hm : X4_isThere σ p1 = some r) : CtI l D cy cz G yX4_isThere cX4_isThere 2 (some .boolean) 0 0 [.ref (a 0), .int p1] (cSq a cy σ) (cSq a cy σ) r := by
  refine ct_i (own := "PumpTalk$Square") (by decide) rfl (Nat.le_of_ble_eq_true rfl) ?_
  intro p e s m below meth c ls A C hr hlk hW hl
  have hx := C.1
  have hb := C.2.1
  have hl : lv_has ls 2 [(0, .ref (a 0)), (1, .int p1)] := hl
  unfold X4_isThere at hm
  refine lv_iload_n hx hb dX4_isThere_0 rfl (lv_at hl 1 rfl) ?_
  refine lv_if_lt (tgt := 16) hx hb dX4_isThere_1 (by decide) (fun hc1 => ?_) (fun hc1 => ?_)
  · rw [if_pos hc1] at hm
    refine lv_iconst (v := 0) hx hb dX4_isThere_16 (by decide) ?_
    obtain rfl := Option.some.inj hm
    exact en_z C hr hlk rfl hW dX4_isThere_17
  · rw [if_neg hc1] at hm
    refine lv_iload_n hx hb dX4_isThere_4 rfl (lv_at hl 1 rfl) ?_
    refine lv_aload_n hx hb dX4_isThere_5 rfl (lv_at hl 0 rfl) ?_
    refine gSq_people C hW q100 dX4_isThere_6 ?_
    refine lv_icmp_ge (tgt := 16) hx hb dX4_isThere_9 (by decide) (fun hc2 => ?_) (fun hc2 => ?_)
    · rw [if_pos hc2] at hm
      refine lv_iconst (v := 0) hx hb dX4_isThere_16 (by decide) ?_
      obtain rfl := Option.some.inj hm
      exact en_z C hr hlk rfl hW dX4_isThere_17
    · rw [if_neg hc2] at hm
      refine lv_iconst (v := 1) hx hb dX4_isThere_12 (by decide) ?_
      refine lv_goto (tgt := 17) hx hb dX4_isThere_13 (by decide) ?_
      obtain rfl := Option.some.inj hm
      exact en_z C hr hlk rfl hW dX4_isThere_17
theorem kX4_isThere : KM yX4_isThere cX4_isThere 2 (some .boolean) 1 := ⟨q254, q255, q68, q256, by decide +kernel, by decide +kernel, by decide +kernel⟩
def X4_isAtHandle (σ : MS) (p1 : Int32) : Option (Int32) := if p1 = (σ 11 8) then (some (1 : Int32)) else (if p1 = (σ 11 9) then (some (1 : Int32)) else (some (0 : Int32)))
set_option maxHeartbeats 4000000 in
set_option maxRecDepth 100000 in
theorem c_X4_isAtHandle {l : Launch} {D : va_G} {cy cz : ClassId} {G : GT} {a : Nat → Nat} {σ : MS} {p1 : Int32} {r : Int32} (hm : X4_isAtHandle σ p1 = some r) : CtI l D cy cz G yX4_isAtHandle cX4_isAtHandle 2 (some .boolean) 0 0 [.ref (a 0), .int p1] (cSq a cy σ) (cSq a cy σ) r := by
  refine ct_i (own := "PumpTalk$Square") (by decide) rfl (Nat.le_of_ble_eq_true rfl) ?_
  intro p e s m below meth c ls A C hr hlk hW hl
  have hx := C.1
  have hb := C.2.1
  have hl : lv_has ls 2 [(0, .ref (a 0)), (1, .int p1)] := hl
  unfold X4_isAtHandle at hm
  refine lv_iload_n hx hb dX4_isAtHandle_0 rfl (lv_at hl 1 rfl) ?_
  refine lv_aload_n hx hb dX4_isAtHandle_1 rfl (lv_at hl 0 rfl) ?_
  refine gSq_first C hW q110 dX4_isAtHandle_2 ?_
  refine lv_icmp_eq (tgt := 16) hx hb dX4_isAtHandle_5 (by decide) (fun hc1 => ?_) (fun hc1 => ?_)
  · rw [if_pos hc1] at hm
    refine lv_iconst (v := 1) hx hb dX4_isAtHandle_16 (by decide) ?_
    refine lv_goto (tgt := 21) hx hb dX4_isAtHandle_17 (by decide) ?_
    obtain rfl := Option.some.inj hm
    exact en_z C hr hlk rfl hW dX4_isAtHandle_21
  · rw [if_neg hc1] at hm
    refine lv_iload_n hx hb dX4_isAtHandle_8 rfl (lv_at hl 1 rfl) ?_
    refine lv_aload_n hx hb dX4_isAtHandle_9 rfl (lv_at hl 0 rfl) ?_
    refine gSq_second C hW q112 dX4_isAtHandle_10 ?_
    refine lv_icmp_ne (tgt := 20) hx hb dX4_isAtHandle_13 (by decide) (fun hc2 => ?_) (fun hc2 => ?_)
    · rw [if_neg hc2] at hm
      refine lv_iconst (v := 0) hx hb dX4_isAtHandle_20 (by decide) ?_
      obtain rfl := Option.some.inj hm
      exact en_z C hr hlk rfl hW dX4_isAtHandle_21
    · rw [if_pos hc2] at hm
      refine lv_iconst (v := 1) hx hb dX4_isAtHandle_16 (by decide) ?_
      refine lv_goto (tgt := 21) hx hb dX4_isAtHandle_17 (by decide) ?_
      obtain rfl := Option.some.inj hm
      exact en_z C hr hlk rfl hW dX4_isAtHandle_21
theorem kX4_isAtHandle : KM yX4_isAtHandle cX4_isAtHandle 2 (some .boolean) 1 := ⟨q258, q259, q68, q260, by decide +kernel, by decide +kernel, by decide +kernel⟩
def X4_viewOn (σ : MS) (p1 : Int32) (p2 : Int32) : Option (Int32) := ai ((p1 * (6 : Int32)) + p2) 48 (some (σ 2 (Int32.toNatClampNeg ((p1 * (6 : Int32)) + p2))))
set_option maxHeartbeats 4000000 in
set_option maxRecDepth 100000 in
theorem c_X4_viewOn {l : Launch} {D : va_G} {cy cz : ClassId} {G : GT} {a : Nat → Nat} {σ : MS} {p1 : Int32} {p2 : Int32} {r : Int32} (hm : X4_viewOn σ p1 p2 = some r) : CtI l D cy cz G yX4_viewOn cX4_viewOn 3 (some .int) 0 0 [.ref (a 0), .int p1, .int p2] (cSq a cy σ) (cSq a cy σ) r := by
  refine ct_i (own := "PumpTalk$Square") (by decide) rfl (Nat.le_of_ble_eq_true rfl) ?_
  intro p e s m below meth c ls A C hr hlk hW hl
  have hx := C.1
  have hb := C.2.1
  have hl : lv_has ls 3 [(0, .ref (a 0)), (1, .int p1), (2, .int p2)] := hl
  unfold X4_viewOn at hm
  refine lv_aload_n hx hb dX4_viewOn_0 rfl (lv_at hl 0 rfl) ?_
  refine gSq_views C hW q97 dX4_viewOn_1 ?_
  refine lv_iload_n hx hb dX4_viewOn_4 rfl (lv_at hl 1 rfl) ?_
  refine lv_bipush (v := 6) hx hb dX4_viewOn_5 (by decide) ?_
  refine lv_imul hx hb dX4_viewOn_7 ?_
  refine lv_iload_n hx hb dX4_viewOn_8 rfl (lv_at hl 2 rfl) ?_
  refine lv_iadd hx hb dX4_viewOn_9 ?_
  obtain ⟨hi1, hm⟩ := mi_ai hm
  refine lSq_views C hW hi1 dX4_viewOn_10 ?_
  obtain rfl := Option.some.inj hm
  exact en_i C hr hlk hW dX4_viewOn_11
theorem kX4_viewOn : KM yX4_viewOn cX4_viewOn 3 (some .int) 2 := ⟨q266, q267, q68, q268, by decide +kernel, by decide +kernel, by decide +kernel⟩
def X4_trait (σ : MS) (p1 : Int32) (p2 : Int32) : Option (Int32) := if p2 = (0 : Int32) then (ai p1 8 (some (σ 0 (Int32.toNatClampNeg p1)))) else (if p2 = (1 : Int32) then (ai p1 8 (some (σ 1 (Int32.toNatClampNeg p1)))) else ((X4_viewOn σ p1 (p2 - (2 : Int32))).bind fun v4 => some v4))
set_option maxHeartbeats 4000000 in
set_option maxRecDepth 100000 in
theorem c_X4_trait {l : Launch} {D : va_G} {cy cz : ClassId} {G : GT} {a : Nat → Nat} {σ : MS} {p1 : Int32} {p2 : Int32} {r : Int32} (hm : X4_trait σ p1 p2 = some r) : CtI l D cy cz G yX4_trait cX4_trait 3 (some .int) 1 22 [.ref (a 0), .int p1, .int p2] (cSq a cy σ) (cSq a cy σ) r := by
  refine ct_i (own := "PumpTalk$Square") (by decide) rfl (Nat.le_of_ble_eq_true rfl) ?_
  intro p e s m below meth c ls A C hr hlk hW hl
  have hx := C.1
  have hb := C.2.1
  have hl : lv_has ls 3 [(0, .ref (a 0)), (1, .int p1), (2, .int p2)] := hl
  unfold X4_trait at hm
  refine lv_iload_n hx hb dX4_trait_0 rfl (lv_at hl 2 rfl) ?_
  refine lv_if_ne (tgt := 11) hx hb dX4_trait_1 (by decide) (fun hc1 => ?_) (fun hc1 => ?_)
  · rw [if_neg hc1] at hm
    refine lv_iload_n hx hb dX4_trait_11 rfl (lv_at hl 2 rfl) ?_
    refine lv_iconst (v := 1) hx hb dX4_trait_12 (by decide) ?_
    refine lv_icmp_ne (tgt := 25) hx hb dX4_trait_13 (by decide) (fun hc2 => ?_) (fun hc2 => ?_)
    · rw [if_neg hc2] at hm
      refine lv_aload_n hx hb dX4_trait_25 rfl (lv_at hl 0 rfl) ?_
      refine lv_iload_n hx hb dX4_trait_26 rfl (lv_at hl 1 rfl) ?_
      refine lv_iload_n hx hb dX4_trait_27 rfl (lv_at hl 2 rfl) ?_
      refine lv_iconst (v := 2) hx hb dX4_trait_28 (by decide) ?_
      refine lv_isub hx hb dX4_trait_29 ?_
      obtain ⟨v4, e3, hm⟩ := mi_bind hm
      refine cs_i (q0 := 0) (As := [.int p1, .int (p2 - (2 : Int32))]) (rest := []) C hW (c_X4_viewOn e3) kX4_viewOn q265 rfl rfl rfl rfl rfl hl.1 ⟨Nat.le_of_ble_eq_true rfl, Nat.le_of_ble_eq_true rfl⟩ ⟨Nat.le_refl 0, Nat.le_refl 0⟩ (Nat.le_of_ble_eq_true rfl) dX4_trait_30 (fun H locs hW => ?_)
      obtain rfl := Option.some.inj hm
      exact en_i C hr hlk hW dX4_trait_33
    · rw [if_pos hc2] at hm
      refine lv_aload_n hx hb dX4_trait_16 rfl (lv_at hl 0 rfl) ?_
      refine gSq_voiceOf C hW q96 dX4_trait_17 ?_
      refine lv_iload_n hx hb dX4_trait_20 rfl (lv_at hl 1 rfl) ?_
      obtain ⟨hi5, hm⟩ := mi_ai hm
      refine lSq_voiceOf C hW hi5 dX4_trait_21 ?_
      refine lv_goto (tgt := 33) hx hb dX4_trait_22 (by decide) ?_
      obtain rfl := Option.some.inj hm
      exact en_i C hr hlk hW dX4_trait_33
  · rw [if_pos hc1] at hm
    refine lv_aload_n hx hb dX4_trait_4 rfl (lv_at hl 0 rfl) ?_
    refine gSq_kindOf C hW q95 dX4_trait_5 ?_
    refine lv_iload_n hx hb dX4_trait_8 rfl (lv_at hl 1 rfl) ?_
    obtain ⟨hi6, hm⟩ := mi_ai hm
    refine lSq_kindOf C hW hi6 dX4_trait_9 ?_
    obtain rfl := Option.some.inj hm
    exact en_i C hr hlk hW dX4_trait_10
theorem kX4_trait : KM yX4_trait cX4_trait 3 (some .int) 2 := ⟨q262, q263, q68, q264, by decide +kernel, by decide +kernel, by decide +kernel⟩
def X4_setTrait (σ : MS) (p1 : Int32) (p2 : Int32) (p3 : Int32) : Option (MS) := if p2 = (0 : Int32) then (ai p1 8 (some (su σ 0 (Int32.toNatClampNeg p1) p3))) else (if p2 = (1 : Int32) then (ai p1 8 (some (su σ 1 (Int32.toNatClampNeg p1) p3))) else ((X4_setView σ p1 (p2 - (2 : Int32)) p3).bind fun s4 => some s4))
set_option maxHeartbeats 4000000 in
set_option maxRecDepth 100000 in
theorem c_X4_setTrait {l : Launch} {D : va_G} {cy cz : ClassId} {G : GT} {a : Nat → Nat} {σ : MS} {p1 : Int32} {p2 : Int32} {p3 : Int32} {σr : MS} (hm : X4_setTrait σ p1 p2 p3 = some σr) : CtV l D cy cz G yX4_setTrait cX4_setTrait 4 none 1 23 [.ref (a 0), .int p1, .int p2, .int p3] (cSq a cy σ) (cSq a cy σr) () := by
  refine ct_v (own := "PumpTalk$Square") (by decide) rfl (Nat.le_of_ble_eq_true rfl) ?_
  intro p e s m below meth c ls A C hr hlk hW hl
  have hx := C.1
  have hb := C.2.1
  have hl : lv_has ls 4 [(0, .ref (a 0)), (1, .int p1), (2, .int p2), (3, .int p3)] := hl
  unfold X4_setTrait at hm
  refine lv_iload_n hx hb dX4_setTrait_0 rfl (lv_at hl 2 rfl) ?_
  refine lv_if_ne (tgt := 14) hx hb dX4_setTrait_1 (by decide) (fun hc1 => ?_) (fun hc1 => ?_)
  · rw [if_neg hc1] at hm
    refine lv_iload_n hx hb dX4_setTrait_14 rfl (lv_at hl 2 rfl) ?_
    refine lv_iconst (v := 1) hx hb dX4_setTrait_15 (by decide) ?_
    refine lv_icmp_ne (tgt := 29) hx hb dX4_setTrait_16 (by decide) (fun hc2 => ?_) (fun hc2 => ?_)
    · rw [if_neg hc2] at hm
      refine lv_aload_n hx hb dX4_setTrait_29 rfl (lv_at hl 0 rfl) ?_
      refine lv_iload_n hx hb dX4_setTrait_30 rfl (lv_at hl 1 rfl) ?_
      refine lv_iload_n hx hb dX4_setTrait_31 rfl (lv_at hl 2 rfl) ?_
      refine lv_iconst (v := 2) hx hb dX4_setTrait_32 (by decide) ?_
      refine lv_isub hx hb dX4_setTrait_33 ?_
      refine lv_iload_n hx hb dX4_setTrait_34 rfl (lv_at hl 3 rfl) ?_
      obtain ⟨s4, e3, hm⟩ := mi_bind hm
      refine cs_v (q0 := 0) (As := [.int p1, .int (p2 - (2 : Int32)), .int p3]) (rest := []) C hW (c_X4_setView e3) kX4_setView q245 rfl rfl rfl rfl rfl hl.1 ⟨Nat.le_of_ble_eq_true rfl, Nat.le_of_ble_eq_true rfl⟩ ⟨Nat.le_refl 0, Nat.le_refl 0⟩ (Nat.le_of_ble_eq_true rfl) dX4_setTrait_35 (fun H locs hW => ?_)
      obtain rfl := Option.some.inj hm
      exact en_v C hr hlk hW dX4_setTrait_38
    · rw [if_pos hc2] at hm
      refine lv_aload_n hx hb dX4_setTrait_19 rfl (lv_at hl 0 rfl) ?_
      refine gSq_voiceOf C hW q96 dX4_setTrait_20 ?_
      refine lv_iload_n hx hb dX4_setTrait_23 rfl (lv_at hl 1 rfl) ?_
      refine lv_iload_n hx hb dX4_setTrait_24 rfl (lv_at hl 3 rfl) ?_
      obtain ⟨hi5, hm⟩ := mi_ai hm
      refine tSq_voiceOf C hW hi5 dX4_setTrait_25 (fun H locs hW => ?_)
      refine lv_goto (tgt := 38) hx hb dX4_setTrait_26 (by decide) ?_
      obtain rfl := Option.some.inj hm
      exact en_v C hr hlk hW dX4_setTrait_38
  · rw [if_pos hc1] at hm
    refine lv_aload_n hx hb dX4_setTrait_4 rfl (lv_at hl 0 rfl) ?_
    refine gSq_kindOf C hW q95 dX4_setTrait_5 ?_
    refine lv_iload_n hx hb dX4_setTrait_8 rfl (lv_at hl 1 rfl) ?_
    refine lv_iload_n hx hb dX4_setTrait_9 rfl (lv_at hl 3 rfl) ?_
    obtain ⟨hi6, hm⟩ := mi_ai hm
    refine tSq_kindOf C hW hi6 dX4_setTrait_10 (fun H locs hW => ?_)
    refine lv_goto (tgt := 38) hx hb dX4_setTrait_11 (by decide) ?_
    obtain rfl := Option.some.inj hm
    exact en_v C hr hlk hW dX4_setTrait_38
theorem kX4_setTrait : KM yX4_setTrait cX4_setTrait 4 none 3 := ⟨q283, q284, q68, q285, by decide +kernel, by decide +kernel, by decide +kernel⟩
def X0_moves_b11 (x0 : Int32) (x1 : Int32) (y0 : Int32) : Option (Int32) := if x0 = (1 : Int32) then (some (0 : Int32)) else (if x0 = (2 : Int32) then (some (-1 : Int32)) else (if x0 = (3 : Int32) then (some y0) else (if x0 = (4 : Int32) then (if x1 ≤ (5 : Int32) then (some y0) else (some (y0 + (1 : Int32)))) else (if x0 = (5 : Int32) then (some x1) else (if x0 = (6 : Int32) then (some (x1 / (2 : Int32))) else (some (1 : Int32)))))))
set_option maxHeartbeats 4000000 in
set_option maxRecDepth 100000 in
theorem wX0_moves_b11 {p : Program} {l : Launch} {e : Env} {s : State} {m : MethodId} {below : List Frame} {meth : Method} {c : Code} {D : va_G} {cy cz : ClassId} {G : GT} {A : Nat → Prop} {args : Array Value} {r : Int32} (C : Cx p s m args c cX0_moves 4 "PumpTalk$Kinds" D cy cz G A) (hr : meth.sig.returnType = some .int) (hlk : meth.locks = false) : ∀ (x0 : Int32) (x1 : Int32) (y0 : Int32) (H : Heap) (locs : List Loc) (ls : Array Slot), X0_moves_b11 x0 x1 y0 = some r → Wd D A s.heap H locs ([] : va_W) → lv_has ls 4 [(0, .int x0), (1, .int x1)] → W p l e (rmz 0 0) s m args below meth c H locs 0 0 (MQ below (QI D cy cz A ([] : va_W) r) args s 0 0 A) (F0 m 11 ls [.int y0]) := by
  have hx := C.1
  have hb := C.2.1
  intro x0 x1 y0 H locs ls hm hW hl
  unfold X0_moves_b11 at hm
  refine lv_istore_n (lv' := [(3, .int y0), (0, .int x0), (1, .int x1)]) hx hb dX0_moves_11 rfl hl (by decide) rfl (fun ls hl => ?_)
  refine lv_iload_n hx hb dX0_moves_12 rfl (lv_at hl 1 rfl) ?_
  by_cases ht1 : x0 = (1 : Int32)
  · rw [if_pos ht1] at hm
    refine lv_tableIn (tgt := 52) (off := 39) hx hb dX0_moves_13 (by rw [ht1]; decide) (by rw [ht1]; decide) (by rw [ht1]; rfl) (by decide) ?_
    refine lv_iconst (v := 0) hx hb dX0_moves_52 (by decide) ?_
    obtain rfl := Option.some.inj hm
    exact en_i C hr hlk hW dX0_moves_53
  · rw [if_neg ht1] at hm
    by_cases ht2 : x0 = (2 : Int32)
    · rw [if_pos ht2] at hm
      refine lv_tableIn (tgt := 54) (off := 41) hx hb dX0_moves_13 (by rw [ht2]; decide) (by rw [ht2]; decide) (by rw [ht2]; rfl) (by decide) ?_
      refine lv_iconst (v := -1) hx hb dX0_moves_54 (by decide) ?_
      obtain rfl := Option.some.inj hm
      exact en_i C hr hlk hW dX0_moves_55
    · rw [if_neg ht2] at hm
      by_cases ht3 : x0 = (3 : Int32)
      · rw [if_pos ht3] at hm
        refine lv_tableIn (tgt := 56) (off := 43) hx hb dX0_moves_13 (by rw [ht3]; decide) (by rw [ht3]; decide) (by rw [ht3]; rfl) (by decide) ?_
        refine lv_iload_n hx hb dX0_moves_56 rfl (lv_at hl 0 rfl) ?_
        obtain rfl := Option.some.inj hm
        exact en_i C hr hlk hW dX0_moves_57
      · rw [if_neg ht3] at hm
        by_cases ht4 : x0 = (4 : Int32)
        · rw [if_pos ht4] at hm
          refine lv_tableIn (tgt := 58) (off := 45) hx hb dX0_moves_13 (by rw [ht4]; decide) (by rw [ht4]; decide) (by rw [ht4]; rfl) (by decide) ?_
          refine lv_iload_n hx hb dX0_moves_58 rfl (lv_at hl 2 rfl) ?_
          refine lv_iconst (v := 5) hx hb dX0_moves_59 (by decide) ?_
          refine lv_icmp_le (tgt := 69) hx hb dX0_moves_60 (by decide) (fun hc5 => ?_) (fun hc5 => ?_)
          · rw [if_pos hc5] at hm
            refine lv_iload_n hx hb dX0_moves_69 rfl (lv_at hl 0 rfl) ?_
            obtain rfl := Option.some.inj hm
            exact en_i C hr hlk hW dX0_moves_70
          · rw [if_neg hc5] at hm
            refine lv_iload_n hx hb dX0_moves_63 rfl (lv_at hl 0 rfl) ?_
            refine lv_iconst (v := 1) hx hb dX0_moves_64 (by decide) ?_
            refine lv_iadd hx hb dX0_moves_65 ?_
            refine lv_goto (tgt := 70) hx hb dX0_moves_66 (by decide) ?_
            obtain rfl := Option.some.inj hm
            exact en_i C hr hlk hW dX0_moves_70
        · rw [if_neg ht4] at hm
          by_cases ht6 : x0 = (5 : Int32)
          · rw [if_pos ht6] at hm
            refine lv_tableIn (tgt := 71) (off := 58) hx hb dX0_moves_13 (by rw [ht6]; decide) (by rw [ht6]; decide) (by rw [ht6]; rfl) (by decide) ?_
            refine lv_iload_n hx hb dX0_moves_71 rfl (lv_at hl 2 rfl) ?_
            obtain rfl := Option.some.inj hm
            exact en_i C hr hlk hW dX0_moves_72
          · rw [if_neg ht6] at hm
            by_cases ht7 : x0 = (6 : Int32)
            · rw [if_pos ht7] at hm
              refine lv_tableIn (tgt := 73) (off := 60) hx hb dX0_moves_13 (by rw [ht7]; decide) (by rw [ht7]; decide) (by rw [ht7]; rfl) (by decide) ?_
              refine lv_iload_n hx hb dX0_moves_73 rfl (lv_at hl 2 rfl) ?_
              refine lv_iconst (v := 2) hx hb dX0_moves_74 (by decide) ?_
              refine lv_idiv hx hb dX0_moves_75 (by decide) ?_
              obtain rfl := Option.some.inj hm
              exact en_i C hr hlk hW dX0_moves_76
            · rw [if_neg ht7] at hm
              refine lv_tableOut (tgt := 77) hx hb dX0_moves_13 (by have ht := tab_out (x := x0) 1 6 (by decide) (fun k hk => by rcases (show k = 0 ∨ k = 1 ∨ k = 2 ∨ k = 3 ∨ k = 4 ∨ k = 5 by omega) with rfl | rfl | rfl | rfl | rfl | rfl <;> first | exact ht1 | exact ht2 | exact ht3 | exact ht4 | exact ht6 | exact ht7); omega) (by decide) ?_
              refine lv_iconst (v := 1) hx hb dX0_moves_77 (by decide) ?_
              obtain rfl := Option.some.inj hm
              exact en_i C hr hlk hW dX0_moves_78
def X0_moves (p1 : Int32) (p2 : Int32) (p3 : Int32) : Option (Int32) := if (p3 - p3 / (2 : Int32) * (2 : Int32)) = (0 : Int32) then (X0_moves_b11 p1 p2 (-1 : Int32)) else (X0_moves_b11 p1 p2 (1 : Int32))
set_option maxHeartbeats 4000000 in
set_option maxRecDepth 100000 in
theorem c_X0_moves {l : Launch} {D : va_G} {cy cz : ClassId} {G : GT} {p1 : Int32} {p2 : Int32} {p3 : Int32} {r : Int32} (hm : X0_moves p1 p2 p3 = some r) : CtI l D cy cz G yX0_moves cX0_moves 4 (some .int) 0 0 [.int p1, .int p2, .int p3] ([] : va_W) ([] : va_W) r := by
  refine ct_i (own := "PumpTalk$Kinds") (by decide) rfl (Nat.le_of_ble_eq_true rfl) ?_
  intro p e s m below meth c ls A C hr hlk hW hl
  have hx := C.1
  have hb := C.2.1
  have hl : lv_has ls 4 [(0, .int p1), (1, .int p2), (2, .int p3)] := hl
  unfold X0_moves at hm
  refine lv_iload_n hx hb dX0_moves_0 rfl (lv_at hl 2 rfl) ?_
  refine lv_iconst (v := 2) hx hb dX0_moves_1 (by decide) ?_
  refine lv_irem hx hb dX0_moves_2 (by decide) ?_
  refine lv_if_ne (tgt := 10) hx hb dX0_moves_3 (by decide) (fun hc8 => ?_) (fun hc8 => ?_)
  · rw [if_neg hc8] at hm
    refine lv_iconst (v := 1) hx hb dX0_moves_10 (by decide) ?_
    exact wX0_moves_b11 C hr hlk p1 p2 (1 : Int32) _ _ _ hm hW (lv_sub hl [0, 1] rfl)
  · rw [if_pos hc8] at hm
    refine lv_iconst (v := -1) hx hb dX0_moves_6 (by decide) ?_
    refine lv_goto (tgt := 11) hx hb dX0_moves_7 (by decide) ?_
    exact wX0_moves_b11 C hr hlk p1 p2 (-1 : Int32) _ _ _ hm hW (lv_sub hl [0, 1] rfl)
theorem kX0_moves : KS yX0_moves cX0_moves 4 (some .int) 3 := ⟨q295, q73, q296, by decide +kernel, by decide +kernel, by decide +kernel⟩
def X4_movesOf (σ : MS) (p1 : Int32) (p2 : Int32) : Option (Int32) := ai p1 8 ((X0_moves (σ 0 (Int32.toNatClampNeg p1)) p2 (σ 11 5)).bind fun v3 => some v3)
set_option maxHeartbeats 4000000 in
set_option maxRecDepth 100000 in
theorem c_X4_movesOf {l : Launch} {D : va_G} {cy cz : ClassId} {G : GT} {a : Nat → Nat} {σ : MS} {p1 : Int32} {p2 : Int32} {r : Int32} (hm : X4_movesOf σ p1 p2 = some r) : CtI l D cy cz G yX4_movesOf cX4_movesOf 3 (some .int) 1 23 [.ref (a 0), .int p1, .int p2] (cSq a cy σ) (cSq a cy σ) r := by
  refine ct_i (own := "PumpTalk$Square") (by decide) rfl (Nat.le_of_ble_eq_true rfl) ?_
  intro p e s m below meth c ls A C hr hlk hW hl
  have hx := C.1
  have hb := C.2.1
  have hl : lv_has ls 3 [(0, .ref (a 0)), (1, .int p1), (2, .int p2)] := hl
  unfold X4_movesOf at hm
  refine lv_aload_n hx hb dX4_movesOf_0 rfl (lv_at hl 0 rfl) ?_
  refine gSq_kindOf C hW q95 dX4_movesOf_1 ?_
  refine lv_iload_n hx hb dX4_movesOf_4 rfl (lv_at hl 1 rfl) ?_
  obtain ⟨hi1, hm⟩ := mi_ai hm
  refine lSq_kindOf C hW hi1 dX4_movesOf_5 ?_
  refine lv_iload_n hx hb dX4_movesOf_6 rfl (lv_at hl 2 rfl) ?_
  refine lv_aload_n hx hb dX4_movesOf_7 rfl (lv_at hl 0 rfl) ?_
  refine gSq_minute C hW q103 dX4_movesOf_8 ?_
  obtain ⟨v3, e2, hm⟩ := mi_bind hm
  refine cS_i (As := [.int (σ 0 (Int32.toNatClampNeg p1)), .int p2, .int (σ 11 5)]) (rest := []) C hW (c_X0_moves e2) kX0_moves q294 rfl rfl hl.1 ⟨Nat.le_of_ble_eq_true rfl, Nat.le_of_ble_eq_true rfl⟩ ⟨Nat.le_refl 0, Nat.le_refl 0⟩ (Nat.le_of_ble_eq_true rfl) dX4_movesOf_11 (fun H locs hW => ?_)
  obtain rfl := Option.some.inj hm
  exact en_i C hr hlk hW dX4_movesOf_14
theorem kX4_movesOf : KM yX4_movesOf cX4_movesOf 3 (some .int) 2 := ⟨q291, q292, q68, q293, by decide +kernel, by decide +kernel, by decide +kernel⟩
def X0_strokes_b18 (x0 : Int32) (x1 : Int32) (x3 : Int32) (x4 : Int32) (y0 : Int32) : Option (Int32) := if x0 = (1 : Int32) then (some (x1 + (2 : Int32))) else (if x0 = (2 : Int32) then (some x4) else (if x0 = (3 : Int32) then (some y0) else (if x0 = (4 : Int32) then (some ((2 : Int32) * y0)) else (if x0 = (5 : Int32) then (if (x3 - x3 / (7 : Int32) * (7 : Int32)) = (0 : Int32) then (some (x1 + (10 : Int32))) else (some x1)) else (if x0 = (6 : Int32) then (some ((x1 + (2 : Int32)) / (2 : Int32))) else (some x1))))))
set_option maxHeartbeats 4000000 in
set_option maxRecDepth 100000 in
theorem wX0_strokes_b18 {p : Program} {l : Launch} {e : Env} {s : State} {m : MethodId} {below : List Frame} {meth : Method} {c : Code} {D : va_G} {cy cz : ClassId} {G : GT} {A : Nat → Prop} {args : Array Value} {r : Int32} (C : Cx p s m args c cX0_strokes 6 "PumpTalk$Kinds" D cy cz G A) (hr : meth.sig.returnType = some .int) (hlk : meth.locks = false) : ∀ (x0 : Int32) (x1 : Int32) (x3 : Int32) (x4 : Int32) (y0 : Int32) (H : Heap) (locs : List Loc) (ls : Array Slot), X0_strokes_b18 x0 x1 x3 x4 y0 = some r → Wd D A s.heap H locs ([] : va_W) → lv_has ls 6 [(0, .int x0), (1, .int x1), (3, .int x3), (4, .int x4)] → W p l e (rmz 0 0) s m args below meth c H locs 0 0 (MQ below (QI D cy cz A ([] : va_W) r) args s 0 0 A) (F0 m 18 ls [.int y0]) := by
  have hx := C.1
  have hb := C.2.1
  intro x0 x1 x3 x4 y0 H locs ls hm hW hl
  unfold X0_strokes_b18 at hm
  refine lv_istore (lv' := [(5, .int y0), (0, .int x0), (1, .int x1), (3, .int x3), (4, .int x4)]) hx hb dX0_strokes_18 hl (by decide) rfl (fun ls hl => ?_)
  refine lv_iload_n hx hb dX0_strokes_20 rfl (lv_at hl 1 rfl) ?_
  by_cases ht1 : x0 = (1 : Int32)
  · rw [if_pos ht1] at hm
    refine lv_tableIn (tgt := 60) (off := 39) hx hb dX0_strokes_21 (by rw [ht1]; decide) (by rw [ht1]; decide) (by rw [ht1]; rfl) (by decide) ?_
    refine lv_iload_n hx hb dX0_strokes_60 rfl (lv_at hl 2 rfl) ?_
    refine lv_iconst (v := 2) hx hb dX0_strokes_61 (by decide) ?_
    refine lv_iadd hx hb dX0_strokes_62 ?_
    obtain rfl := Option.some.inj hm
    exact en_i C hr hlk hW dX0_strokes_63
  · rw [if_neg ht1] at hm
    by_cases ht2 : x0 = (2 : Int32)
    · rw [if_pos ht2] at hm
      refine lv_tableIn (tgt := 64) (off := 43) hx hb dX0_strokes_21 (by rw [ht2]; decide) (by rw [ht2]; decide) (by rw [ht2]; rfl) (by decide) ?_
      refine lv_iload hx hb dX0_strokes_64 (lv_at hl 4 rfl) ?_
      obtain rfl := Option.some.inj hm
      exact en_i C hr hlk hW dX0_strokes_66
    · rw [if_neg ht2] at hm
      by_cases ht3 : x0 = (3 : Int32)
      · rw [if_pos ht3] at hm
        refine lv_tableIn (tgt := 67) (off := 46) hx hb dX0_strokes_21 (by rw [ht3]; decide) (by rw [ht3]; decide) (by rw [ht3]; rfl) (by decide) ?_
        refine lv_iload hx hb dX0_strokes_67 (lv_at hl 0 rfl) ?_
        obtain rfl := Option.some.inj hm
        exact en_i C hr hlk hW dX0_strokes_69
      · rw [if_neg ht3] at hm
        by_cases ht4 : x0 = (4 : Int32)
        · rw [if_pos ht4] at hm
          refine lv_tableIn (tgt := 70) (off := 49) hx hb dX0_strokes_21 (by rw [ht4]; decide) (by rw [ht4]; decide) (by rw [ht4]; rfl) (by decide) ?_
          refine lv_iconst (v := 2) hx hb dX0_strokes_70 (by decide) ?_
          refine lv_iload hx hb dX0_strokes_71 (lv_at hl 0 rfl) ?_
          refine lv_imul hx hb dX0_strokes_73 ?_
          obtain rfl := Option.some.inj hm
          exact en_i C hr hlk hW dX0_strokes_74
        · rw [if_neg ht4] at hm
          by_cases ht5 : x0 = (5 : Int32)
          · rw [if_pos ht5] at hm
            refine lv_tableIn (tgt := 75) (off := 54) hx hb dX0_strokes_21 (by rw [ht5]; decide) (by rw [ht5]; decide) (by rw [ht5]; rfl) (by decide) ?_
            refine lv_iload_n hx hb dX0_strokes_75 rfl (lv_at hl 3 rfl) ?_
            refine lv_bipush (v := 7) hx hb dX0_strokes_76 (by decide) ?_
            refine lv_irem hx hb dX0_strokes_78 (by decide) ?_
            refine lv_if_ne (tgt := 89) hx hb dX0_strokes_79 (by decide) (fun hc6 => ?_) (fun hc6 => ?_)
            · rw [if_neg hc6] at hm
              refine lv_iload_n hx hb dX0_strokes_89 rfl (lv_at hl 2 rfl) ?_
              obtain rfl := Option.some.inj hm
              exact en_i C hr hlk hW dX0_strokes_90
            · rw [if_pos hc6] at hm
              refine lv_iload_n hx hb dX0_strokes_82 rfl (lv_at hl 2 rfl) ?_
              refine lv_bipush (v := 10) hx hb dX0_strokes_83 (by decide) ?_
              refine lv_iadd hx hb dX0_strokes_85 ?_
              refine lv_goto (tgt := 90) hx hb dX0_strokes_86 (by decide) ?_
              obtain rfl := Option.some.inj hm
              exact en_i C hr hlk hW dX0_strokes_90
          · rw [if_neg ht5] at hm
            by_cases ht7 : x0 = (6 : Int32)
            · rw [if_pos ht7] at hm
              refine lv_tableIn (tgt := 91) (off := 70) hx hb dX0_strokes_21 (by rw [ht7]; decide) (by rw [ht7]; decide) (by rw [ht7]; rfl) (by decide) ?_
              refine lv_iload_n hx hb dX0_strokes_91 rfl (lv_at hl 2 rfl) ?_
              refine lv_iconst (v := 2) hx hb dX0_strokes_92 (by decide) ?_
              refine lv_iadd hx hb dX0_strokes_93 ?_
              refine lv_iconst (v := 2) hx hb dX0_strokes_94 (by decide) ?_
              refine lv_idiv hx hb dX0_strokes_95 (by decide) ?_
              obtain rfl := Option.some.inj hm
              exact en_i C hr hlk hW dX0_strokes_96
            · rw [if_neg ht7] at hm
              refine lv_tableOut (tgt := 97) hx hb dX0_strokes_21 (by have ht := tab_out (x := x0) 1 6 (by decide) (fun k hk => by rcases (show k = 0 ∨ k = 1 ∨ k = 2 ∨ k = 3 ∨ k = 4 ∨ k = 5 by omega) with rfl | rfl | rfl | rfl | rfl | rfl <;> first | exact ht1 | exact ht2 | exact ht3 | exact ht4 | exact ht5 | exact ht7); omega) (by decide) ?_
              refine lv_iload_n hx hb dX0_strokes_97 rfl (lv_at hl 2 rfl) ?_
              obtain rfl := Option.some.inj hm
              exact en_i C hr hlk hW dX0_strokes_98
def X0_strokes (p1 : Int32) (p2 : Int32) (p3 : Int32) (p4 : Int32) : Option (Int32) := if (p2 + p3) ≤ (0 : Int32) then (X0_strokes_b18 p1 p2 p4 (p2 + p3) (0 : Int32)) else (X0_strokes_b18 p1 p2 p4 (p2 + p3) (((p2 + p3) - (1 : Int32))))
set_option maxHeartbeats 4000000 in
set_option maxRecDepth 100000 in
theorem c_X0_strokes {l : Launch} {D : va_G} {cy cz : ClassId} {G : GT} {p1 : Int32} {p2 : Int32} {p3 : Int32} {p4 : Int32} {r : Int32} (hm : X0_strokes p1 p2 p3 p4 = some r) : CtI l D cy cz G yX0_strokes cX0_strokes 6 (some .int) 0 0 [.int p1, .int p2, .int p3, .int p4] ([] : va_W) ([] : va_W) r := by
  refine ct_i (own := "PumpTalk$Kinds") (by decide) rfl (Nat.le_of_ble_eq_true rfl) ?_
  intro p e s m below meth c ls A C hr hlk hW hl
  have hx := C.1
  have hb := C.2.1
  have hl : lv_has ls 6 [(0, .int p1), (1, .int p2), (2, .int p3), (3, .int p4)] := hl
  unfold X0_strokes at hm
  refine lv_iload_n hx hb dX0_strokes_0 rfl (lv_at hl 1 rfl) ?_
  refine lv_iload_n hx hb dX0_strokes_1 rfl (lv_at hl 2 rfl) ?_
  refine lv_iadd hx hb dX0_strokes_2 ?_
  refine lv_istore (lv' := [(4, .int (p2 + p3)), (0, .int p1), (1, .int p2), (2, .int p3), (3, .int p4)]) hx hb dX0_strokes_3 hl (by decide) rfl (fun ls hl => ?_)
  refine lv_iload hx hb dX0_strokes_5 (lv_at hl 0 rfl) ?_
  refine lv_if_le (tgt := 17) hx hb dX0_strokes_7 (by decide) (fun hc8 => ?_) (fun hc8 => ?_)
  · rw [if_pos hc8] at hm
    refine lv_iconst (v := 0) hx hb dX0_strokes_17 (by decide) ?_
    exact wX0_strokes_b18 C hr hlk p1 p2 p4 (p2 + p3) (0 : Int32) _ _ _ hm hW (lv_sub hl [1, 2, 4, 0] rfl)
  · rw [if_neg hc8] at hm
    refine lv_iload hx hb dX0_strokes_10 (lv_at hl 0 rfl) ?_
    refine lv_iconst (v := 1) hx hb dX0_strokes_12 (by decide) ?_
    refine lv_isub hx hb dX0_strokes_13 ?_
    refine lv_goto (tgt := 18) hx hb dX0_strokes_14 (by decide) ?_
    exact wX0_strokes_b18 C hr hlk p1 p2 p4 (p2 + p3) (((p2 + p3) - (1 : Int32))) _ _ _ hm hW (lv_sub hl [1, 2, 4, 0] rfl)
theorem kX0_strokes : KS yX0_strokes cX0_strokes 6 (some .int) 4 := ⟨q302, q73, q303, by decide +kernel, by decide +kernel, by decide +kernel⟩
def X4_strokesOf (σ : MS) (p1 : Int32) (p2 : Int32) : Option (Int32) := ai p1 8 (ai p1 8 ((X0_strokes (σ 0 (Int32.toNatClampNeg p1)) (σ 1 (Int32.toNatClampNeg p1)) p2 (σ 11 5)).bind fun v4 => some v4))
set_option maxHeartbeats 4000000 in
set_option maxRecDepth 100000 in
theorem c_X4_strokesOf {l : Launch} {D : va_G} {cy cz : ClassId} {G : GT} {a : Nat → Nat} {σ : MS} {p1 : Int32} {p2 : Int32} {r : Int32} (hm : X4_strokesOf σ p1 p2 = some r) : CtI l D cy cz G yX4_strokesOf cX4_strokesOf 3 (some .int) 1 25 [.ref (a 0), .int p1, .int p2] (cSq a cy σ) (cSq a cy σ) r := by
  refine ct_i (own := "PumpTalk$Square") (by decide) rfl (Nat.le_of_ble_eq_true rfl) ?_
  intro p e s m below meth c ls A C hr hlk hW hl
  have hx := C.1
  have hb := C.2.1
  have hl : lv_has ls 3 [(0, .ref (a 0)), (1, .int p1), (2, .int p2)] := hl
  unfold X4_strokesOf at hm
  refine lv_aload_n hx hb dX4_strokesOf_0 rfl (lv_at hl 0 rfl) ?_
  refine gSq_kindOf C hW q95 dX4_strokesOf_1 ?_
  refine lv_iload_n hx hb dX4_strokesOf_4 rfl (lv_at hl 1 rfl) ?_
  obtain ⟨hi1, hm⟩ := mi_ai hm
  refine lSq_kindOf C hW hi1 dX4_strokesOf_5 ?_
  refine lv_aload_n hx hb dX4_strokesOf_6 rfl (lv_at hl 0 rfl) ?_
  refine gSq_voiceOf C hW q96 dX4_strokesOf_7 ?_
  refine lv_iload_n hx hb dX4_strokesOf_10 rfl (lv_at hl 1 rfl) ?_
  obtain ⟨hi2, hm⟩ := mi_ai hm
  refine lSq_voiceOf C hW hi2 dX4_strokesOf_11 ?_
  refine lv_iload_n hx hb dX4_strokesOf_12 rfl (lv_at hl 2 rfl) ?_
  refine lv_aload_n hx hb dX4_strokesOf_13 rfl (lv_at hl 0 rfl) ?_
  refine gSq_minute C hW q103 dX4_strokesOf_14 ?_
  obtain ⟨v4, e3, hm⟩ := mi_bind hm
  refine cS_i (As := [.int (σ 0 (Int32.toNatClampNeg p1)), .int (σ 1 (Int32.toNatClampNeg p1)), .int p2, .int (σ 11 5)]) (rest := []) C hW (c_X0_strokes e3) kX0_strokes q301 rfl rfl hl.1 ⟨Nat.le_of_ble_eq_true rfl, Nat.le_of_ble_eq_true rfl⟩ ⟨Nat.le_refl 0, Nat.le_refl 0⟩ (Nat.le_of_ble_eq_true rfl) dX4_strokesOf_17 (fun H locs hW => ?_)
  obtain rfl := Option.some.inj hm
  exact en_i C hr hlk hW dX4_strokesOf_20
theorem kX4_strokesOf : KM yX4_strokesOf cX4_strokesOf 3 (some .int) 2 := ⟨q298, q299, q68, q300, by decide +kernel, by decide +kernel, by decide +kernel⟩
def X4_distance (σ : MS) (p1 : Int32) (p2 : Int32) (p3 : Int32) : Option (Int32) := (X4_viewOn σ p1 p3).bind fun v2 => (X4_viewOn σ p2 p3).bind fun v4 => some (if (0 : Int32) ≤ (v2 - v4) then (v2 - v4) else (0 : Int32) - (v2 - v4))
set_option maxHeartbeats 4000000 in
set_option maxRecDepth 100000 in
theorem c_X4_distance {l : Launch} {D : va_G} {cy cz : ClassId} {G : GT} {a : Nat → Nat} {σ : MS} {p1 : Int32} {p2 : Int32} {p3 : Int32} {r : Int32} (hm : X4_distance σ p1 p2 p3 = some r) : CtI l D cy cz G yX4_distance cX4_distance 4 (some .int) 1 22 [.ref (a 0), .int p1, .int p2, .int p3] (cSq a cy σ) (cSq a cy σ) r := by
  refine ct_i (own := "PumpTalk$Square") (by decide) rfl (Nat.le_of_ble_eq_true rfl) ?_
  intro p e s m below meth c ls A C hr hlk hW hl
  have hx := C.1
  have hb := C.2.1
  have hl : lv_has ls 4 [(0, .ref (a 0)), (1, .int p1), (2, .int p2), (3, .int p3)] := hl
  unfold X4_distance at hm
  refine lv_aload_n hx hb dX4_distance_0 rfl (lv_at hl 0 rfl) ?_
  refine lv_iload_n hx hb dX4_distance_1 rfl (lv_at hl 1 rfl) ?_
  refine lv_iload_n hx hb dX4_distance_2 rfl (lv_at hl 3 rfl) ?_
  obtain ⟨v2, e1, hm⟩ := mi_bind hm
  refine cs_i (q0 := 0) (As := [.int p1, .int p3]) (rest := []) C hW (c_X4_viewOn e1) kX4_viewOn q265 rfl rfl rfl rfl rfl hl.1 ⟨Nat.le_of_ble_eq_true rfl, Nat.le_of_ble_eq_true rfl⟩ ⟨Nat.le_refl 0, Nat.le_refl 0⟩ (Nat.le_of_ble_eq_true rfl) dX4_distance_3 (fun H locs hW => ?_)
  refine lv_aload_n hx hb dX4_distance_6 rfl (lv_at hl 0 rfl) ?_
  refine lv_iload_n hx hb dX4_distance_7 rfl (lv_at hl 2 rfl) ?_
  refine lv_iload_n hx hb dX4_distance_8 rfl (lv_at hl 3 rfl) ?_
  obtain ⟨v4, e3, hm⟩ := mi_bind hm
  refine cs_i (q0 := 0) (As := [.int p2, .int p3]) (rest := [.int v2]) C hW (c_X4_viewOn e3) kX4_viewOn q265 rfl rfl rfl rfl rfl hl.1 ⟨Nat.le_of_ble_eq_true rfl, Nat.le_of_ble_eq_true rfl⟩ ⟨Nat.le_refl 0, Nat.le_refl 0⟩ (Nat.le_of_ble_eq_true rfl) dX4_distance_9 (fun H locs hW => ?_)
  refine lv_isub hx hb dX4_distance_12 ?_
  refine va_mabs hx hb (C.2.2.1.trans hl.1.symm) C.2.2.2.1 (C.2.2.2.2.1 _ q315) (C.2.2.2.2.1 _ q316) (C.2.2.2.2.1 _ q74) (C.2.2.2.2.1 _ q317) (Nat.le_of_ble_eq_true rfl) (Nat.le_of_ble_eq_true rfl) (Nat.le_refl 0) (Nat.le_refl 0) dX4_distance_13 ?_
  obtain rfl := Option.some.inj hm
  exact en_i C hr hlk hW dX4_distance_16
theorem kX4_distance : KM yX4_distance cX4_distance 4 (some .int) 3 := ⟨q312, q313, q68, q314, by decide +kernel, by decide +kernel, by decide +kernel⟩
def X4_seat (σ : MS) (p1 : Int32) (p2 : Int32) : Option (MS) := some (su (su σ 11 8 p1) 11 9 p2)
set_option maxHeartbeats 4000000 in
set_option maxRecDepth 100000 in
theorem c_X4_seat {l : Launch} {D : va_G} {cy cz : ClassId} {G : GT} {a : Nat → Nat} {σ : MS} {p1 : Int32} {p2 : Int32} {σr : MS} (hm : X4_seat σ p1 p2 = some σr) : CtV l D cy cz G yX4_seat cX4_seat 3 none 0 0 [.ref (a 0), .int p1, .int p2] (cSq a cy σ) (cSq a cy σr) () := by
  refine ct_v (own := "PumpTalk$Square") (by decide) rfl (Nat.le_of_ble_eq_true rfl) ?_
  intro p e s m below meth c ls A C hr hlk hW hl
  have hx := C.1
  have hb := C.2.1
  have hl : lv_has ls 3 [(0, .ref (a 0)), (1, .int p1), (2, .int p2)] := hl
  unfold X4_seat at hm
  refine lv_aload_n hx hb dX4_seat_0 rfl (lv_at hl 0 rfl) ?_
  refine lv_iload_n hx hb dX4_seat_1 rfl (lv_at hl 1 rfl) ?_
  refine pSq_first C hW q110 dX4_seat_2 (fun H locs hW => ?_)
  refine lv_aload_n hx hb dX4_seat_5 rfl (lv_at hl 0 rfl) ?_
  refine lv_iload_n hx hb dX4_seat_6 rfl (lv_at hl 2 rfl) ?_
  refine pSq_second C hW q112 dX4_seat_7 (fun H locs hW => ?_)
  obtain rfl := Option.some.inj hm
  exact en_v C hr hlk hW dX4_seat_10
theorem kX4_seat : KM yX4_seat cX4_seat 3 none 2 := ⟨q327, q328, q68, q329, by decide +kernel, by decide +kernel, by decide +kernel⟩
def X4_isManned (σ : MS) : Option (Int32) := (X4_isThere σ (σ 11 8)).bind fun v2 => if v2 = (0 : Int32) then (some (0 : Int32)) else ((X4_isThere σ (σ 11 9)).bind fun v5 => if v5 = (0 : Int32) then (some (0 : Int32)) else (some (1 : Int32)))
set_option maxHeartbeats 4000000 in
set_option maxRecDepth 100000 in
theorem c_X4_isManned {l : Launch} {D : va_G} {cy cz : ClassId} {G : GT} {a : Nat → Nat} {σ : MS} {r : Int32} (hm : X4_isManned σ = some r) : CtI l D cy cz G yX4_isManned cX4_isManned 1 (some .boolean) 1 21 [.ref (a 0)] (cSq a cy σ) (cSq a cy σ) r := by
  refine ct_i (own := "PumpTalk$Square") (by decide) rfl (Nat.le_of_ble_eq_true rfl) ?_
  intro p e s m below meth c ls A C hr hlk hW hl
  have hx := C.1
  have hb := C.2.1
  have hl : lv_has ls 1 [(0, .ref (a 0))] := hl
  unfold X4_isManned at hm
  refine lv_aload_n hx hb dX4_isManned_0 rfl (lv_at hl 0 rfl) ?_
  refine lv_aload_n hx hb dX4_isManned_1 rfl (lv_at hl 0 rfl) ?_
  refine gSq_first C hW q110 dX4_isManned_2 ?_
  obtain ⟨v2, e1, hm⟩ := mi_bind hm
  refine cs_i (q0 := 0) (As := [.int (σ 11 8)]) (rest := []) C hW (c_X4_isThere e1) kX4_isThere q338 rfl rfl rfl rfl rfl hl.1 ⟨Nat.le_of_ble_eq_true rfl, Nat.le_of_ble_eq_true rfl⟩ ⟨Nat.le_refl 0, Nat.le_refl 0⟩ (Nat.le_of_ble_eq_true rfl) dX4_isManned_5 (fun H locs hW => ?_)
  refine lv_if_eq (tgt := 26) hx hb dX4_isManned_8 (by decide) (fun hc3 => ?_) (fun hc3 => ?_)
  · rw [if_pos hc3] at hm
    refine lv_iconst (v := 0) hx hb dX4_isManned_26 (by decide) ?_
    obtain rfl := Option.some.inj hm
    exact en_z C hr hlk rfl hW dX4_isManned_27
  · rw [if_neg hc3] at hm
    refine lv_aload_n hx hb dX4_isManned_11 rfl (lv_at hl 0 rfl) ?_
    refine lv_aload_n hx hb dX4_isManned_12 rfl (lv_at hl 0 rfl) ?_
    refine gSq_second C hW q112 dX4_isManned_13 ?_
    obtain ⟨v5, e4, hm⟩ := mi_bind hm
    refine cs_i (q0 := 0) (As := [.int (σ 11 9)]) (rest := []) C hW (c_X4_isThere e4) kX4_isThere q338 rfl rfl rfl rfl rfl hl.1 ⟨Nat.le_of_ble_eq_true rfl, Nat.le_of_ble_eq_true rfl⟩ ⟨Nat.le_refl 0, Nat.le_refl 0⟩ (Nat.le_of_ble_eq_true rfl) dX4_isManned_16 (fun H locs hW => ?_)
    refine lv_if_eq (tgt := 26) hx hb dX4_isManned_19 (by decide) (fun hc6 => ?_) (fun hc6 => ?_)
    · rw [if_pos hc6] at hm
      refine lv_iconst (v := 0) hx hb dX4_isManned_26 (by decide) ?_
      obtain rfl := Option.some.inj hm
      exact en_z C hr hlk rfl hW dX4_isManned_27
    · rw [if_neg hc6] at hm
      refine lv_iconst (v := 1) hx hb dX4_isManned_22 (by decide) ?_
      refine lv_goto (tgt := 27) hx hb dX4_isManned_23 (by decide) ?_
      obtain rfl := Option.some.inj hm
      exact en_z C hr hlk rfl hW dX4_isManned_27
theorem kX4_isManned : KM yX4_isManned cX4_isManned 1 (some .boolean) 0 := ⟨q335, q336, q68, q337, by decide +kernel, by decide +kernel, by decide +kernel⟩
def X4_quarrelSet_b4 (σ : MS) : Nat → Int32 → Int32 → Option (Int32)
  | 0, _, _ => none
  | n + 1, x1, x2 => if (6 : Int32) ≤ x2 then (some x1) else ((X4_isManned σ).bind fun v3 => if v3 = (0 : Int32) then (some x1) else ((X4_distance σ (σ 11 8) (σ 11 9) x2).bind fun v6 => if v6 = (0 : Int32) then (X4_quarrelSet_b4 σ n x1 ((x2 + (1 : Int32)))) else (X4_quarrelSet_b4 σ n ((x1 ||| ((1 : Int32) <<< (x2 &&& 31)))) ((x2 + (1 : Int32))))))
set_option maxHeartbeats 4000000 in
set_option maxRecDepth 100000 in
theorem wX4_quarrelSet_b4 {p : Program} {l : Launch} {e : Env} {s : State} {m : MethodId} {below : List Frame} {meth : Method} {c : Code} {D : va_G} {cy cz : ClassId} {G : GT} {A : Nat → Prop} {args : Array Value} {a : Nat → Nat} {r : Int32} {σ : MS} (C : Cx p s m args c cX4_quarrelSet 3 "PumpTalk$Square" D cy cz G A) (hr : meth.sig.returnType = some .int) (hlk : meth.locks = false) : ∀ (n : Nat) (x1 : Int32) (x2 : Int32) (H : Heap) (locs : List Loc) (ls : Array Slot), X4_quarrelSet_b4 σ n x1 x2 = some r → Wd D A s.heap H locs (cSq a cy σ) → lv_has ls 3 [(0, .ref (a 0)), (1, .int x1), (2, .int x2)] → W p l e (rmz 2 45) s m args below meth c H locs 0 0 (MQ below (QI D cy cz A (cSq a cy σ) r) args s 0 0 A) (F0 m 4 ls []) := by
  have hx := C.1
  have hb := C.2.1
  intro n
  induction n with
  | zero =>
    intro x1 x2 H locs ls hm
    rw [X4_quarrelSet_b4] at hm
    cases hm
  | succ n ih =>
    intro x1 x2 H locs ls hm hW hl
    rw [X4_quarrelSet_b4] at hm
    refine lv_iload_n hx hb dX4_quarrelSet_4 rfl (lv_at hl 2 rfl) ?_
    refine lv_bipush (v := 6) hx hb dX4_quarrelSet_5 (by decide) ?_
    refine lv_icmp_ge (tgt := 45) hx hb dX4_quarrelSet_7 (by decide) (fun hc1 => ?_) (fun hc1 => ?_)
    · rw [if_pos hc1] at hm
      refine lv_iload_n hx hb dX4_quarrelSet_45 rfl (lv_at hl 1 rfl) ?_
      obtain rfl := Option.some.inj hm
      exact en_i C hr hlk hW dX4_quarrelSet_46
    · rw [if_neg hc1] at hm
      refine lv_aload_n hx hb dX4_quarrelSet_10 rfl (lv_at hl 0 rfl) ?_
      obtain ⟨v3, e2, hm⟩ := mi_bind hm
      refine cs_i (q0 := 0) (As := []) (rest := []) C hW (c_X4_isManned e2) kX4_isManned q334 rfl rfl rfl rfl rfl hl.1 ⟨Nat.le_of_ble_eq_true rfl, Nat.le_of_ble_eq_true rfl⟩ ⟨Nat.le_refl 0, Nat.le_refl 0⟩ (Nat.le_of_ble_eq_true rfl) dX4_quarrelSet_11 (fun H locs hW => ?_)
      refine lv_if_eq (tgt := 45) hx hb dX4_quarrelSet_14 (by decide) (fun hc4 => ?_) (fun hc4 => ?_)
      · rw [if_pos hc4] at hm
        refine lv_iload_n hx hb dX4_quarrelSet_45 rfl (lv_at hl 1 rfl) ?_
        obtain rfl := Option.some.inj hm
        exact en_i C hr hlk hW dX4_quarrelSet_46
      · rw [if_neg hc4] at hm
        refine lv_aload_n hx hb dX4_quarrelSet_17 rfl (lv_at hl 0 rfl) ?_
        refine lv_aload_n hx hb dX4_quarrelSet_18 rfl (lv_at hl 0 rfl) ?_
        refine gSq_first C hW q110 dX4_quarrelSet_19 ?_
        refine lv_aload_n hx hb dX4_quarrelSet_22 rfl (lv_at hl 0 rfl) ?_
        refine gSq_second C hW q112 dX4_quarrelSet_23 ?_
        refine lv_iload_n hx hb dX4_quarrelSet_26 rfl (lv_at hl 2 rfl) ?_
        obtain ⟨v6, e5, hm⟩ := mi_bind hm
        refine cs_i (q0 := 0) (As := [.int (σ 11 8), .int (σ 11 9), .int x2]) (rest := []) C hW (c_X4_distance e5) kX4_distance q339 rfl rfl rfl rfl rfl hl.1 ⟨Nat.le_of_ble_eq_true rfl, Nat.le_of_ble_eq_true rfl⟩ ⟨Nat.le_refl 0, Nat.le_refl 0⟩ (Nat.le_of_ble_eq_true rfl) dX4_quarrelSet_27 (fun H locs hW => ?_)
        refine lv_if_eq (tgt := 39) hx hb dX4_quarrelSet_30 (by decide) (fun hc7 => ?_) (fun hc7 => ?_)
        · rw [if_pos hc7] at hm
          refine lv_iinc (v := (x2 + (1 : Int32))) (lv' := [(2, .int (x2 + (1 : Int32))), (0, .ref (a 0)), (1, .int x1)]) hx hb dX4_quarrelSet_39 hl (k := 2) rfl (congrArg (fun z : Int32 => x2 + z) (by decide)) (by decide) rfl (fun ls hl => ?_)
          refine lv_goto (tgt := 4) hx hb dX4_quarrelSet_42 (by decide) ?_
          exact ih x1 ((x2 + (1 : Int32))) _ _ _ hm hW (lv_sub hl [1, 2, 0] rfl)
        · rw [if_neg hc7] at hm
          refine lv_iload_n hx hb dX4_quarrelSet_33 rfl (lv_at hl 1 rfl) ?_
          refine lv_iconst (v := 1) hx hb dX4_quarrelSet_34 (by decide) ?_
          refine lv_iload_n hx hb dX4_quarrelSet_35 rfl (lv_at hl 2 rfl) ?_
          refine lv_ishl hx hb dX4_quarrelSet_36 ?_
          refine lv_ior hx hb dX4_quarrelSet_37 ?_
          refine lv_istore_n (lv' := [(1, .int (x1 ||| ((1 : Int32) <<< (x2 &&& 31)))), (0, .ref (a 0)), (2, .int x2)]) hx hb dX4_quarrelSet_38 rfl hl (by decide) rfl (fun ls hl => ?_)
          refine lv_iinc (v := (x2 + (1 : Int32))) (lv' := [(2, .int (x2 + (1 : Int32))), (1, .int (x1 ||| ((1 : Int32) <<< (x2 &&& 31)))), (0, .ref (a 0))]) hx hb dX4_quarrelSet_39 hl (k := 2) rfl (congrArg (fun z : Int32 => x2 + z) (by decide)) (by decide) rfl (fun ls hl => ?_)
          refine lv_goto (tgt := 4) hx hb dX4_quarrelSet_42 (by decide) ?_
          exact ih ((x1 ||| ((1 : Int32) <<< (x2 &&& 31)))) ((x2 + (1 : Int32))) _ _ _ hm hW (lv_sub hl [2, 1, 0] rfl)
def X4_quarrelSet (σ : MS) : Option (Int32) := X4_quarrelSet_b4 σ FU (0 : Int32) (0 : Int32)
set_option maxHeartbeats 4000000 in
set_option maxRecDepth 100000 in
theorem c_X4_quarrelSet {l : Launch} {D : va_G} {cy cz : ClassId} {G : GT} {a : Nat → Nat} {σ : MS} {r : Int32} (hm : X4_quarrelSet σ = some r) : CtI l D cy cz G yX4_quarrelSet cX4_quarrelSet 3 (some .int) 2 45 [.ref (a 0)] (cSq a cy σ) (cSq a cy σ) r := by
  refine ct_i (own := "PumpTalk$Square") (by decide) rfl (Nat.le_of_ble_eq_true rfl) ?_
  intro p e s m below meth c ls A C hr hlk hW hl
  have hx := C.1
  have hb := C.2.1
  have hl : lv_has ls 3 [(0, .ref (a 0))] := hl
  unfold X4_quarrelSet at hm
  refine lv_iconst (v := 0) hx hb dX4_quarrelSet_0 (by decide) ?_
  refine lv_istore_n (lv' := [(1, .int (0 : Int32)), (0, .ref (a 0))]) hx hb dX4_quarrelSet_1 rfl hl (by decide) rfl (fun ls hl => ?_)
  refine lv_iconst (v := 0) hx hb dX4_quarrelSet_2 (by decide) ?_
  refine lv_istore_n (lv' := [(2, .int (0 : Int32)), (1, .int (0 : Int32)), (0, .ref (a 0))]) hx hb dX4_quarrelSet_3 rfl hl (by decide) rfl (fun ls hl => ?_)
  exact wX4_quarrelSet_b4 C hr hlk FU (0 : Int32) (0 : Int32) _ _ _ hm hW (lv_sub hl [2, 1, 0] rfl)
theorem kX4_quarrelSet : KM yX4_quarrelSet cX4_quarrelSet 3 (some .int) 0 := ⟨q331, q332, q68, q333, by decide +kernel, by decide +kernel, by decide +kernel⟩
def X4_leave (σ : MS) : Option (MS) := some (su (su σ 11 8 (-1 : Int32)) 11 9 (-1 : Int32))
set_option maxHeartbeats 4000000 in
set_option maxRecDepth 100000 in
theorem c_X4_leave {l : Launch} {D : va_G} {cy cz : ClassId} {G : GT} {a : Nat → Nat} {σ : MS} {σr : MS} (hm : X4_leave σ = some σr) : CtV l D cy cz G yX4_leave cX4_leave 1 none 0 0 [.ref (a 0)] (cSq a cy σ) (cSq a cy σr) () := by
  refine ct_v (own := "PumpTalk$Square") (by decide) rfl (Nat.le_of_ble_eq_true rfl) ?_
  intro p e s m below meth c ls A C hr hlk hW hl
  have hx := C.1
  have hb := C.2.1
  have hl : lv_has ls 1 [(0, .ref (a 0))] := hl
  unfold X4_leave at hm
  refine lv_aload_n hx hb dX4_leave_0 rfl (lv_at hl 0 rfl) ?_
  refine lv_iconst (v := -1) hx hb dX4_leave_1 (by decide) ?_
  refine pSq_first C hW q110 dX4_leave_2 (fun H locs hW => ?_)
  refine lv_aload_n hx hb dX4_leave_5 rfl (lv_at hl 0 rfl) ?_
  refine lv_iconst (v := -1) hx hb dX4_leave_6 (by decide) ?_
  refine pSq_second C hW q112 dX4_leave_7 (fun H locs hW => ?_)
  obtain rfl := Option.some.inj hm
  exact en_v C hr hlk hW dX4_leave_10
theorem kX4_leave : KM yX4_leave cX4_leave 1 none 0 := ⟨q352, q353, q68, q354, by decide +kernel, by decide +kernel, by decide +kernel⟩
def X4_heldView (p1 : Int32) : Option (Int32) := if p1 ≤ (9 : Int32) then (if (-9 : Int32) ≤ p1 then (some p1) else (some (-9 : Int32))) else (some (9 : Int32))
set_option maxHeartbeats 4000000 in
set_option maxRecDepth 100000 in
theorem c_X4_heldView {l : Launch} {D : va_G} {cy cz : ClassId} {G : GT} {p1 : Int32} {r : Int32} (hm : X4_heldView p1 = some r) : CtI l D cy cz G yX4_heldView cX4_heldView 1 (some .int) 0 0 [.int p1] ([] : va_W) ([] : va_W) r := by
  refine ct_i (own := "PumpTalk$Square") (by decide) rfl (Nat.le_of_ble_eq_true rfl) ?_
  intro p e s m below meth c ls A C hr hlk hW hl
  have hx := C.1
  have hb := C.2.1
  have hl : lv_has ls 1 [(0, .int p1)] := hl
  unfold X4_heldView at hm
  refine lv_iload_n hx hb dX4_heldView_0 rfl (lv_at hl 0 rfl) ?_
  refine lv_bipush (v := 9) hx hb dX4_heldView_1 (by decide) ?_
  refine lv_icmp_le (tgt := 9) hx hb dX4_heldView_3 (by decide) (fun hc1 => ?_) (fun hc1 => ?_)
  · rw [if_pos hc1] at hm
    refine lv_iload_n hx hb dX4_heldView_9 rfl (lv_at hl 0 rfl) ?_
    refine lv_bipush (v := -9) hx hb dX4_heldView_10 (by decide) ?_
    refine lv_icmp_ge (tgt := 20) hx hb dX4_heldView_12 (by decide) (fun hc2 => ?_) (fun hc2 => ?_)
    · rw [if_pos hc2] at hm
      refine lv_iload_n hx hb dX4_heldView_20 rfl (lv_at hl 0 rfl) ?_
      obtain rfl := Option.some.inj hm
      exact en_i C hr hlk hW dX4_heldView_21
    · rw [if_neg hc2] at hm
      refine lv_bipush (v := -9) hx hb dX4_heldView_15 (by decide) ?_
      refine lv_goto (tgt := 21) hx hb dX4_heldView_17 (by decide) ?_
      obtain rfl := Option.some.inj hm
      exact en_i C hr hlk hW dX4_heldView_21
  · rw [if_neg hc1] at hm
    refine lv_bipush (v := 9) hx hb dX4_heldView_6 (by decide) ?_
    obtain rfl := Option.some.inj hm
    exact en_i C hr hlk hW dX4_heldView_8
theorem kX4_heldView : KS yX4_heldView cX4_heldView 1 (some .int) 1 := ⟨q378, q68, q379, by decide +kernel, by decide +kernel, by decide +kernel⟩
def X4_exchange_b63 (σ : MS) (x1 : Int32) (x2 : Int32) (x3 : Int32) (y0 : Int32) : Option (Int32 × MS) := ai (σ 11 8) 8 ((X0_moves (σ 0 (Int32.toNatClampNeg (σ 11 8))) x3 (σ 11 5)).bind fun v3 => ai (σ 11 9) 8 ((X0_moves (σ 0 (Int32.toNatClampNeg (σ 11 9))) x3 (σ 11 5)).bind fun v6 => (X4_heldView (x1 + (y0 * v3))).bind fun v8 => (X4_setView σ (σ 11 8) (σ 11 7) v8).bind fun s10 => (X4_heldView (x2 - (y0 * v6))).bind fun v12 => (X4_setView s10 (s10 11 9) (s10 11 7) v12).bind fun s14 => ai (s14 11 8) 8 (ai (s14 11 8) 8 ((X0_strokes (s14 0 (Int32.toNatClampNeg (s14 11 8))) (s14 1 (Int32.toNatClampNeg (s14 11 8))) x3 (s14 11 5)).bind fun v18 => ai (s14 11 9) 8 (ai (s14 11 9) 8 ((X0_strokes (s14 0 (Int32.toNatClampNeg (s14 11 9))) (s14 1 (Int32.toNatClampNeg (s14 11 9))) x3 (s14 11 5)).bind fun v22 => some ((v18 + v22), s14)))))))
set_option maxHeartbeats 4000000 in
set_option maxRecDepth 100000 in
theorem wX4_exchange_b63 {p : Program} {l : Launch} {e : Env} {s : State} {m : MethodId} {below : List Frame} {meth : Method} {c : Code} {D : va_G} {cy cz : ClassId} {G : GT} {A : Nat → Prop} {args : Array Value} {a : Nat → Nat} {r : Int32} {σr : MS} (C : Cx p s m args c cX4_exchange 7 "PumpTalk$Square" D cy cz G A) (hr : meth.sig.returnType = some .int) (hlk : meth.locks = false) : ∀ (σ : MS) (x1 : Int32) (x2 : Int32) (x3 : Int32) (y0 : Int32) (H : Heap) (locs : List Loc) (ls : Array Slot), X4_exchange_b63 σ x1 x2 x3 y0 = some (r, σr) → Wd D A s.heap H locs (cSq a cy σ) → lv_has ls 7 [(0, .ref (a 0)), (1, .int x1), (2, .int x2), (3, .int x3)] → W p l e (rmz 1 25) s m args below meth c H locs 0 0 (MQ below (QI D cy cz A (cSq a cy σr) r) args s 0 0 A) (F0 m 63 ls [.int y0]) := by
  have hx := C.1
  have hb := C.2.1
  intro σ x1 x2 x3 y0 H locs ls hm hW hl
  unfold X4_exchange_b63 at hm
  refine lv_istore (lv' := [(4, .int y0), (0, .ref (a 0)), (1, .int x1), (2, .int x2), (3, .int x3)]) hx hb dX4_exchange_63 hl (by decide) rfl (fun ls hl => ?_)
  refine lv_aload_n hx hb dX4_exchange_65 rfl (lv_at hl 1 rfl) ?_
  refine gSq_kindOf C hW q95 dX4_exchange_66 ?_
  refine lv_aload_n hx hb dX4_exchange_69 rfl (lv_at hl 1 rfl) ?_
  refine gSq_first C hW q110 dX4_exchange_70 ?_
  obtain ⟨hi1, hm⟩ := mi_ai hm
  refine lSq_kindOf C hW hi1 dX4_exchange_73 ?_
  refine lv_iload_n hx hb dX4_exchange_74 rfl (lv_at hl 4 rfl) ?_
  refine lv_aload_n hx hb dX4_exchange_75 rfl (lv_at hl 1 rfl) ?_
  refine gSq_minute C hW q103 dX4_exchange_76 ?_
  obtain ⟨v3, e2, hm⟩ := mi_bind hm
  refine cS_i (As := [.int (σ 0 (Int32.toNatClampNeg (σ 11 8))), .int x3, .int (σ 11 5)]) (rest := []) C hW (c_X0_moves e2) kX0_moves q294 rfl rfl hl.1 ⟨Nat.le_of_ble_eq_true rfl, Nat.le_of_ble_eq_true rfl⟩ ⟨Nat.le_refl 0, Nat.le_refl 0⟩ (Nat.le_of_ble_eq_true rfl) dX4_exchange_79 (fun H locs hW => ?_)
  refine lv_istore (lv' := [(5, .int v3), (4, .int y0), (0, .ref (a 0)), (1, .int x1), (2, .int x2), (3, .int x3)]) hx hb dX4_exchange_82 hl (by decide) rfl (fun ls hl => ?_)
  refine lv_aload_n hx hb dX4_exchange_84 rfl (lv_at hl 2 rfl) ?_
  refine gSq_kindOf C hW q95 dX4_exchange_85 ?_
  refine lv_aload_n hx hb dX4_exchange_88 rfl (lv_at hl 2 rfl) ?_
  refine gSq_second C hW q112 dX4_exchange_89 ?_
  obtain ⟨hi4, hm⟩ := mi_ai hm
  refine lSq_kindOf C hW hi4 dX4_exchange_92 ?_
  refine lv_iload_n hx hb dX4_exchange_93 rfl (lv_at hl 5 rfl) ?_
  refine lv_aload_n hx hb dX4_exchange_94 rfl (lv_at hl 2 rfl) ?_
  refine gSq_minute C hW q103 dX4_exchange_95 ?_
  obtain ⟨v6, e5, hm⟩ := mi_bind hm
  refine cS_i (As := [.int (σ 0 (Int32.toNatClampNeg (σ 11 9))), .int x3, .int (σ 11 5)]) (rest := []) C hW (c_X0_moves e5) kX0_moves q294 rfl rfl hl.1 ⟨Nat.le_of_ble_eq_true rfl, Nat.le_of_ble_eq_true rfl⟩ ⟨Nat.le_refl 0, Nat.le_refl 0⟩ (Nat.le_of_ble_eq_true rfl) dX4_exchange_98 (fun H locs hW => ?_)
  refine lv_istore (lv' := [(6, .int v6), (5, .int v3), (4, .int y0), (0, .ref (a 0)), (1, .int x1), (2, .int x2), (3, .int x3)]) hx hb dX4_exchange_101 hl (by decide) rfl (fun ls hl => ?_)
  refine lv_aload_n hx hb dX4_exchange_103 rfl (lv_at hl 3 rfl) ?_
  refine lv_aload_n hx hb dX4_exchange_104 rfl (lv_at hl 3 rfl) ?_
  refine gSq_first C hW q110 dX4_exchange_105 ?_
  refine lv_aload_n hx hb dX4_exchange_108 rfl (lv_at hl 3 rfl) ?_
  refine gSq_topic C hW q107 dX4_exchange_109 ?_
  refine lv_iload_n hx hb dX4_exchange_112 rfl (lv_at hl 4 rfl) ?_
  refine lv_iload hx hb dX4_exchange_113 (lv_at hl 2 rfl) ?_
  refine lv_iload hx hb dX4_exchange_115 (lv_at hl 1 rfl) ?_
  refine lv_imul hx hb dX4_exchange_117 ?_
  refine lv_iadd hx hb dX4_exchange_118 ?_
  obtain ⟨v8, e7, hm⟩ := mi_bind hm
  refine cS_i (As := [.int (x1 + (y0 * v3))]) (rest := [.int (σ 11 7), .int (σ 11 8), .ref (a 0)]) C hW (c_X4_heldView e7) kX4_heldView q377 rfl rfl hl.1 ⟨Nat.le_of_ble_eq_true rfl, Nat.le_of_ble_eq_true rfl⟩ ⟨Nat.le_refl 0, Nat.le_refl 0⟩ (Nat.le_of_ble_eq_true rfl) dX4_exchange_119 (fun H locs hW => ?_)
  obtain ⟨s10, e9, hm⟩ := mi_bind hm
  refine cs_v (q0 := 0) (As := [.int (σ 11 8), .int (σ 11 7), .int v8]) (rest := []) C hW (c_X4_setView e9) kX4_setView q245 rfl rfl rfl rfl rfl hl.1 ⟨Nat.le_of_ble_eq_true rfl, Nat.le_of_ble_eq_true rfl⟩ ⟨Nat.le_refl 0, Nat.le_refl 0⟩ (Nat.le_of_ble_eq_true rfl) dX4_exchange_122 (fun H locs hW => ?_)
  refine lv_aload_n hx hb dX4_exchange_125 rfl (lv_at hl 3 rfl) ?_
  refine lv_aload_n hx hb dX4_exchange_126 rfl (lv_at hl 3 rfl) ?_
  refine gSq_second C hW q112 dX4_exchange_127 ?_
  refine lv_aload_n hx hb dX4_exchange_130 rfl (lv_at hl 3 rfl) ?_
  refine gSq_topic C hW q107 dX4_exchange_131 ?_
  refine lv_iload_n hx hb dX4_exchange_134 rfl (lv_at hl 5 rfl) ?_
  refine lv_iload hx hb dX4_exchange_135 (lv_at hl 2 rfl) ?_
  refine lv_iload hx hb dX4_exchange_137 (lv_at hl 0 rfl) ?_
  refine lv_imul hx hb dX4_exchange_139 ?_
  refine lv_isub hx hb dX4_exchange_140 ?_
  obtain ⟨v12, e11, hm⟩ := mi_bind hm
  refine cS_i (As := [.int (x2 - (y0 * v6))]) (rest := [.int (s10 11 7), .int (s10 11 9), .ref (a 0)]) C hW (c_X4_heldView e11) kX4_heldView q377 rfl rfl hl.1 ⟨Nat.le_of_ble_eq_true rfl, Nat.le_of_ble_eq_true rfl⟩ ⟨Nat.le_refl 0, Nat.le_refl 0⟩ (Nat.le_of_ble_eq_true rfl) dX4_exchange_141 (fun H locs hW => ?_)
  obtain ⟨s14, e13, hm⟩ := mi_bind hm
  refine cs_v (q0 := 0) (As := [.int (s10 11 9), .int (s10 11 7), .int v12]) (rest := []) C hW (c_X4_setView e13) kX4_setView q245 rfl rfl rfl rfl rfl hl.1 ⟨Nat.le_of_ble_eq_true rfl, Nat.le_of_ble_eq_true rfl⟩ ⟨Nat.le_refl 0, Nat.le_refl 0⟩ (Nat.le_of_ble_eq_true rfl) dX4_exchange_144 (fun H locs hW => ?_)
  refine lv_aload_n hx hb dX4_exchange_147 rfl (lv_at hl 3 rfl) ?_
  refine gSq_kindOf C hW q95 dX4_exchange_148 ?_
  refine lv_aload_n hx hb dX4_exchange_151 rfl (lv_at hl 3 rfl) ?_
  refine gSq_first C hW q110 dX4_exchange_152 ?_
  obtain ⟨hi15, hm⟩ := mi_ai hm
  refine lSq_kindOf C hW hi15 dX4_exchange_155 ?_
  refine lv_aload_n hx hb dX4_exchange_156 rfl (lv_at hl 3 rfl) ?_
  refine gSq_voiceOf C hW q96 dX4_exchange_157 ?_
  refine lv_aload_n hx hb dX4_exchange_160 rfl (lv_at hl 3 rfl) ?_
  refine gSq_first C hW q110 dX4_exchange_161 ?_
  obtain ⟨hi16, hm⟩ := mi_ai hm
  refine lSq_voiceOf C hW hi16 dX4_exchange_164 ?_
  refine lv_iload_n hx hb dX4_exchange_165 rfl (lv_at hl 6 rfl) ?_
  refine lv_aload_n hx hb dX4_exchange_166 rfl (lv_at hl 3 rfl) ?_
  refine gSq_minute C hW q103 dX4_exchange_167 ?_
  obtain ⟨v18, e17, hm⟩ := mi_bind hm
  refine cS_i (As := [.int (s14 0 (Int32.toNatClampNeg (s14 11 8))), .int (s14 1 (Int32.toNatClampNeg (s14 11 8))), .int x3, .int (s14 11 5)]) (rest := []) C hW (c_X0_strokes e17) kX0_strokes q301 rfl rfl hl.1 ⟨Nat.le_of_ble_eq_true rfl, Nat.le_of_ble_eq_true rfl⟩ ⟨Nat.le_refl 0, Nat.le_refl 0⟩ (Nat.le_of_ble_eq_true rfl) dX4_exchange_170 (fun H locs hW => ?_)
  refine lv_aload_n hx hb dX4_exchange_173 rfl (lv_at hl 3 rfl) ?_
  refine gSq_kindOf C hW q95 dX4_exchange_174 ?_
  refine lv_aload_n hx hb dX4_exchange_177 rfl (lv_at hl 3 rfl) ?_
  refine gSq_second C hW q112 dX4_exchange_178 ?_
  obtain ⟨hi19, hm⟩ := mi_ai hm
  refine lSq_kindOf C hW hi19 dX4_exchange_181 ?_
  refine lv_aload_n hx hb dX4_exchange_182 rfl (lv_at hl 3 rfl) ?_
  refine gSq_voiceOf C hW q96 dX4_exchange_183 ?_
  refine lv_aload_n hx hb dX4_exchange_186 rfl (lv_at hl 3 rfl) ?_
  refine gSq_second C hW q112 dX4_exchange_187 ?_
  obtain ⟨hi20, hm⟩ := mi_ai hm
  refine lSq_voiceOf C hW hi20 dX4_exchange_190 ?_
  refine lv_iload_n hx hb dX4_exchange_191 rfl (lv_at hl 6 rfl) ?_
  refine lv_aload_n hx hb dX4_exchange_192 rfl (lv_at hl 3 rfl) ?_
  refine gSq_minute C hW q103 dX4_exchange_193 ?_
  obtain ⟨v22, e21, hm⟩ := mi_bind hm
  refine cS_i (As := [.int (s14 0 (Int32.toNatClampNeg (s14 11 9))), .int (s14 1 (Int32.toNatClampNeg (s14 11 9))), .int x3, .int (s14 11 5)]) (rest := [.int v18]) C hW (c_X0_strokes e21) kX0_strokes q301 rfl rfl hl.1 ⟨Nat.le_of_ble_eq_true rfl, Nat.le_of_ble_eq_true rfl⟩ ⟨Nat.le_refl 0, Nat.le_refl 0⟩ (Nat.le_of_ble_eq_true rfl) dX4_exchange_196 (fun H locs hW => ?_)
  refine lv_iadd hx hb dX4_exchange_199 ?_
  obtain ⟨rfl, rfl⟩ := Prod.mk.inj (Option.some.inj hm)
  exact en_i C hr hlk hW dX4_exchange_200
def X4_exchange (σ : MS) : Option (Int32 × MS) := (X4_viewOn σ (σ 11 8) (σ 11 7)).bind fun v24 => (X4_viewOn σ (σ 11 9) (σ 11 7)).bind fun v26 => if v24 = v26 then (some ((0 : Int32), su σ 11 7 (((σ 11 7) + (1 : Int32)) - ((σ 11 7) + (1 : Int32)) / (6 : Int32) * (6 : Int32)))) else (if v26 ≤ v24 then (X4_exchange_b63 σ v24 v26 ((if (0 : Int32) ≤ (v24 - v26) then (v24 - v26) else (0 : Int32) - (v24 - v26))) (-1 : Int32)) else (X4_exchange_b63 σ v24 v26 ((if (0 : Int32) ≤ (v24 - v26) then (v24 - v26) else (0 : Int32) - (v24 - v26))) (1 : Int32)))
set_option maxHeartbeats 4000000 in
set_option maxRecDepth 100000 in
theorem c_X4_exchange {l : Launch} {D : va_G} {cy cz : ClassId} {G : GT} {a : Nat → Nat} {σ : MS} {r : Int32} {σr : MS} (hm : X4_exchange σ = some (r, σr)) : CtI l D cy cz G yX4_exchange cX4_exchange 7 (some .int) 1 25 [.ref (a 0)] (cSq a cy σ) (cSq a cy σr) r := by
  refine ct_i (own := "PumpTalk$Square") (by decide) rfl (Nat.le_of_ble_eq_true rfl) ?_
  intro p e s m below meth c ls A C hr hlk hW hl
  have hx := C.1
  have hb := C.2.1
  have hl : lv_has ls 7 [(0, .ref (a 0))] := hl
  unfold X4_exchange at hm
  refine lv_aload_n hx hb dX4_exchange_0 rfl (lv_at hl 0 rfl) ?_
  refine lv_aload_n hx hb dX4_exchange_1 rfl (lv_at hl 0 rfl) ?_
  refine gSq_first C hW q110 dX4_exchange_2 ?_
  refine lv_aload_n hx hb dX4_exchange_5 rfl (lv_at hl 0 rfl) ?_
  refine gSq_topic C hW q107 dX4_exchange_6 ?_
  obtain ⟨v24, e23, hm⟩ := mi_bind hm
  refine cs_i (q0 := 0) (As := [.int (σ 11 8), .int (σ 11 7)]) (rest := []) C hW (c_X4_viewOn e23) kX4_viewOn q265 rfl rfl rfl rfl rfl hl.1 ⟨Nat.le_of_ble_eq_true rfl, Nat.le_of_ble_eq_true rfl⟩ ⟨Nat.le_refl 0, Nat.le_refl 0⟩ (Nat.le_of_ble_eq_true rfl) dX4_exchange_9 (fun H locs hW => ?_)
  refine lv_istore_n (lv' := [(1, .int v24), (0, .ref (a 0))]) hx hb dX4_exchange_12 rfl hl (by decide) rfl (fun ls hl => ?_)
  refine lv_aload_n hx hb dX4_exchange_13 rfl (lv_at hl 1 rfl) ?_
  refine lv_aload_n hx hb dX4_exchange_14 rfl (lv_at hl 1 rfl) ?_
  refine gSq_second C hW q112 dX4_exchange_15 ?_
  refine lv_aload_n hx hb dX4_exchange_18 rfl (lv_at hl 1 rfl) ?_
  refine gSq_topic C hW q107 dX4_exchange_19 ?_
  obtain ⟨v26, e25, hm⟩ := mi_bind hm
  refine cs_i (q0 := 0) (As := [.int (σ 11 9), .int (σ 11 7)]) (rest := []) C hW (c_X4_viewOn e25) kX4_viewOn q265 rfl rfl rfl rfl rfl hl.1 ⟨Nat.le_of_ble_eq_true rfl, Nat.le_of_ble_eq_true rfl⟩ ⟨Nat.le_refl 0, Nat.le_refl 0⟩ (Nat.le_of_ble_eq_true rfl) dX4_exchange_22 (fun H locs hW => ?_)
  refine lv_istore_n (lv' := [(2, .int v26), (1, .int v24), (0, .ref (a 0))]) hx hb dX4_exchange_25 rfl hl (by decide) rfl (fun ls hl => ?_)
  refine lv_iload_n hx hb dX4_exchange_26 rfl (lv_at hl 1 rfl) ?_
  refine lv_iload_n hx hb dX4_exchange_27 rfl (lv_at hl 0 rfl) ?_
  refine lv_icmp_ne (tgt := 46) hx hb dX4_exchange_28 (by decide) (fun hc27 => ?_) (fun hc27 => ?_)
  · rw [if_neg hc27] at hm
    refine lv_iload_n hx hb dX4_exchange_46 rfl (lv_at hl 1 rfl) ?_
    refine lv_iload_n hx hb dX4_exchange_47 rfl (lv_at hl 0 rfl) ?_
    refine lv_isub hx hb dX4_exchange_48 ?_
    refine va_mabs hx hb (C.2.2.1.trans hl.1.symm) C.2.2.2.1 (C.2.2.2.2.1 _ q315) (C.2.2.2.2.1 _ q316) (C.2.2.2.2.1 _ q74) (C.2.2.2.2.1 _ q317) (Nat.le_of_ble_eq_true rfl) (Nat.le_of_ble_eq_true rfl) (Nat.le_refl 0) (Nat.le_refl 0) dX4_exchange_49 ?_
    refine lv_istore_n (lv' := [(3, .int (if (0 : Int32) ≤ (v24 - v26) then (v24 - v26) else (0 : Int32) - (v24 - v26))), (2, .int v26), (1, .int v24), (0, .ref (a 0))]) hx hb dX4_exchange_52 rfl hl (by decide) rfl (fun ls hl => ?_)
    refine lv_iload_n hx hb dX4_exchange_53 rfl (lv_at hl 2 rfl) ?_
    refine lv_iload_n hx hb dX4_exchange_54 rfl (lv_at hl 1 rfl) ?_
    refine lv_icmp_ge (tgt := 62) hx hb dX4_exchange_55 (by decide) (fun hc28 => ?_) (fun hc28 => ?_)
    · rw [if_pos hc28] at hm
      refine lv_iconst (v := -1) hx hb dX4_exchange_62 (by decide) ?_
      exact wX4_exchange_b63 C hr hlk σ v24 v26 ((if (0 : Int32) ≤ (v24 - v26) then (v24 - v26) else (0 : Int32) - (v24 - v26))) (-1 : Int32) _ _ _ hm hW (lv_sub hl [3, 2, 1, 0] rfl)
    · rw [if_neg hc28] at hm
      refine lv_iconst (v := 1) hx hb dX4_exchange_58 (by decide) ?_
      refine lv_goto (tgt := 63) hx hb dX4_exchange_59 (by decide) ?_
      exact wX4_exchange_b63 C hr hlk σ v24 v26 ((if (0 : Int32) ≤ (v24 - v26) then (v24 - v26) else (0 : Int32) - (v24 - v26))) (1 : Int32) _ _ _ hm hW (lv_sub hl [3, 2, 1, 0] rfl)
  · rw [if_pos hc27] at hm
    refine lv_aload_n hx hb dX4_exchange_31 rfl (lv_at hl 2 rfl) ?_
    refine lv_aload_n hx hb dX4_exchange_32 rfl (lv_at hl 2 rfl) ?_
    refine gSq_topic C hW q107 dX4_exchange_33 ?_
    refine lv_iconst (v := 1) hx hb dX4_exchange_36 (by decide) ?_
    refine lv_iadd hx hb dX4_exchange_37 ?_
    refine lv_bipush (v := 6) hx hb dX4_exchange_38 (by decide) ?_
    refine lv_irem hx hb dX4_exchange_40 (by decide) ?_
    refine pSq_topic C hW q107 dX4_exchange_41 (fun H locs hW => ?_)
    refine lv_iconst (v := 0) hx hb dX4_exchange_44 (by decide) ?_
    obtain ⟨rfl, rfl⟩ := Prod.mk.inj (Option.some.inj hm)
    exact en_i C hr hlk hW dX4_exchange_45
theorem kX4_exchange : KM yX4_exchange cX4_exchange 7 (some .int) 0 := ⟨q375, q2, q68, q376, by decide +kernel, by decide +kernel, by decide +kernel⟩
def X4_passMinute_b15 (σ : MS) (y0 : Int32) : Option (Int32 × MS) := some (y0, su (su σ 11 6 (if ((σ 11 6) + y0) < (999999 : Int32) then ((σ 11 6) + y0) else (999999 : Int32))) 11 5 (if (((su σ 11 6 (if ((σ 11 6) + y0) < (999999 : Int32) then ((σ 11 6) + y0) else (999999 : Int32))) 11 5) + (1 : Int32)) < (99999 : Int32) then (((su σ 11 6 (if ((σ 11 6) + y0) < (999999 : Int32) then ((σ 11 6) + y0) else (999999 : Int32))) 11 5) + (1 : Int32)) else (99999 : Int32)))
set_option maxHeartbeats 4000000 in
set_option maxRecDepth 100000 in
theorem wX4_passMinute_b15 {p : Program} {l : Launch} {e : Env} {s : State} {m : MethodId} {below : List Frame} {meth : Method} {c : Code} {D : va_G} {cy cz : ClassId} {G : GT} {A : Nat → Prop} {args : Array Value} {a : Nat → Nat} {r : Int32} {σr : MS} (C : Cx p s m args c cX4_passMinute 2 "PumpTalk$Square" D cy cz G A) (hr : meth.sig.returnType = some .int) (hlk : meth.locks = false) : ∀ (σ : MS) (y0 : Int32) (H : Heap) (locs : List Loc) (ls : Array Slot), X4_passMinute_b15 σ y0 = some (r, σr) → Wd D A s.heap H locs (cSq a cy σ) → lv_has ls 2 [(0, .ref (a 0))] → W p l e (rmz 2 51) s m args below meth c H locs 0 0 (MQ below (QI D cy cz A (cSq a cy σr) r) args s 0 0 A) (F0 m 15 ls [.int y0]) := by
  have hx := C.1
  have hb := C.2.1
  intro σ y0 H locs ls hm hW hl
  unfold X4_passMinute_b15 at hm
  refine lv_istore_n (lv' := [(1, .int y0), (0, .ref (a 0))]) hx hb dX4_passMinute_15 rfl hl (by decide) rfl (fun ls hl => ?_)
  refine lv_aload_n hx hb dX4_passMinute_16 rfl (lv_at hl 1 rfl) ?_
  refine lv_ldc hx hb C.2.2.2.1 (C.2.2.2.2.1 _ q380) dX4_passMinute_17 ?_
  refine lv_aload_n hx hb dX4_passMinute_19 rfl (lv_at hl 1 rfl) ?_
  refine gSq_water C hW q105 dX4_passMinute_20 ?_
  refine lv_iload_n hx hb dX4_passMinute_23 rfl (lv_at hl 0 rfl) ?_
  refine lv_iadd hx hb dX4_passMinute_24 ?_
  refine va_mmin hx hb (C.2.2.1.trans hl.1.symm) C.2.2.2.1 (C.2.2.2.2.1 _ q381) (C.2.2.2.2.1 _ q382) (C.2.2.2.2.1 _ q74) (C.2.2.2.2.1 _ q383) (Nat.le_of_ble_eq_true rfl) (Nat.le_of_ble_eq_true rfl) (Nat.le_refl 0) (Nat.le_refl 0) dX4_passMinute_25 ?_
  refine pSq_water C hW q105 dX4_passMinute_28 (fun H locs hW => ?_)
  refine lv_aload_n hx hb dX4_passMinute_31 rfl (lv_at hl 1 rfl) ?_
  refine lv_ldc hx hb C.2.2.2.1 (C.2.2.2.2.1 _ q384) dX4_passMinute_32 ?_
  refine lv_aload_n hx hb dX4_passMinute_34 rfl (lv_at hl 1 rfl) ?_
  refine gSq_minute C hW q103 dX4_passMinute_35 ?_
  refine lv_iconst (v := 1) hx hb dX4_passMinute_38 (by decide) ?_
  refine lv_iadd hx hb dX4_passMinute_39 ?_
  refine va_mmin hx hb (C.2.2.1.trans hl.1.symm) C.2.2.2.1 (C.2.2.2.2.1 _ q381) (C.2.2.2.2.1 _ q382) (C.2.2.2.2.1 _ q74) (C.2.2.2.2.1 _ q383) (Nat.le_of_ble_eq_true rfl) (Nat.le_of_ble_eq_true rfl) (Nat.le_refl 0) (Nat.le_refl 0) dX4_passMinute_40 ?_
  refine pSq_minute C hW q103 dX4_passMinute_43 (fun H locs hW => ?_)
  refine lv_iload_n hx hb dX4_passMinute_46 rfl (lv_at hl 0 rfl) ?_
  obtain ⟨rfl, rfl⟩ := Prod.mk.inj (Option.some.inj hm)
  exact en_i C hr hlk hW dX4_passMinute_47
def X4_passMinute (σ : MS) : Option (Int32 × MS) := (X4_isManned σ).bind fun v2 => if v2 = (0 : Int32) then (X4_passMinute_b15 σ (0 : Int32)) else ((X4_exchange σ).bind fun q5 => X4_passMinute_b15 q5.2 q5.1)
set_option maxHeartbeats 4000000 in
set_option maxRecDepth 100000 in
theorem c_X4_passMinute {l : Launch} {D : va_G} {cy cz : ClassId} {G : GT} {a : Nat → Nat} {σ : MS} {r : Int32} {σr : MS} (hm : X4_passMinute σ = some (r, σr)) : CtI l D cy cz G yX4_passMinute cX4_passMinute 2 (some .int) 2 51 [.ref (a 0)] (cSq a cy σ) (cSq a cy σr) r := by
  refine ct_i (own := "PumpTalk$Square") (by decide) rfl (Nat.le_of_ble_eq_true rfl) ?_
  intro p e s m below meth c ls A C hr hlk hW hl
  have hx := C.1
  have hb := C.2.1
  have hl : lv_has ls 2 [(0, .ref (a 0))] := hl
  unfold X4_passMinute at hm
  refine lv_aload_n hx hb dX4_passMinute_0 rfl (lv_at hl 0 rfl) ?_
  obtain ⟨v2, e1, hm⟩ := mi_bind hm
  refine cs_i (q0 := 0) (As := []) (rest := []) C hW (c_X4_isManned e1) kX4_isManned q334 rfl rfl rfl rfl rfl hl.1 ⟨Nat.le_of_ble_eq_true rfl, Nat.le_of_ble_eq_true rfl⟩ ⟨Nat.le_refl 0, Nat.le_refl 0⟩ (Nat.le_of_ble_eq_true rfl) dX4_passMinute_1 (fun H locs hW => ?_)
  refine lv_if_eq (tgt := 14) hx hb dX4_passMinute_4 (by decide) (fun hc3 => ?_) (fun hc3 => ?_)
  · rw [if_pos hc3] at hm
    refine lv_iconst (v := 0) hx hb dX4_passMinute_14 (by decide) ?_
    exact wX4_passMinute_b15 C hr hlk σ (0 : Int32) _ _ _ hm hW (lv_sub hl [0] rfl)
  · rw [if_neg hc3] at hm
    refine lv_aload_n hx hb dX4_passMinute_7 rfl (lv_at hl 0 rfl) ?_
    obtain ⟨q5, e4, hm⟩ := mi_bind hm
    refine cs_i (q0 := 0) (As := []) (rest := []) C hW (c_X4_exchange e4) kX4_exchange q373 rfl rfl rfl rfl rfl hl.1 ⟨Nat.le_of_ble_eq_true rfl, Nat.le_of_ble_eq_true rfl⟩ ⟨Nat.le_refl 0, Nat.le_refl 0⟩ (Nat.le_of_ble_eq_true rfl) dX4_passMinute_8 (fun H locs hW => ?_)
    refine lv_goto (tgt := 15) hx hb dX4_passMinute_11 (by decide) ?_
    exact wX4_passMinute_b15 C hr hlk q5.2 q5.1 _ _ _ hm hW (lv_sub hl [0] rfl)
theorem kX4_passMinute : KM yX4_passMinute cX4_passMinute 2 (some .int) 0 := ⟨q370, q371, q68, q372, by decide +kernel, by decide +kernel, by decide +kernel⟩
def X4_passMinutes_b2 : Nat → MS → Int32 → Int32 → Option (MS)
  | 0, _, _, _ => none
  | n + 1, σ, x1, x2 => if x1 ≤ x2 then (some σ) else ((X4_passMinute σ).bind fun q3 => X4_passMinutes_b2 n q3.2 x1 ((x2 + (1 : Int32))))
set_option maxHeartbeats 4000000 in
set_option maxRecDepth 100000 in
theorem wX4_passMinutes_b2 {p : Program} {l : Launch} {e : Env} {s : State} {m : MethodId} {below : List Frame} {meth : Method} {c : Code} {D : va_G} {cy cz : ClassId} {G : GT} {A : Nat → Prop} {args : Array Value} {a : Nat → Nat} {σr : MS} (C : Cx p s m args c cX4_passMinutes 3 "PumpTalk$Square" D cy cz G A) (hr : meth.sig.returnType = none) (hlk : meth.locks = false) : ∀ (n : Nat) (σ : MS) (x1 : Int32) (x2 : Int32) (H : Heap) (locs : List Loc) (ls : Array Slot), X4_passMinutes_b2 n σ x1 x2 = some σr → Wd D A s.heap H locs (cSq a cy σ) → lv_has ls 3 [(0, .ref (a 0)), (1, .int x1), (2, .int x2)] → W p l e (rmz 3 72) s m args below meth c H locs 0 0 (MQ below (QV D cy cz A (cSq a cy σr) ()) args s 0 0 A) (F0 m 2 ls []) := by
  have hx := C.1
  have hb := C.2.1
  intro n
  induction n with
  | zero =>
    intro σ x1 x2 H locs ls hm
    rw [X4_passMinutes_b2] at hm
    cases hm
  | succ n ih =>
    intro σ x1 x2 H locs ls hm hW hl
    rw [X4_passMinutes_b2] at hm
    refine lv_iload_n hx hb dX4_passMinutes_2 rfl (lv_at hl 2 rfl) ?_
    refine lv_iload_n hx hb dX4_passMinutes_3 rfl (lv_at hl 1 rfl) ?_
    refine lv_icmp_ge (tgt := 18) hx hb dX4_passMinutes_4 (by decide) (fun hc1 => ?_) (fun hc1 => ?_)
    · rw [if_pos hc1] at hm
      obtain rfl := Option.some.inj hm
      exact en_v C hr hlk hW dX4_passMinutes_18
    · rw [if_neg hc1] at hm
      refine lv_aload_n hx hb dX4_passMinutes_7 rfl (lv_at hl 0 rfl) ?_
      obtain ⟨q3, e2, hm⟩ := mi_bind hm
      refine cs_i (q0 := 0) (As := []) (rest := []) C hW (c_X4_passMinute e2) kX4_passMinute q369 rfl rfl rfl rfl rfl hl.1 ⟨Nat.le_of_ble_eq_true rfl, Nat.le_of_ble_eq_true rfl⟩ ⟨Nat.le_refl 0, Nat.le_refl 0⟩ (Nat.le_of_ble_eq_true rfl) dX4_passMinutes_8 (fun H locs hW => ?_)
      refine lv_pop hx hb dX4_passMinutes_11 rfl ?_
      refine lv_iinc (v := (x2 + (1 : Int32))) (lv' := [(2, .int (x2 + (1 : Int32))), (0, .ref (a 0)), (1, .int x1)]) hx hb dX4_passMinutes_12 hl (k := 2) rfl (congrArg (fun z : Int32 => x2 + z) (by decide)) (by decide) rfl (fun ls hl => ?_)
      refine lv_goto (tgt := 2) hx hb dX4_passMinutes_15 (by decide) ?_
      exact ih q3.2 x1 ((x2 + (1 : Int32))) _ _ _ hm hW (lv_sub hl [1, 2, 0] rfl)
def X4_passMinutes (σ : MS) (p1 : Int32) : Option (MS) := X4_passMinutes_b2 FU σ p1 (0 : Int32)
set_option maxHeartbeats 4000000 in
set_option maxRecDepth 100000 in
theorem c_X4_passMinutes {l : Launch} {D : va_G} {cy cz : ClassId} {G : GT} {a : Nat → Nat} {σ : MS} {p1 : Int32} {σr : MS} (hm : X4_passMinutes σ p1 = some σr) : CtV l D cy cz G yX4_passMinutes cX4_passMinutes 3 none 3 72 [.ref (a 0), .int p1] (cSq a cy σ) (cSq a cy σr) () := by
  refine ct_v (own := "PumpTalk$Square") (by decide) rfl (Nat.le_of_ble_eq_true rfl) ?_
  intro p e s m below meth c ls A C hr hlk hW hl
  have hx := C.1
  have hb := C.2.1
  have hl : lv_has ls 3 [(0, .ref (a 0)), (1, .int p1)] := hl
  unfold X4_passMinutes at hm
  refine lv_iconst (v := 0) hx hb dX4_passMinutes_0 (by decide) ?_
  refine lv_istore_n (lv' := [(2, .int (0 : Int32)), (0, .ref (a 0)), (1, .int p1)]) hx hb dX4_passMinutes_1 rfl hl (by decide) rfl (fun ls hl => ?_)
  exact wX4_passMinutes_b2 C hr hlk FU σ p1 (0 : Int32) _ _ _ hm hW (lv_sub hl [1, 2, 0] rfl)
theorem kX4_passMinutes : KM yX4_passMinutes cX4_passMinutes 3 none 1 := ⟨q366, q367, q68, q368, by decide +kernel, by decide +kernel, by decide +kernel⟩
def X4_allVoices_b4 (σ : MS) : Nat → Int32 → Int32 → Option (Int32)
  | 0, _, _ => none
  | n + 1, x1, x2 => if (σ 11 4) ≤ x2 then (some x1) else (ai x2 8 (X4_allVoices_b4 σ n ((x1 + (σ 1 (Int32.toNatClampNeg x2)))) ((x2 + (1 : Int32)))))
set_option maxHeartbeats 4000000 in
set_option maxRecDepth 100000 in
theorem wX4_allVoices_b4 {p : Program} {l : Launch} {e : Env} {s : State} {m : MethodId} {below : List Frame} {meth : Method} {c : Code} {D : va_G} {cy cz : ClassId} {G : GT} {A : Nat → Prop} {args : Array Value} {a : Nat → Nat} {r : Int32} {σ : MS} (C : Cx p s m args c cX4_allVoices 3 "PumpTalk$Square" D cy cz G A) (hr : meth.sig.returnType = some .int) (hlk : meth.locks = false) : ∀ (n : Nat) (x1 : Int32) (x2 : Int32) (H : Heap) (locs : List Loc) (ls : Array Slot), X4_allVoices_b4 σ n x1 x2 = some r → Wd D A s.heap H locs (cSq a cy σ) → lv_has ls 3 [(0, .ref (a 0)), (1, .int x1), (2, .int x2)] → W p l e (rmz 0 0) s m args below meth c H locs 0 0 (MQ below (QI D cy cz A (cSq a cy σ) r) args s 0 0 A) (F0 m 4 ls []) := by
  have hx := C.1
  have hb := C.2.1
  intro n
  induction n with
  | zero =>
    intro x1 x2 H locs ls hm
    rw [X4_allVoices_b4] at hm
    cases hm
  | succ n ih =>
    intro x1 x2 H locs ls hm hW hl
    rw [X4_allVoices_b4] at hm
    refine lv_iload_n hx hb dX4_allVoices_4 rfl (lv_at hl 2 rfl) ?_
    refine lv_aload_n hx hb dX4_allVoices_5 rfl (lv_at hl 0 rfl) ?_
    refine gSq_people C hW q100 dX4_allVoices_6 ?_
    refine lv_icmp_ge (tgt := 27) hx hb dX4_allVoices_9 (by decide) (fun hc1 => ?_) (fun hc1 => ?_)
    · rw [if_pos hc1] at hm
      refine lv_iload_n hx hb dX4_allVoices_27 rfl (lv_at hl 1 rfl) ?_
      obtain rfl := Option.some.inj hm
      exact en_i C hr hlk hW dX4_allVoices_28
    · rw [if_neg hc1] at hm
      refine lv_iload_n hx hb dX4_allVoices_12 rfl (lv_at hl 1 rfl) ?_
      refine lv_aload_n hx hb dX4_allVoices_13 rfl (lv_at hl 0 rfl) ?_
      refine gSq_voiceOf C hW q96 dX4_allVoices_14 ?_
      refine lv_iload_n hx hb dX4_allVoices_17 rfl (lv_at hl 2 rfl) ?_
      obtain ⟨hi2, hm⟩ := mi_ai hm
      refine lSq_voiceOf C hW hi2 dX4_allVoices_18 ?_
      refine lv_iadd hx hb dX4_allVoices_19 ?_
      refine lv_istore_n (lv' := [(1, .int (x1 + (σ 1 (Int32.toNatClampNeg x2)))), (0, .ref (a 0)), (2, .int x2)]) hx hb dX4_allVoices_20 rfl hl (by decide) rfl (fun ls hl => ?_)
      refine lv_iinc (v := (x2 + (1 : Int32))) (lv' := [(2, .int (x2 + (1 : Int32))), (1, .int (x1 + (σ 1 (Int32.toNatClampNeg x2)))), (0, .ref (a 0))]) hx hb dX4_allVoices_21 hl (k := 2) rfl (congrArg (fun z : Int32 => x2 + z) (by decide)) (by decide) rfl (fun ls hl => ?_)
      refine lv_goto (tgt := 4) hx hb dX4_allVoices_24 (by decide) ?_
      exact ih ((x1 + (σ 1 (Int32.toNatClampNeg x2)))) ((x2 + (1 : Int32))) _ _ _ hm hW (lv_sub hl [2, 1, 0] rfl)
def X4_allVoices (σ : MS) : Option (Int32) := X4_allVoices_b4 σ FU (0 : Int32) (0 : Int32)
set_option maxHeartbeats 4000000 in
set_option maxRecDepth 100000 in
theorem c_X4_allVoices {l : Launch} {D : va_G} {cy cz : ClassId} {G : GT} {a : Nat → Nat} {σ : MS} {r : Int32} (hm : X4_allVoices σ = some r) : CtI l D cy cz G yX4_allVoices cX4_allVoices 3 (some .int) 0 0 [.ref (a 0)] (cSq a cy σ) (cSq a cy σ) r := by
  refine ct_i (own := "PumpTalk$Square") (by decide) rfl (Nat.le_of_ble_eq_true rfl) ?_
  intro p e s m below meth c ls A C hr hlk hW hl
  have hx := C.1
  have hb := C.2.1
  have hl : lv_has ls 3 [(0, .ref (a 0))] := hl
  unfold X4_allVoices at hm
  refine lv_iconst (v := 0) hx hb dX4_allVoices_0 (by decide) ?_
  refine lv_istore_n (lv' := [(1, .int (0 : Int32)), (0, .ref (a 0))]) hx hb dX4_allVoices_1 rfl hl (by decide) rfl (fun ls hl => ?_)
  refine lv_iconst (v := 0) hx hb dX4_allVoices_2 (by decide) ?_
  refine lv_istore_n (lv' := [(2, .int (0 : Int32)), (1, .int (0 : Int32)), (0, .ref (a 0))]) hx hb dX4_allVoices_3 rfl hl (by decide) rfl (fun ls hl => ?_)
  exact wX4_allVoices_b4 C hr hlk FU (0 : Int32) (0 : Int32) _ _ _ hm hW (lv_sub hl [2, 1, 0] rfl)
theorem kX4_allVoices : KM yX4_allVoices cX4_allVoices 3 (some .int) 0 := ⟨q393, q394, q68, q395, by decide +kernel, by decide +kernel, by decide +kernel⟩
def X4_pumpBy_b12 : Nat → MS → Int32 → Int32 → Int32 → Option (Int32 × MS)
  | 0, _, _, _, _ => none
  | n + 1, σ, x3, x4, x5 => if x3 ≤ x5 then (some (x4, σ)) else ((X4_passMinute σ).bind fun q3 => X4_pumpBy_b12 n q3.2 x3 (x4 + q3.1) ((x5 + (1 : Int32))))
set_option maxHeartbeats 4000000 in
set_option maxRecDepth 100000 in
theorem wX4_pumpBy_b12 {p : Program} {l : Launch} {e : Env} {s : State} {m : MethodId} {below : List Frame} {meth : Method} {c : Code} {D : va_G} {cy cz : ClassId} {G : GT} {A : Nat → Prop} {args : Array Value} {a : Nat → Nat} {r : Int32} {σr : MS} (C : Cx p s m args c cX4_pumpBy 6 "PumpTalk$Square" D cy cz G A) (hr : meth.sig.returnType = some .int) (hlk : meth.locks = false) : ∀ (n : Nat) (σ : MS) (x3 : Int32) (x4 : Int32) (x5 : Int32) (H : Heap) (locs : List Loc) (ls : Array Slot), X4_pumpBy_b12 n σ x3 x4 x5 = some (r, σr) → Wd D A s.heap H locs (cSq a cy σ) → lv_has ls 6 [(0, .ref (a 0)), (3, .int x3), (4, .int x4), (5, .int x5)] → W p l e (rmz 3 72) s m args below meth c H locs 0 0 (MQ below (QI D cy cz A (cSq a cy σr) r) args s 0 0 A) (F0 m 12 ls []) := by
  have hx := C.1
  have hb := C.2.1
  intro n
  induction n with
  | zero =>
    intro σ x3 x4 x5 H locs ls hm
    rw [X4_pumpBy_b12] at hm
    cases hm
  | succ n ih =>
    intro σ x3 x4 x5 H locs ls hm hW hl
    rw [X4_pumpBy_b12] at hm
    refine lv_iload hx hb dX4_pumpBy_12 (lv_at hl 3 rfl) ?_
    refine lv_iload_n hx hb dX4_pumpBy_14 rfl (lv_at hl 1 rfl) ?_
    refine lv_icmp_ge (tgt := 33) hx hb dX4_pumpBy_15 (by decide) (fun hc1 => ?_) (fun hc1 => ?_)
    · rw [if_pos hc1] at hm
      refine lv_iload hx hb dX4_pumpBy_33 (lv_at hl 2 rfl) ?_
      obtain ⟨rfl, rfl⟩ := Prod.mk.inj (Option.some.inj hm)
      exact en_i C hr hlk hW dX4_pumpBy_35
    · rw [if_neg hc1] at hm
      refine lv_iload hx hb dX4_pumpBy_18 (lv_at hl 2 rfl) ?_
      refine lv_aload_n hx hb dX4_pumpBy_20 rfl (lv_at hl 0 rfl) ?_
      obtain ⟨q3, e2, hm⟩ := mi_bind hm
      refine cs_i (q0 := 0) (As := []) (rest := [.int x4]) C hW (c_X4_passMinute e2) kX4_passMinute q369 rfl rfl rfl rfl rfl hl.1 ⟨Nat.le_of_ble_eq_true rfl, Nat.le_of_ble_eq_true rfl⟩ ⟨Nat.le_refl 0, Nat.le_refl 0⟩ (Nat.le_of_ble_eq_true rfl) dX4_pumpBy_21 (fun H locs hW => ?_)
      refine lv_iadd hx hb dX4_pumpBy_24 ?_
      refine lv_istore (lv' := [(4, .int (x4 + q3.1)), (0, .ref (a 0)), (3, .int x3), (5, .int x5)]) hx hb dX4_pumpBy_25 hl (by decide) rfl (fun ls hl => ?_)
      refine lv_iinc (v := (x5 + (1 : Int32))) (lv' := [(5, .int (x5 + (1 : Int32))), (4, .int (x4 + q3.1)), (0, .ref (a 0)), (3, .int x3)]) hx hb dX4_pumpBy_27 hl (k := 3) rfl (congrArg (fun z : Int32 => x5 + z) (by decide)) (by decide) rfl (fun ls hl => ?_)
      refine lv_goto (tgt := 12) hx hb dX4_pumpBy_30 (by decide) ?_
      exact ih q3.2 x3 (x4 + q3.1) ((x5 + (1 : Int32))) _ _ _ hm hW (lv_sub hl [2, 3, 1, 0] rfl)
def X4_pumpBy (σ : MS) (p1 : Int32) (p2 : Int32) (p3 : Int32) : Option (Int32 × MS) := (X4_seat σ p1 p2).bind fun s5 => X4_pumpBy_b12 FU s5 p3 (0 : Int32) (0 : Int32)
set_option maxHeartbeats 4000000 in
set_option maxRecDepth 100000 in
theorem c_X4_pumpBy {l : Launch} {D : va_G} {cy cz : ClassId} {G : GT} {a : Nat → Nat} {σ : MS} {p1 : Int32} {p2 : Int32} {p3 : Int32} {r : Int32} {σr : MS} (hm : X4_pumpBy σ p1 p2 p3 = some (r, σr)) : CtI l D cy cz G yX4_pumpBy cX4_pumpBy 6 (some .int) 3 72 [.ref (a 0), .int p1, .int p2, .int p3] (cSq a cy σ) (cSq a cy σr) r := by
  refine ct_i (own := "PumpTalk$Square") (by decide) rfl (Nat.le_of_ble_eq_true rfl) ?_
  intro p e s m below meth c ls A C hr hlk hW hl
  have hx := C.1
  have hb := C.2.1
  have hl : lv_has ls 6 [(0, .ref (a 0)), (1, .int p1), (2, .int p2), (3, .int p3)] := hl
  unfold X4_pumpBy at hm
  refine lv_aload_n hx hb dX4_pumpBy_0 rfl (lv_at hl 0 rfl) ?_
  refine lv_iload_n hx hb dX4_pumpBy_1 rfl (lv_at hl 1 rfl) ?_
  refine lv_iload_n hx hb dX4_pumpBy_2 rfl (lv_at hl 2 rfl) ?_
  obtain ⟨s5, e4, hm⟩ := mi_bind hm
  refine cs_v (q0 := 0) (As := [.int p1, .int p2]) (rest := []) C hW (c_X4_seat e4) kX4_seat q443 rfl rfl rfl rfl rfl hl.1 ⟨Nat.le_of_ble_eq_true rfl, Nat.le_of_ble_eq_true rfl⟩ ⟨Nat.le_refl 0, Nat.le_refl 0⟩ (Nat.le_of_ble_eq_true rfl) dX4_pumpBy_3 (fun H locs hW => ?_)
  refine lv_iconst (v := 0) hx hb dX4_pumpBy_6 (by decide) ?_
  refine lv_istore (lv' := [(4, .int (0 : Int32)), (0, .ref (a 0)), (1, .int p1), (2, .int p2), (3, .int p3)]) hx hb dX4_pumpBy_7 hl (by decide) rfl (fun ls hl => ?_)
  refine lv_iconst (v := 0) hx hb dX4_pumpBy_9 (by decide) ?_
  refine lv_istore (lv' := [(5, .int (0 : Int32)), (4, .int (0 : Int32)), (0, .ref (a 0)), (1, .int p1), (2, .int p2), (3, .int p3)]) hx hb dX4_pumpBy_10 hl (by decide) rfl (fun ls hl => ?_)
  exact wX4_pumpBy_b12 C hr hlk FU s5 p3 (0 : Int32) (0 : Int32) _ _ _ hm hW (lv_sub hl [2, 5, 1, 0] rfl)
theorem kX4_pumpBy : KM yX4_pumpBy cX4_pumpBy 6 (some .int) 3 := ⟨q440, q441, q68, q442, by decide +kernel, by decide +kernel, by decide +kernel⟩
def X1_weigh (σ : MS) (p1 : Int32) (p2 : Int32) (p3 : Int32) : Option (MS) := (X5_pairNumber p1 p2).bind fun v2 => ai v2 64 (some (su σ 0 (Int32.toNatClampNeg v2) p3))
set_option maxHeartbeats 4000000 in
set_option maxRecDepth 100000 in
theorem c_X1_weigh {l : Launch} {D : va_G} {cy cz : ClassId} {G : GT} {a : Nat → Nat} {σ : MS} {p1 : Int32} {p2 : Int32} {p3 : Int32} {σr : MS} {z : ZT} (hg : GH G z) (hm : X1_weigh σ p1 p2 p3 = some σr) : CtV l D cy cz G yX1_weigh cX1_weigh 4 none 1 21 [.ref (a 0), .int p1, .int p2, .int p3] (cMa a cy σ) (cMa a cy σr) () := by
  refine ct_v (own := "PumpTalk$Matching") (by decide) rfl (Nat.le_of_ble_eq_true rfl) ?_
  intro p e s m below meth c ls A C hr hlk hW hl
  have hx := C.1
  have hb := C.2.1
  have hl : lv_has ls 4 [(0, .ref (a 0)), (1, .int p1), (2, .int p2), (3, .int p3)] := hl
  unfold X1_weigh at hm
  refine lv_aload_n hx hb dX1_weigh_0 rfl (lv_at hl 0 rfl) ?_
  refine gMa_gains C hW q172 dX1_weigh_1 ?_
  refine lv_iload_n hx hb dX1_weigh_4 rfl (lv_at hl 1 rfl) ?_
  refine lv_iload_n hx hb dX1_weigh_5 rfl (lv_at hl 2 rfl) ?_
  obtain ⟨v2, e1, hm⟩ := mi_bind hm
  refine cN_i (As := [.int p1, .int p2]) (rest := [.ref (a 1)]) C hW (c_X5_pairNumber e1) kX5_pairNumber (hg A s s.heap C.2.2.2.2.2.2.1.2).1 rfl rfl hl.1 ⟨Nat.le_of_ble_eq_true rfl, Nat.le_of_ble_eq_true rfl⟩ ⟨Nat.le_refl 0, Nat.le_refl 0⟩ (Nat.le_of_ble_eq_true rfl) dX1_weigh_6 (fun H locs hW => ?_)
  refine lv_iload_n hx hb dX1_weigh_9 rfl (lv_at hl 3 rfl) ?_
  obtain ⟨hi3, hm⟩ := mi_ai hm
  refine tMa_gains C hW hi3 dX1_weigh_10 (fun H locs hW => ?_)
  obtain rfl := Option.some.inj hm
  exact en_v C hr hlk hW dX1_weigh_11
theorem kX1_weigh : KM yX1_weigh cX1_weigh 4 none 3 := ⟨q465, q466, q70, q467, by decide +kernel, by decide +kernel, by decide +kernel⟩
def X1_everybody (p1 : Int32) : Option (Int32) := some (((1 : Int32) <<< (p1 &&& 31)) - (1 : Int32))
set_option maxHeartbeats 4000000 in
set_option maxRecDepth 100000 in
theorem c_X1_everybody {l : Launch} {D : va_G} {cy cz : ClassId} {G : GT} {p1 : Int32} {r : Int32} (hm : X1_everybody p1 = some r) : CtI l D cy cz G yX1_everybody cX1_everybody 1 (some .int) 0 0 [.int p1] ([] : va_W) ([] : va_W) r := by
  refine ct_i (own := "PumpTalk$Matching") (by decide) rfl (Nat.le_of_ble_eq_true rfl) ?_
  intro p e s m below meth c ls A C hr hlk hW hl
  have hx := C.1
  have hb := C.2.1
  have hl : lv_has ls 1 [(0, .int p1)] := hl
  unfold X1_everybody at hm
  refine lv_iconst (v := 1) hx hb dX1_everybody_0 (by decide) ?_
  refine lv_iload_n hx hb dX1_everybody_1 rfl (lv_at hl 0 rfl) ?_
  refine lv_ishl hx hb dX1_everybody_2 ?_
  refine lv_iconst (v := 1) hx hb dX1_everybody_3 (by decide) ?_
  refine lv_isub hx hb dX1_everybody_4 ?_
  obtain rfl := Option.some.inj hm
  exact en_i C hr hlk hW dX1_everybody_5
theorem kX1_everybody : KS yX1_everybody cX1_everybody 1 (some .int) 1 := ⟨q474, q70, q475, by decide +kernel, by decide +kernel, by decide +kernel⟩
def X1_leastOf_b2 : Nat → Int32 → Int32 → Option (Int32)
  | 0, _, _ => none
  | n + 1, x0, x1 => if (7 : Int32) ≤ x1 then (some x1) else (if ((x0 >>> (x1 &&& 31)) &&& (1 : Int32)) = (0 : Int32) then (X1_leastOf_b2 n x0 ((x1 + (1 : Int32)))) else (some x1))
set_option maxHeartbeats 4000000 in
set_option maxRecDepth 100000 in
theorem wX1_leastOf_b2 {p : Program} {l : Launch} {e : Env} {s : State} {m : MethodId} {below : List Frame} {meth : Method} {c : Code} {D : va_G} {cy cz : ClassId} {G : GT} {A : Nat → Prop} {args : Array Value} {r : Int32} (C : Cx p s m args c cX1_leastOf 2 "PumpTalk$Matching" D cy cz G A) (hr : meth.sig.returnType = some .int) (hlk : meth.locks = false) : ∀ (n : Nat) (x0 : Int32) (x1 : Int32) (H : Heap) (locs : List Loc) (ls : Array Slot), X1_leastOf_b2 n x0 x1 = some r → Wd D A s.heap H locs ([] : va_W) → lv_has ls 2 [(0, .int x0), (1, .int x1)] → W p l e (rmz 0 0) s m args below meth c H locs 0 0 (MQ below (QI D cy cz A ([] : va_W) r) args s 0 0 A) (F0 m 2 ls []) := by
  have hx := C.1
  have hb := C.2.1
  intro n
  induction n with
  | zero =>
    intro x0 x1 H locs ls hm
    rw [X1_leastOf_b2] at hm
    cases hm
  | succ n ih =>
    intro x0 x1 H locs ls hm hW hl
    rw [X1_leastOf_b2] at hm
    refine lv_iload_n hx hb dX1_leastOf_2 rfl (lv_at hl 1 rfl) ?_
    refine lv_bipush (v := 7) hx hb dX1_leastOf_3 (by decide) ?_
    refine lv_icmp_ge (tgt := 22) hx hb dX1_leastOf_5 (by decide) (fun hc1 => ?_) (fun hc1 => ?_)
    · rw [if_pos hc1] at hm
      refine lv_iload_n hx hb dX1_leastOf_22 rfl (lv_at hl 1 rfl) ?_
      obtain rfl := Option.some.inj hm
      exact en_i C hr hlk hW dX1_leastOf_23
    · rw [if_neg hc1] at hm
      refine lv_iload_n hx hb dX1_leastOf_8 rfl (lv_at hl 0 rfl) ?_
      refine lv_iload_n hx hb dX1_leastOf_9 rfl (lv_at hl 1 rfl) ?_
      refine lv_ishr hx hb dX1_leastOf_10 ?_
      refine lv_iconst (v := 1) hx hb dX1_leastOf_11 (by decide) ?_
      refine lv_iand hx hb dX1_leastOf_12 ?_
      refine lv_if_ne (tgt := 22) hx hb dX1_leastOf_13 (by decide) (fun hc2 => ?_) (fun hc2 => ?_)
      · rw [if_neg hc2] at hm
        refine lv_iload_n hx hb dX1_leastOf_22 rfl (lv_at hl 1 rfl) ?_
        obtain rfl := Option.some.inj hm
        exact en_i C hr hlk hW dX1_leastOf_23
      · rw [if_pos hc2] at hm
        refine lv_iinc (v := (x1 + (1 : Int32))) (lv' := [(1, .int (x1 + (1 : Int32))), (0, .int x0)]) hx hb dX1_leastOf_16 hl (k := 1) rfl (congrArg (fun z : Int32 => x1 + z) (by decide)) (by decide) rfl (fun ls hl => ?_)
        refine lv_goto (tgt := 2) hx hb dX1_leastOf_19 (by decide) ?_
        exact ih x0 ((x1 + (1 : Int32))) _ _ _ hm hW (lv_sub hl [1, 0] rfl)
def X1_leastOf (p1 : Int32) : Option (Int32) := X1_leastOf_b2 FU p1 (0 : Int32)
set_option maxHeartbeats 4000000 in
set_option maxRecDepth 100000 in
theorem c_X1_leastOf {l : Launch} {D : va_G} {cy cz : ClassId} {G : GT} {p1 : Int32} {r : Int32} (hm : X1_leastOf p1 = some r) : CtI l D cy cz G yX1_leastOf cX1_leastOf 2 (some .int) 0 0 [.int p1] ([] : va_W) ([] : va_W) r := by
  refine ct_i (own := "PumpTalk$Matching") (by decide) rfl (Nat.le_of_ble_eq_true rfl) ?_
  intro p e s m below meth c ls A C hr hlk hW hl
  have hx := C.1
  have hb := C.2.1
  have hl : lv_has ls 2 [(0, .int p1)] := hl
  unfold X1_leastOf at hm
  refine lv_iconst (v := 0) hx hb dX1_leastOf_0 (by decide) ?_
  refine lv_istore_n (lv' := [(1, .int (0 : Int32)), (0, .int p1)]) hx hb dX1_leastOf_1 rfl hl (by decide) rfl (fun ls hl => ?_)
  exact wX1_leastOf_b2 C hr hlk FU p1 (0 : Int32) _ _ _ hm hW (lv_sub hl [1, 0] rfl)
theorem kX1_leastOf : KS yX1_leastOf cX1_leastOf 2 (some .int) 1 := ⟨q477, q70, q478, by decide +kernel, by decide +kernel, by decide +kernel⟩
def X1_together (σ : MS) (p1 : Int32) (p2 : Int32) (p3 : Int32) : Option (Int32) := (X5_pairNumber p1 p2).bind fun v2 => ai v2 64 (ai (p3 &&& (((1 : Int32) <<< (p2 &&& 31)) ^^^ (-1 : Int32))) 256 (some ((σ 0 (Int32.toNatClampNeg v2)) + (σ 1 (Int32.toNatClampNeg (p3 &&& (((1 : Int32) <<< (p2 &&& 31)) ^^^ (-1 : Int32))))))))
set_option maxHeartbeats 4000000 in
set_option maxRecDepth 100000 in
theorem c_X1_together {l : Launch} {D : va_G} {cy cz : ClassId} {G : GT} {a : Nat → Nat} {σ : MS} {p1 : Int32} {p2 : Int32} {p3 : Int32} {r : Int32} {z : ZT} (hg : GH G z) (hm : X1_together σ p1 p2 p3 = some r) : CtI l D cy cz G yX1_together cX1_together 4 (some .int) 1 21 [.ref (a 0), .int p1, .int p2, .int p3] (cMa a cy σ) (cMa a cy σ) r := by
  refine ct_i (own := "PumpTalk$Matching") (by decide) rfl (Nat.le_of_ble_eq_true rfl) ?_
  intro p e s m below meth c ls A C hr hlk hW hl
  have hx := C.1
  have hb := C.2.1
  have hl : lv_has ls 4 [(0, .ref (a 0)), (1, .int p1), (2, .int p2), (3, .int p3)] := hl
  unfold X1_together at hm
  refine lv_aload_n hx hb dX1_together_0 rfl (lv_at hl 0 rfl) ?_
  refine gMa_gains C hW q172 dX1_together_1 ?_
  refine lv_iload_n hx hb dX1_together_4 rfl (lv_at hl 1 rfl) ?_
  refine lv_iload_n hx hb dX1_together_5 rfl (lv_at hl 2 rfl) ?_
  obtain ⟨v2, e1, hm⟩ := mi_bind hm
  refine cN_i (As := [.int p1, .int p2]) (rest := [.ref (a 1)]) C hW (c_X5_pairNumber e1) kX5_pairNumber (hg A s s.heap C.2.2.2.2.2.2.1.2).1 rfl rfl hl.1 ⟨Nat.le_of_ble_eq_true rfl, Nat.le_of_ble_eq_true rfl⟩ ⟨Nat.le_refl 0, Nat.le_refl 0⟩ (Nat.le_of_ble_eq_true rfl) dX1_together_6 (fun H locs hW => ?_)
  obtain ⟨hi3, hm⟩ := mi_ai hm
  refine lMa_gains C hW hi3 dX1_together_9 ?_
  refine lv_aload_n hx hb dX1_together_10 rfl (lv_at hl 0 rfl) ?_
  refine gMa_most C hW q173 dX1_together_11 ?_
  refine lv_iload_n hx hb dX1_together_14 rfl (lv_at hl 3 rfl) ?_
  refine lv_iconst (v := 1) hx hb dX1_together_15 (by decide) ?_
  refine lv_iload_n hx hb dX1_together_16 rfl (lv_at hl 2 rfl) ?_
  refine lv_ishl hx hb dX1_together_17 ?_
  refine lv_iconst (v := -1) hx hb dX1_together_18 (by decide) ?_
  refine lv_ixor hx hb dX1_together_19 ?_
  refine lv_iand hx hb dX1_together_20 ?_
  obtain ⟨hi4, hm⟩ := mi_ai hm
  refine lMa_most C hW hi4 dX1_together_21 ?_
  refine lv_iadd hx hb dX1_together_22 ?_
  obtain rfl := Option.some.inj hm
  exact en_i C hr hlk hW dX1_together_23
theorem kX1_together : KM yX1_together cX1_together 4 (some .int) 3 := ⟨q481, q5, q70, q482, by decide +kernel, by decide +kernel, by decide +kernel⟩
def X1_solve_b45 (k9 : MS → Int32 → Int32 → Option (MS)) : Nat → MS → Int32 → Int32 → Int32 → Int32 → Int32 → Int32 → Option (MS)
  | 0, _, _, _, _, _, _, _ => none
  | n + 1, σ, x1, x2, x3, x4, x5, x6 => if x1 ≤ x6 then (ai x2 256 (k9 (su σ 1 (Int32.toNatClampNeg x2) x5) x1 ((x2 + (1 : Int32))))) else (if ((x4 >>> (x6 &&& 31)) &&& (1 : Int32)) = (1 : Int32) then ((X1_together σ x3 x6 x4).bind fun v5 => X1_solve_b45 k9 n σ x1 x2 x3 x4 (if x5 < v5 then v5 else x5) ((x6 + (1 : Int32)))) else (X1_solve_b45 k9 n σ x1 x2 x3 x4 x5 ((x6 + (1 : Int32)))))
set_option maxHeartbeats 4000000 in
set_option maxRecDepth 100000 in
theorem wX1_solve_b45 {p : Program} {l : Launch} {e : Env} {s : State} {m : MethodId} {below : List Frame} {meth : Method} {c : Code} {D : va_G} {cy cz : ClassId} {G : GT} {A : Nat → Prop} {args : Array Value} {a : Nat → Nat} {z : ZT} {σr : MS} (C : Cx p s m args c cX1_solve 7 "PumpTalk$Matching" D cy cz G A) (hr : meth.sig.returnType = none) (hlk : meth.locks = false) (hg : GH G z) {k9 : MS → Int32 → Int32 → Option (MS)} (hk9 : ∀ (σ : MS) (x1 : Int32) (x2 : Int32) (H : Heap) (locs : List Loc) (ls : Array Slot), k9 σ x1 x2 = some σr → Wd D A s.heap H locs (cMa a cy σ) → lv_has ls 7 [(0, .ref (a 0)), (1, .int x1), (2, .int x2)] → W p l e (rmz 2 44) s m args below meth c H locs 0 0 (MQ below (QV D cy cz A (cMa a cy σr) ()) args s 0 0 A) (F0 m 9 ls [])) : ∀ (n : Nat) (σ : MS) (x1 : Int32) (x2 : Int32) (x3 : Int32) (x4 : Int32) (x5 : Int32) (x6 : Int32) (H : Heap) (locs : List Loc) (ls : Array Slot), X1_solve_b45 k9 n σ x1 x2 x3 x4 x5 x6 = some σr → Wd D A s.heap H locs (cMa a cy σ) → lv_has ls 7 [(0, .ref (a 0)), (1, .int x1), (2, .int x2), (3, .int x3), (4, .int x4), (5, .int x5), (6, .int x6)] → W p l e (rmz 2 44) s m args below meth c H locs 0 0 (MQ below (QV D cy cz A (cMa a cy σr) ()) args s 0 0 A) (F0 m 45 ls []) := by
  have hx := C.1
  have hb := C.2.1
  intro n
  induction n with
  | zero =>
    intro σ x1 x2 x3 x4 x5 x6 H locs ls hm
    rw [X1_solve_b45] at hm
    cases hm
  | succ n ih =>
    intro σ x1 x2 x3 x4 x5 x6 H locs ls hm hW hl
    rw [X1_solve_b45] at hm
    refine lv_iload hx hb dX1_solve_45 (lv_at hl 6 rfl) ?_
    refine lv_iload_n hx hb dX1_solve_47 rfl (lv_at hl 1 rfl) ?_
    refine lv_icmp_ge (tgt := 84) hx hb dX1_solve_48 (by decide) (fun hc1 => ?_) (fun hc1 => ?_)
    · rw [if_pos hc1] at hm
      refine lv_aload_n hx hb dX1_solve_84 rfl (lv_at hl 0 rfl) ?_
      refine gMa_most C hW q173 dX1_solve_85 ?_
      refine lv_iload_n hx hb dX1_solve_88 rfl (lv_at hl 2 rfl) ?_
      refine lv_iload hx hb dX1_solve_89 (lv_at hl 5 rfl) ?_
      obtain ⟨hi2, hm⟩ := mi_ai hm
      refine tMa_most C hW hi2 dX1_solve_91 (fun H locs hW => ?_)
      refine lv_iinc (v := (x2 + (1 : Int32))) (lv' := [(2, .int (x2 + (1 : Int32))), (0, .ref (a 0)), (1, .int x1), (3, .int x3), (4, .int x4), (5, .int x5), (6, .int x6)]) hx hb dX1_solve_92 hl (k := 2) rfl (congrArg (fun z : Int32 => x2 + z) (by decide)) (by decide) rfl (fun ls hl => ?_)
      refine lv_goto (tgt := 9) hx hb dX1_solve_95 (by decide) ?_
      exact hk9 (su σ 1 (Int32.toNatClampNeg x2) x5) x1 ((x2 + (1 : Int32))) _ _ _ hm hW (lv_sub hl [1, 2, 0] rfl)
    · rw [if_neg hc1] at hm
      refine lv_iload hx hb dX1_solve_51 (lv_at hl 4 rfl) ?_
      refine lv_iload hx hb dX1_solve_53 (lv_at hl 6 rfl) ?_
      refine lv_ishr hx hb dX1_solve_55 ?_
      refine lv_iconst (v := 1) hx hb dX1_solve_56 (by decide) ?_
      refine lv_iand hx hb dX1_solve_57 ?_
      refine lv_iconst (v := 1) hx hb dX1_solve_58 (by decide) ?_
      refine lv_icmp_ne (tgt := 78) hx hb dX1_solve_59 (by decide) (fun hc3 => ?_) (fun hc3 => ?_)
      · rw [if_neg hc3] at hm
        refine lv_iinc (v := (x6 + (1 : Int32))) (lv' := [(6, .int (x6 + (1 : Int32))), (0, .ref (a 0)), (1, .int x1), (2, .int x2), (3, .int x3), (4, .int x4), (5, .int x5)]) hx hb dX1_solve_78 hl (k := 6) rfl (congrArg (fun z : Int32 => x6 + z) (by decide)) (by decide) rfl (fun ls hl => ?_)
        refine lv_goto (tgt := 45) hx hb dX1_solve_81 (by decide) ?_
        exact ih σ x1 x2 x3 x4 x5 ((x6 + (1 : Int32))) _ _ _ hm hW (lv_sub hl [1, 2, 3, 4, 5, 6, 0] rfl)
      · rw [if_pos hc3] at hm
        refine lv_iload hx hb dX1_solve_62 (lv_at hl 5 rfl) ?_
        refine lv_aload_n hx hb dX1_solve_64 rfl (lv_at hl 0 rfl) ?_
        refine lv_iload_n hx hb dX1_solve_65 rfl (lv_at hl 3 rfl) ?_
        refine lv_iload hx hb dX1_solve_66 (lv_at hl 6 rfl) ?_
        refine lv_iload hx hb dX1_solve_68 (lv_at hl 4 rfl) ?_
        obtain ⟨v5, e4, hm⟩ := mi_bind hm
        refine cs_i (q0 := 0) (As := [.int x3, .int x6, .int x4]) (rest := [.int x5]) C hW (c_X1_together hg e4) kX1_together q479 rfl rfl rfl rfl rfl hl.1 ⟨Nat.le_of_ble_eq_true rfl, Nat.le_of_ble_eq_true rfl⟩ ⟨Nat.le_refl 0, Nat.le_refl 0⟩ (Nat.le_of_ble_eq_true rfl) dX1_solve_70 (fun H locs hW => ?_)
        refine va_mmax hx hb (C.2.2.1.trans hl.1.symm) C.2.2.2.1 (C.2.2.2.2.1 _ q483) (C.2.2.2.2.1 _ q484) (C.2.2.2.2.1 _ q74) (C.2.2.2.2.1 _ q485) (Nat.le_of_ble_eq_true rfl) (Nat.le_of_ble_eq_true rfl) (Nat.le_refl 0) (Nat.le_refl 0) dX1_solve_73 ?_
        refine lv_istore (lv' := [(5, .int (if x5 < v5 then v5 else x5)), (0, .ref (a 0)), (1, .int x1), (2, .int x2), (3, .int x3), (4, .int x4), (6, .int x6)]) hx hb dX1_solve_76 hl (by decide) rfl (fun ls hl => ?_)
        refine lv_iinc (v := (x6 + (1 : Int32))) (lv' := [(6, .int (x6 + (1 : Int32))), (5, .int (if x5 < v5 then v5 else x5)), (0, .ref (a 0)), (1, .int x1), (2, .int x2), (3, .int x3), (4, .int x4)]) hx hb dX1_solve_78 hl (k := 6) rfl (congrArg (fun z : Int32 => x6 + z) (by decide)) (by decide) rfl (fun ls hl => ?_)
        refine lv_goto (tgt := 45) hx hb dX1_solve_81 (by decide) ?_
        exact ih σ x1 x2 x3 x4 (if x5 < v5 then v5 else x5) ((x6 + (1 : Int32))) _ _ _ hm hW (lv_sub hl [2, 3, 4, 5, 6, 1, 0] rfl)
def X1_solve_b9 : Nat → MS → Int32 → Int32 → Option (MS)
  | 0, _, _, _ => none
  | n + 1, σ, x1, x2 => (X1_everybody x1).bind fun v7 => if v7 < x2 then (some σ) else ((X1_leastOf x2).bind fun v10 => ai (x2 &&& (((1 : Int32) <<< (v10 &&& 31)) ^^^ (-1 : Int32))) 256 (X1_solve_b45 (X1_solve_b9 n) FU σ x1 x2 v10 ((x2 &&& (((1 : Int32) <<< (v10 &&& 31)) ^^^ (-1 : Int32)))) ((σ 1 (Int32.toNatClampNeg (x2 &&& (((1 : Int32) <<< (v10 &&& 31)) ^^^ (-1 : Int32)))))) ((v10 + (1 : Int32)))))
set_option maxHeartbeats 4000000 in
set_option maxRecDepth 100000 in
theorem wX1_solve_b9 {p : Program} {l : Launch} {e : Env} {s : State} {m : MethodId} {below : List Frame} {meth : Method} {c : Code} {D : va_G} {cy cz : ClassId} {G : GT} {A : Nat → Prop} {args : Array Value} {a : Nat → Nat} {z : ZT} {σr : MS} (C : Cx p s m args c cX1_solve 7 "PumpTalk$Matching" D cy cz G A) (hr : meth.sig.returnType = none) (hlk : meth.locks = false) (hg : GH G z) : ∀ (n : Nat) (σ : MS) (x1 : Int32) (x2 : Int32) (H : Heap) (locs : List Loc) (ls : Array Slot), X1_solve_b9 n σ x1 x2 = some σr → Wd D A s.heap H locs (cMa a cy σ) → lv_has ls 7 [(0, .ref (a 0)), (1, .int x1), (2, .int x2)] → W p l e (rmz 2 44) s m args below meth c H locs 0 0 (MQ below (QV D cy cz A (cMa a cy σr) ()) args s 0 0 A) (F0 m 9 ls []) := by
  have hx := C.1
  have hb := C.2.1
  intro n
  induction n with
  | zero =>
    intro σ x1 x2 H locs ls hm
    rw [X1_solve_b9] at hm
    cases hm
  | succ n ih =>
    intro σ x1 x2 H locs ls hm hW hl
    rw [X1_solve_b9] at hm
    refine lv_iload_n hx hb dX1_solve_9 rfl (lv_at hl 2 rfl) ?_
    refine lv_iload_n hx hb dX1_solve_10 rfl (lv_at hl 1 rfl) ?_
    obtain ⟨v7, e6, hm⟩ := mi_bind hm
    refine cS_i (As := [.int x1]) (rest := [.int x2]) C hW (c_X1_everybody e6) kX1_everybody q473 rfl rfl hl.1 ⟨Nat.le_of_ble_eq_true rfl, Nat.le_of_ble_eq_true rfl⟩ ⟨Nat.le_refl 0, Nat.le_refl 0⟩ (Nat.le_of_ble_eq_true rfl) dX1_solve_11 (fun H locs hW => ?_)
    refine lv_icmp_gt (tgt := 98) hx hb dX1_solve_14 (by decide) (fun hc8 => ?_) (fun hc8 => ?_)
    · rw [if_pos hc8] at hm
      obtain rfl := Option.some.inj hm
      exact en_v C hr hlk hW dX1_solve_98
    · rw [if_neg hc8] at hm
      refine lv_iload_n hx hb dX1_solve_17 rfl (lv_at hl 2 rfl) ?_
      obtain ⟨v10, e9, hm⟩ := mi_bind hm
      refine cS_i (As := [.int x2]) (rest := []) C hW (c_X1_leastOf e9) kX1_leastOf q476 rfl rfl hl.1 ⟨Nat.le_of_ble_eq_true rfl, Nat.le_of_ble_eq_true rfl⟩ ⟨Nat.le_refl 0, Nat.le_refl 0⟩ (Nat.le_of_ble_eq_true rfl) dX1_solve_18 (fun H locs hW => ?_)
      refine lv_istore_n (lv' := [(3, .int v10), (0, .ref (a 0)), (1, .int x1), (2, .int x2)]) hx hb dX1_solve_21 rfl hl (by decide) rfl (fun ls hl => ?_)
      refine lv_iload_n hx hb dX1_solve_22 rfl (lv_at hl 3 rfl) ?_
      refine lv_iconst (v := 1) hx hb dX1_solve_23 (by decide) ?_
      refine lv_iload_n hx hb dX1_solve_24 rfl (lv_at hl 0 rfl) ?_
      refine lv_ishl hx hb dX1_solve_25 ?_
      refine lv_iconst (v := -1) hx hb dX1_solve_26 (by decide) ?_
      refine lv_ixor hx hb dX1_solve_27 ?_
      refine lv_iand hx hb dX1_solve_28 ?_
      refine lv_istore (lv' := [(4, .int (x2 &&& (((1 : Int32) <<< (v10 &&& 31)) ^^^ (-1 : Int32)))), (3, .int v10), (0, .ref (a 0)), (1, .int x1), (2, .int x2)]) hx hb dX1_solve_29 hl (by decide) rfl (fun ls hl => ?_)
      refine lv_aload_n hx hb dX1_solve_31 rfl (lv_at hl 2 rfl) ?_
      refine gMa_most C hW q173 dX1_solve_32 ?_
      refine lv_iload hx hb dX1_solve_35 (lv_at hl 0 rfl) ?_
      obtain ⟨hi11, hm⟩ := mi_ai hm
      refine lMa_most C hW hi11 dX1_solve_37 ?_
      refine lv_istore (lv' := [(5, .int (σ 1 (Int32.toNatClampNeg (x2 &&& (((1 : Int32) <<< (v10 &&& 31)) ^^^ (-1 : Int32)))))), (4, .int (x2 &&& (((1 : Int32) <<< (v10 &&& 31)) ^^^ (-1 : Int32)))), (3, .int v10), (0, .ref (a 0)), (1, .int x1), (2, .int x2)]) hx hb dX1_solve_38 hl (by decide) rfl (fun ls hl => ?_)
      refine lv_iload_n hx hb dX1_solve_40 rfl (lv_at hl 2 rfl) ?_
      refine lv_iconst (v := 1) hx hb dX1_solve_41 (by decide) ?_
      refine lv_iadd hx hb dX1_solve_42 ?_
      refine lv_istore (lv' := [(6, .int (v10 + (1 : Int32))), (5, .int (σ 1 (Int32.toNatClampNeg (x2 &&& (((1 : Int32) <<< (v10 &&& 31)) ^^^ (-1 : Int32)))))), (4, .int (x2 &&& (((1 : Int32) <<< (v10 &&& 31)) ^^^ (-1 : Int32)))), (3, .int v10), (0, .ref (a 0)), (1, .int x1), (2, .int x2)]) hx hb dX1_solve_43 hl (by decide) rfl (fun ls hl => ?_)
      exact wX1_solve_b45 C hr hlk hg ih FU σ x1 x2 v10 ((x2 &&& (((1 : Int32) <<< (v10 &&& 31)) ^^^ (-1 : Int32)))) ((σ 1 (Int32.toNatClampNeg (x2 &&& (((1 : Int32) <<< (v10 &&& 31)) ^^^ (-1 : Int32)))))) ((v10 + (1 : Int32))) _ _ _ hm hW (lv_sub hl [4, 5, 6, 3, 2, 1, 0] rfl)
def X1_solve (σ : MS) (p1 : Int32) : Option (MS) := X1_solve_b9 FU (su σ 1 0 (0 : Int32)) p1 (1 : Int32)
set_option maxHeartbeats 4000000 in
set_option maxRecDepth 100000 in
theorem c_X1_solve {l : Launch} {D : va_G} {cy cz : ClassId} {G : GT} {a : Nat → Nat} {σ : MS} {p1 : Int32} {σr : MS} {z : ZT} (hg : GH G z) (hm : X1_solve σ p1 = some σr) : CtV l D cy cz G yX1_solve cX1_solve 7 none 2 44 [.ref (a 0), .int p1] (cMa a cy σ) (cMa a cy σr) () := by
  refine ct_v (own := "PumpTalk$Matching") (by decide) rfl (Nat.le_of_ble_eq_true rfl) ?_
  intro p e s m below meth c ls A C hr hlk hW hl
  have hx := C.1
  have hb := C.2.1
  have hl : lv_has ls 7 [(0, .ref (a 0)), (1, .int p1)] := hl
  unfold X1_solve at hm
  refine lv_aload_n hx hb dX1_solve_0 rfl (lv_at hl 0 rfl) ?_
  refine gMa_most C hW q173 dX1_solve_1 ?_
  refine lv_iconst (v := 0) hx hb dX1_solve_4 (by decide) ?_
  refine lv_iconst (v := 0) hx hb dX1_solve_5 (by decide) ?_
  refine tMa_most_k (k := 0) C hW (by decide) (by decide) dX1_solve_6 (fun H locs hW => ?_)
  refine lv_iconst (v := 1) hx hb dX1_solve_7 (by decide) ?_
  refine lv_istore_n (lv' := [(2, .int (1 : Int32)), (0, .ref (a 0)), (1, .int p1)]) hx hb dX1_solve_8 rfl hl (by decide) rfl (fun ls hl => ?_)
  exact wX1_solve_b9 C hr hlk hg FU (su σ 1 0 (0 : Int32)) p1 (1 : Int32) _ _ _ hm hW (lv_sub hl [1, 2, 0] rfl)
theorem kX1_solve : KM yX1_solve cX1_solve 7 none 1 := ⟨q470, q471, q70, q472, by decide +kernel, by decide +kernel, by decide +kernel⟩
def X1_total (σ : MS) (p1 : Int32) : Option (Int32) := (X1_everybody p1).bind fun v2 => ai v2 256 (some (σ 1 (Int32.toNatClampNeg v2)))
set_option maxHeartbeats 4000000 in
set_option maxRecDepth 100000 in
theorem c_X1_total {l : Launch} {D : va_G} {cy cz : ClassId} {G : GT} {a : Nat → Nat} {σ : MS} {p1 : Int32} {r : Int32} (hm : X1_total σ p1 = some r) : CtI l D cy cz G yX1_total cX1_total 2 (some .int) 1 20 [.ref (a 0), .int p1] (cMa a cy σ) (cMa a cy σ) r := by
  refine ct_i (own := "PumpTalk$Matching") (by decide) rfl (Nat.le_of_ble_eq_true rfl) ?_
  intro p e s m below meth c ls A C hr hlk hW hl
  have hx := C.1
  have hb := C.2.1
  have hl : lv_has ls 2 [(0, .ref (a 0)), (1, .int p1)] := hl
  unfold X1_total at hm
  refine lv_aload_n hx hb dX1_total_0 rfl (lv_at hl 0 rfl) ?_
  refine gMa_most C hW q173 dX1_total_1 ?_
  refine lv_iload_n hx hb dX1_total_4 rfl (lv_at hl 1 rfl) ?_
  obtain ⟨v2, e1, hm⟩ := mi_bind hm
  refine cS_i (As := [.int p1]) (rest := [.ref (a 2)]) C hW (c_X1_everybody e1) kX1_everybody q473 rfl rfl hl.1 ⟨Nat.le_of_ble_eq_true rfl, Nat.le_of_ble_eq_true rfl⟩ ⟨Nat.le_refl 0, Nat.le_refl 0⟩ (Nat.le_of_ble_eq_true rfl) dX1_total_5 (fun H locs hW => ?_)
  obtain ⟨hi3, hm⟩ := mi_ai hm
  refine lMa_most C hW hi3 dX1_total_8 ?_
  obtain rfl := Option.some.inj hm
  exact en_i C hr hlk hW dX1_total_9
theorem kX1_total : KM yX1_total cX1_total 2 (some .int) 1 := ⟨q487, q488, q70, q489, by decide +kernel, by decide +kernel, by decide +kernel⟩
def X1_leastMate_b5 (σ : MS) : Nat → Int32 → Int32 → Int32 → Int32 → Option (Int32)
  | 0, _, _, _, _ => none
  | n + 1, x1, x2, x3, x4 => if (8 : Int32) ≤ x4 then (some (-1 : Int32)) else (if ((x2 >>> (x4 &&& 31)) &&& (1 : Int32)) = (1 : Int32) then ((X1_together σ x1 x4 x2).bind fun v4 => if v4 = x3 then (some x4) else (X1_leastMate_b5 σ n x1 x2 x3 ((x4 + (1 : Int32))))) else (X1_leastMate_b5 σ n x1 x2 x3 ((x4 + (1 : Int32)))))
set_option maxHeartbeats 4000000 in
set_option maxRecDepth 100000 in
theorem wX1_leastMate_b5 {p : Program} {l : Launch} {e : Env} {s : State} {m : MethodId} {below : List Frame} {meth : Method} {c : Code} {D : va_G} {cy cz : ClassId} {G : GT} {A : Nat → Prop} {args : Array Value} {a : Nat → Nat} {z : ZT} {r : Int32} {σ : MS} (C : Cx p s m args c cX1_leastMate 5 "PumpTalk$Matching" D cy cz G A) (hr : meth.sig.returnType = some .int) (hlk : meth.locks = false) (hg : GH G z) : ∀ (n : Nat) (x1 : Int32) (x2 : Int32) (x3 : Int32) (x4 : Int32) (H : Heap) (locs : List Loc) (ls : Array Slot), X1_leastMate_b5 σ n x1 x2 x3 x4 = some r → Wd D A s.heap H locs (cMa a cy σ) → lv_has ls 5 [(0, .ref (a 0)), (1, .int x1), (2, .int x2), (3, .int x3), (4, .int x4)] → W p l e (rmz 2 44) s m args below meth c H locs 0 0 (MQ below (QI D cy cz A (cMa a cy σ) r) args s 0 0 A) (F0 m 5 ls []) := by
  have hx := C.1
  have hb := C.2.1
  intro n
  induction n with
  | zero =>
    intro x1 x2 x3 x4 H locs ls hm
    rw [X1_leastMate_b5] at hm
    cases hm
  | succ n ih =>
    intro x1 x2 x3 x4 H locs ls hm hW hl
    rw [X1_leastMate_b5] at hm
    refine lv_iload hx hb dX1_leastMate_5 (lv_at hl 4 rfl) ?_
    refine lv_bipush (v := 8) hx hb dX1_leastMate_7 (by decide) ?_
    refine lv_icmp_ge (tgt := 43) hx hb dX1_leastMate_9 (by decide) (fun hc1 => ?_) (fun hc1 => ?_)
    · rw [if_pos hc1] at hm
      refine lv_iconst (v := -1) hx hb dX1_leastMate_43 (by decide) ?_
      obtain rfl := Option.some.inj hm
      exact en_i C hr hlk hW dX1_leastMate_44
    · rw [if_neg hc1] at hm
      refine lv_iload_n hx hb dX1_leastMate_12 rfl (lv_at hl 2 rfl) ?_
      refine lv_iload hx hb dX1_leastMate_13 (lv_at hl 4 rfl) ?_
      refine lv_ishr hx hb dX1_leastMate_15 ?_
      refine lv_iconst (v := 1) hx hb dX1_leastMate_16 (by decide) ?_
      refine lv_iand hx hb dX1_leastMate_17 ?_
      refine lv_iconst (v := 1) hx hb dX1_leastMate_18 (by decide) ?_
      refine lv_icmp_ne (tgt := 37) hx hb dX1_leastMate_19 (by decide) (fun hc2 => ?_) (fun hc2 => ?_)
      · rw [if_neg hc2] at hm
        refine lv_iinc (v := (x4 + (1 : Int32))) (lv' := [(4, .int (x4 + (1 : Int32))), (0, .ref (a 0)), (1, .int x1), (2, .int x2), (3, .int x3)]) hx hb dX1_leastMate_37 hl (k := 4) rfl (congrArg (fun z : Int32 => x4 + z) (by decide)) (by decide) rfl (fun ls hl => ?_)
        refine lv_goto (tgt := 5) hx hb dX1_leastMate_40 (by decide) ?_
        exact ih x1 x2 x3 ((x4 + (1 : Int32))) _ _ _ hm hW (lv_sub hl [1, 2, 3, 4, 0] rfl)
      · rw [if_pos hc2] at hm
        refine lv_aload_n hx hb dX1_leastMate_22 rfl (lv_at hl 0 rfl) ?_
        refine lv_iload_n hx hb dX1_leastMate_23 rfl (lv_at hl 1 rfl) ?_
        refine lv_iload hx hb dX1_leastMate_24 (lv_at hl 4 rfl) ?_
        refine lv_iload_n hx hb dX1_leastMate_26 rfl (lv_at hl 2 rfl) ?_
        obtain ⟨v4, e3, hm⟩ := mi_bind hm
        refine cs_i (q0 := 0) (As := [.int x1, .int x4, .int x2]) (rest := []) C hW (c_X1_together hg e3) kX1_together q479 rfl rfl rfl rfl rfl hl.1 ⟨Nat.le_of_ble_eq_true rfl, Nat.le_of_ble_eq_true rfl⟩ ⟨Nat.le_refl 0, Nat.le_refl 0⟩ (Nat.le_of_ble_eq_true rfl) dX1_leastMate_27 (fun H locs hW => ?_)
        refine lv_iload_n hx hb dX1_leastMate_30 rfl (lv_at hl 3 rfl) ?_
        refine lv_icmp_ne (tgt := 37) hx hb dX1_leastMate_31 (by decide) (fun hc5 => ?_) (fun hc5 => ?_)
        · rw [if_neg hc5] at hm
          refine lv_iinc (v := (x4 + (1 : Int32))) (lv' := [(4, .int (x4 + (1 : Int32))), (0, .ref (a 0)), (1, .int x1), (2, .int x2), (3, .int x3)]) hx hb dX1_leastMate_37 hl (k := 4) rfl (congrArg (fun z : Int32 => x4 + z) (by decide)) (by decide) rfl (fun ls hl => ?_)
          refine lv_goto (tgt := 5) hx hb dX1_leastMate_40 (by decide) ?_
          exact ih x1 x2 x3 ((x4 + (1 : Int32))) _ _ _ hm hW (lv_sub hl [1, 2, 3, 4, 0] rfl)
        · rw [if_pos hc5] at hm
          refine lv_iload hx hb dX1_leastMate_34 (lv_at hl 4 rfl) ?_
          obtain rfl := Option.some.inj hm
          exact en_i C hr hlk hW dX1_leastMate_36
def X1_leastMate (σ : MS) (p1 : Int32) (p2 : Int32) (p3 : Int32) : Option (Int32) := X1_leastMate_b5 σ FU p1 p2 p3 ((p1 + (1 : Int32)))
set_option maxHeartbeats 4000000 in
set_option maxRecDepth 100000 in
theorem c_X1_leastMate {l : Launch} {D : va_G} {cy cz : ClassId} {G : GT} {a : Nat → Nat} {σ : MS} {p1 : Int32} {p2 : Int32} {p3 : Int32} {r : Int32} {z : ZT} (hg : GH G z) (hm : X1_leastMate σ p1 p2 p3 = some r) : CtI l D cy cz G yX1_leastMate cX1_leastMate 5 (some .int) 2 44 [.ref (a 0), .int p1, .int p2, .int p3] (cMa a cy σ) (cMa a cy σ) r := by
  refine ct_i (own := "PumpTalk$Matching") (by decide) rfl (Nat.le_of_ble_eq_true rfl) ?_
  intro p e s m below meth c ls A C hr hlk hW hl
  have hx := C.1
  have hb := C.2.1
  have hl : lv_has ls 5 [(0, .ref (a 0)), (1, .int p1), (2, .int p2), (3, .int p3)] := hl
  unfold X1_leastMate at hm
  refine lv_iload_n hx hb dX1_leastMate_0 rfl (lv_at hl 1 rfl) ?_
  refine lv_iconst (v := 1) hx hb dX1_leastMate_1 (by decide) ?_
  refine lv_iadd hx hb dX1_leastMate_2 ?_
  refine lv_istore (lv' := [(4, .int (p1 + (1 : Int32))), (0, .ref (a 0)), (1, .int p1), (2, .int p2), (3, .int p3)]) hx hb dX1_leastMate_3 hl (by decide) rfl (fun ls hl => ?_)
  exact wX1_leastMate_b5 C hr hlk hg FU p1 p2 p3 ((p1 + (1 : Int32))) _ _ _ hm hW (lv_sub hl [1, 2, 3, 4, 0] rfl)
theorem kX1_leastMate : KM yX1_leastMate cX1_leastMate 5 (some .int) 3 := ⟨q500, q6, q70, q501, by decide +kernel, by decide +kernel, by decide +kernel⟩
def X1_mateOf_b8 (σ : MS) : Nat → Int32 → Int32 → Int32 → Int32 → Option (Int32)
  | 0, _, _, _, _ => none
  | n + 1, x1, x2, x3, x4 => if x2 ≤ x4 then (some (-1 : Int32)) else (if x3 = (0 : Int32) then (some (-1 : Int32)) else ((X1_leastOf x3).bind fun v4 => ai x3 256 ((X1_leastMate σ v4 (x3 &&& (((1 : Int32) <<< (v4 &&& 31)) ^^^ (-1 : Int32))) (σ 1 (Int32.toNatClampNeg x3))).bind fun v7 => if v4 = x1 then (some v7) else (if v7 = x1 then (some v4) else (if v7 = (-1 : Int32) then (X1_mateOf_b8 σ n x1 x2 ((x3 &&& (((1 : Int32) <<< (v4 &&& 31)) ^^^ (-1 : Int32)))) ((x4 + (1 : Int32)))) else (X1_mateOf_b8 σ n x1 x2 (((x3 &&& (((1 : Int32) <<< (v4 &&& 31)) ^^^ (-1 : Int32))) &&& (((1 : Int32) <<< (v7 &&& 31)) ^^^ (-1 : Int32)))) ((x4 + (1 : Int32)))))))))
set_option maxHeartbeats 4000000 in
set_option maxRecDepth 100000 in
theorem wX1_mateOf_b8 {p : Program} {l : Launch} {e : Env} {s : State} {m : MethodId} {below : List Frame} {meth : Method} {c : Code} {D : va_G} {cy cz : ClassId} {G : GT} {A : Nat → Prop} {args : Array Value} {a : Nat → Nat} {z : ZT} {r : Int32} {σ : MS} (C : Cx p s m args c cX1_mateOf 8 "PumpTalk$Matching" D cy cz G A) (hr : meth.sig.returnType = some .int) (hlk : meth.locks = false) (hg : GH G z) : ∀ (n : Nat) (x1 : Int32) (x2 : Int32) (x3 : Int32) (x4 : Int32) (H : Heap) (locs : List Loc) (ls : Array Slot), X1_mateOf_b8 σ n x1 x2 x3 x4 = some r → Wd D A s.heap H locs (cMa a cy σ) → lv_has ls 8 [(0, .ref (a 0)), (1, .int x1), (2, .int x2), (3, .int x3), (4, .int x4)] → W p l e (rmz 3 68) s m args below meth c H locs 0 0 (MQ below (QI D cy cz A (cMa a cy σ) r) args s 0 0 A) (F0 m 8 ls []) := by
  have hx := C.1
  have hb := C.2.1
  intro n
  induction n with
  | zero =>
    intro x1 x2 x3 x4 H locs ls hm
    rw [X1_mateOf_b8] at hm
    cases hm
  | succ n ih =>
    intro x1 x2 x3 x4 H locs ls hm hW hl
    rw [X1_mateOf_b8] at hm
    refine lv_iload hx hb dX1_mateOf_8 (lv_at hl 4 rfl) ?_
    refine lv_iload_n hx hb dX1_mateOf_10 rfl (lv_at hl 2 rfl) ?_
    refine lv_icmp_ge (tgt := 95) hx hb dX1_mateOf_11 (by decide) (fun hc1 => ?_) (fun hc1 => ?_)
    · rw [if_pos hc1] at hm
      refine lv_iconst (v := -1) hx hb dX1_mateOf_95 (by decide) ?_
      obtain rfl := Option.some.inj hm
      exact en_i C hr hlk hW dX1_mateOf_96
    · rw [if_neg hc1] at hm
      refine lv_iload_n hx hb dX1_mateOf_14 rfl (lv_at hl 3 rfl) ?_
      refine lv_if_eq (tgt := 95) hx hb dX1_mateOf_15 (by decide) (fun hc2 => ?_) (fun hc2 => ?_)
      · rw [if_pos hc2] at hm
        refine lv_iconst (v := -1) hx hb dX1_mateOf_95 (by decide) ?_
        obtain rfl := Option.some.inj hm
        exact en_i C hr hlk hW dX1_mateOf_96
      · rw [if_neg hc2] at hm
        refine lv_iload_n hx hb dX1_mateOf_18 rfl (lv_at hl 3 rfl) ?_
        obtain ⟨v4, e3, hm⟩ := mi_bind hm
        refine cS_i (As := [.int x3]) (rest := []) C hW (c_X1_leastOf e3) kX1_leastOf q476 rfl rfl hl.1 ⟨Nat.le_of_ble_eq_true rfl, Nat.le_of_ble_eq_true rfl⟩ ⟨Nat.le_refl 0, Nat.le_refl 0⟩ (Nat.le_of_ble_eq_true rfl) dX1_mateOf_19 (fun H locs hW => ?_)
        refine lv_istore (lv' := [(5, .int v4), (0, .ref (a 0)), (1, .int x1), (2, .int x2), (3, .int x3), (4, .int x4)]) hx hb dX1_mateOf_22 hl (by decide) rfl (fun ls hl => ?_)
        refine lv_iload_n hx hb dX1_mateOf_24 rfl (lv_at hl 4 rfl) ?_
        refine lv_iconst (v := 1) hx hb dX1_mateOf_25 (by decide) ?_
        refine lv_iload hx hb dX1_mateOf_26 (lv_at hl 0 rfl) ?_
        refine lv_ishl hx hb dX1_mateOf_28 ?_
        refine lv_iconst (v := -1) hx hb dX1_mateOf_29 (by decide) ?_
        refine lv_ixor hx hb dX1_mateOf_30 ?_
        refine lv_iand hx hb dX1_mateOf_31 ?_
        refine lv_istore (lv' := [(6, .int (x3 &&& (((1 : Int32) <<< (v4 &&& 31)) ^^^ (-1 : Int32)))), (5, .int v4), (0, .ref (a 0)), (1, .int x1), (2, .int x2), (3, .int x3), (4, .int x4)]) hx hb dX1_mateOf_32 hl (by decide) rfl (fun ls hl => ?_)
        refine lv_aload_n hx hb dX1_mateOf_34 rfl (lv_at hl 2 rfl) ?_
        refine lv_iload hx hb dX1_mateOf_35 (lv_at hl 1 rfl) ?_
        refine lv_iload hx hb dX1_mateOf_37 (lv_at hl 0 rfl) ?_
        refine lv_aload_n hx hb dX1_mateOf_39 rfl (lv_at hl 2 rfl) ?_
        refine gMa_most C hW q173 dX1_mateOf_40 ?_
        refine lv_iload_n hx hb dX1_mateOf_43 rfl (lv_at hl 5 rfl) ?_
        obtain ⟨hi5, hm⟩ := mi_ai hm
        refine lMa_most C hW hi5 dX1_mateOf_44 ?_
        obtain ⟨v7, e6, hm⟩ := mi_bind hm
        refine cs_i (q0 := 0) (As := [.int v4, .int (x3 &&& (((1 : Int32) <<< (v4 &&& 31)) ^^^ (-1 : Int32))), .int (σ 1 (Int32.toNatClampNeg x3))]) (rest := []) C hW (c_X1_leastMate hg e6) kX1_leastMate q498 rfl rfl rfl rfl rfl hl.1 ⟨Nat.le_of_ble_eq_true rfl, Nat.le_of_ble_eq_true rfl⟩ ⟨Nat.le_refl 0, Nat.le_refl 0⟩ (Nat.le_of_ble_eq_true rfl) dX1_mateOf_45 (fun H locs hW => ?_)
        refine lv_istore (lv' := [(7, .int v7), (6, .int (x3 &&& (((1 : Int32) <<< (v4 &&& 31)) ^^^ (-1 : Int32)))), (5, .int v4), (0, .ref (a 0)), (1, .int x1), (2, .int x2), (3, .int x3), (4, .int x4)]) hx hb dX1_mateOf_48 hl (by decide) rfl (fun ls hl => ?_)
        refine lv_iload hx hb dX1_mateOf_50 (lv_at hl 2 rfl) ?_
        refine lv_iload_n hx hb dX1_mateOf_52 rfl (lv_at hl 4 rfl) ?_
        refine lv_icmp_ne (tgt := 59) hx hb dX1_mateOf_53 (by decide) (fun hc8 => ?_) (fun hc8 => ?_)
        · rw [if_neg hc8] at hm
          refine lv_iload hx hb dX1_mateOf_59 (lv_at hl 0 rfl) ?_
          refine lv_iload_n hx hb dX1_mateOf_61 rfl (lv_at hl 4 rfl) ?_
          refine lv_icmp_ne (tgt := 68) hx hb dX1_mateOf_62 (by decide) (fun hc9 => ?_) (fun hc9 => ?_)
          · rw [if_neg hc9] at hm
            refine lv_iload hx hb dX1_mateOf_68 (lv_at hl 0 rfl) ?_
            refine lv_iconst (v := -1) hx hb dX1_mateOf_70 (by decide) ?_
            refine lv_icmp_ne (tgt := 79) hx hb dX1_mateOf_71 (by decide) (fun hc10 => ?_) (fun hc10 => ?_)
            · rw [if_neg hc10] at hm
              refine lv_iload hx hb dX1_mateOf_79 (lv_at hl 1 rfl) ?_
              refine lv_iconst (v := 1) hx hb dX1_mateOf_81 (by decide) ?_
              refine lv_iload hx hb dX1_mateOf_82 (lv_at hl 0 rfl) ?_
              refine lv_ishl hx hb dX1_mateOf_84 ?_
              refine lv_iconst (v := -1) hx hb dX1_mateOf_85 (by decide) ?_
              refine lv_ixor hx hb dX1_mateOf_86 ?_
              refine lv_iand hx hb dX1_mateOf_87 ?_
              refine lv_istore_n (lv' := [(3, .int ((x3 &&& (((1 : Int32) <<< (v4 &&& 31)) ^^^ (-1 : Int32))) &&& (((1 : Int32) <<< (v7 &&& 31)) ^^^ (-1 : Int32)))), (7, .int v7), (6, .int (x3 &&& (((1 : Int32) <<< (v4 &&& 31)) ^^^ (-1 : Int32)))), (5, .int v4), (0, .ref (a 0)), (1, .int x1), (2, .int x2), (4, .int x4)]) hx hb dX1_mateOf_88 rfl hl (by decide) rfl (fun ls hl => ?_)
              refine lv_iinc (v := (x4 + (1 : Int32))) (lv' := [(4, .int (x4 + (1 : Int32))), (3, .int ((x3 &&& (((1 : Int32) <<< (v4 &&& 31)) ^^^ (-1 : Int32))) &&& (((1 : Int32) <<< (v7 &&& 31)) ^^^ (-1 : Int32)))), (7, .int v7), (6, .int (x3 &&& (((1 : Int32) <<< (v4 &&& 31)) ^^^ (-1 : Int32)))), (5, .int v4), (0, .ref (a 0)), (1, .int x1), (2, .int x2)]) hx hb dX1_mateOf_89 hl (k := 7) rfl (congrArg (fun z : Int32 => x4 + z) (by decide)) (by decide) rfl (fun ls hl => ?_)
              refine lv_goto (tgt := 8) hx hb dX1_mateOf_92 (by decide) ?_
              exact ih x1 x2 (((x3 &&& (((1 : Int32) <<< (v4 &&& 31)) ^^^ (-1 : Int32))) &&& (((1 : Int32) <<< (v7 &&& 31)) ^^^ (-1 : Int32)))) ((x4 + (1 : Int32))) _ _ _ hm hW (lv_sub hl [5, 6, 7, 1, 0] rfl)
            · rw [if_pos hc10] at hm
              refine lv_iload hx hb dX1_mateOf_74 (lv_at hl 1 rfl) ?_
              refine lv_goto (tgt := 88) hx hb dX1_mateOf_76 (by decide) ?_
              refine lv_istore_n (lv' := [(3, .int (x3 &&& (((1 : Int32) <<< (v4 &&& 31)) ^^^ (-1 : Int32)))), (7, .int v7), (6, .int (x3 &&& (((1 : Int32) <<< (v4 &&& 31)) ^^^ (-1 : Int32)))), (5, .int v4), (0, .ref (a 0)), (1, .int x1), (2, .int x2), (4, .int x4)]) hx hb dX1_mateOf_88 rfl hl (by decide) rfl (fun ls hl => ?_)
              refine lv_iinc (v := (x4 + (1 : Int32))) (lv' := [(4, .int (x4 + (1 : Int32))), (3, .int (x3 &&& (((1 : Int32) <<< (v4 &&& 31)) ^^^ (-1 : Int32)))), (7, .int v7), (6, .int (x3 &&& (((1 : Int32) <<< (v4 &&& 31)) ^^^ (-1 : Int32)))), (5, .int v4), (0, .ref (a 0)), (1, .int x1), (2, .int x2)]) hx hb dX1_mateOf_89 hl (k := 7) rfl (congrArg (fun z : Int32 => x4 + z) (by decide)) (by decide) rfl (fun ls hl => ?_)
              refine lv_goto (tgt := 8) hx hb dX1_mateOf_92 (by decide) ?_
              exact ih x1 x2 ((x3 &&& (((1 : Int32) <<< (v4 &&& 31)) ^^^ (-1 : Int32)))) ((x4 + (1 : Int32))) _ _ _ hm hW (lv_sub hl [5, 6, 7, 1, 0] rfl)
          · rw [if_pos hc9] at hm
            refine lv_iload hx hb dX1_mateOf_65 (lv_at hl 2 rfl) ?_
            obtain rfl := Option.some.inj hm
            exact en_i C hr hlk hW dX1_mateOf_67
        · rw [if_pos hc8] at hm
          refine lv_iload hx hb dX1_mateOf_56 (lv_at hl 0 rfl) ?_
          obtain rfl := Option.some.inj hm
          exact en_i C hr hlk hW dX1_mateOf_58
def X1_mateOf (σ : MS) (p1 : Int32) (p2 : Int32) : Option (Int32) := (X1_everybody p2).bind fun v12 => X1_mateOf_b8 σ FU p1 p2 v12 (0 : Int32)
set_option maxHeartbeats 4000000 in
set_option maxRecDepth 100000 in
theorem c_X1_mateOf {l : Launch} {D : va_G} {cy cz : ClassId} {G : GT} {a : Nat → Nat} {σ : MS} {p1 : Int32} {p2 : Int32} {r : Int32} {z : ZT} (hg : GH G z) (hm : X1_mateOf σ p1 p2 = some r) : CtI l D cy cz G yX1_mateOf cX1_mateOf 8 (some .int) 3 68 [.ref (a 0), .int p1, .int p2] (cMa a cy σ) (cMa a cy σ) r := by
  refine ct_i (own := "PumpTalk$Matching") (by decide) rfl (Nat.le_of_ble_eq_true rfl) ?_
  intro p e s m below meth c ls A C hr hlk hW hl
  have hx := C.1
  have hb := C.2.1
  have hl : lv_has ls 8 [(0, .ref (a 0)), (1, .int p1), (2, .int p2)] := hl
  unfold X1_mateOf at hm
  refine lv_iload_n hx hb dX1_mateOf_0 rfl (lv_at hl 2 rfl) ?_
  obtain ⟨v12, e11, hm⟩ := mi_bind hm
  refine cS_i (As := [.int p2]) (rest := []) C hW (c_X1_everybody e11) kX1_everybody q473 rfl rfl hl.1 ⟨Nat.le_of_ble_eq_true rfl, Nat.le_of_ble_eq_true rfl⟩ ⟨Nat.le_refl 0, Nat.le_refl 0⟩ (Nat.le_of_ble_eq_true rfl) dX1_mateOf_1 (fun H locs hW => ?_)
  refine lv_istore_n (lv' := [(3, .int v12), (0, .ref (a 0)), (1, .int p1), (2, .int p2)]) hx hb dX1_mateOf_4 rfl hl (by decide) rfl (fun ls hl => ?_)
  refine lv_iconst (v := 0) hx hb dX1_mateOf_5 (by decide) ?_
  refine lv_istore (lv' := [(4, .int (0 : Int32)), (3, .int v12), (0, .ref (a 0)), (1, .int p1), (2, .int p2)]) hx hb dX1_mateOf_6 hl (by decide) rfl (fun ls hl => ?_)
  exact wX1_mateOf_b8 C hr hlk hg FU p1 p2 v12 (0 : Int32) _ _ _ hm hW (lv_sub hl [2, 3, 4, 1, 0] rfl)
theorem kX1_mateOf : KM yX1_mateOf cX1_mateOf 8 (some .int) 2 := ⟨q495, q496, q70, q497, by decide +kernel, by decide +kernel, by decide +kernel⟩
def X3_isMissing (σ : MS) : Option (Int32) := if (σ 3 1) = (0 : Int32) then (some (1 : Int32)) else (some (0 : Int32))
set_option maxHeartbeats 4000000 in
set_option maxRecDepth 100000 in
theorem c_X3_isMissing {l : Launch} {D : va_G} {cy cz : ClassId} {G : GT} {a : Nat → Nat} {σ : MS} {r : Int32} (hm : X3_isMissing σ = some r) : CtI l D cy cz G yX3_isMissing cX3_isMissing 1 (some .boolean) 0 0 [.ref (a 0)] (cSh a cy σ) (cSh a cy σ) r := by
  refine ct_i (own := "PumpTalk$Sheet") (by decide) rfl (Nat.le_of_ble_eq_true rfl) ?_
  intro p e s m below meth c ls A C hr hlk hW hl
  have hx := C.1
  have hb := C.2.1
  have hl : lv_has ls 1 [(0, .ref (a 0))] := hl
  unfold X3_isMissing at hm
  refine lv_aload_n hx hb dX3_isMissing_0 rfl (lv_at hl 0 rfl) ?_
  refine gSh_bits C hW q188 dX3_isMissing_1 ?_
  refine lv_if_ne (tgt := 11) hx hb dX3_isMissing_4 (by decide) (fun hc1 => ?_) (fun hc1 => ?_)
  · rw [if_neg hc1] at hm
    refine lv_iconst (v := 0) hx hb dX3_isMissing_11 (by decide) ?_
    obtain rfl := Option.some.inj hm
    exact en_z C hr hlk rfl hW dX3_isMissing_12
  · rw [if_pos hc1] at hm
    refine lv_iconst (v := 1) hx hb dX3_isMissing_7 (by decide) ?_
    refine lv_goto (tgt := 12) hx hb dX3_isMissing_8 (by decide) ?_
    obtain rfl := Option.some.inj hm
    exact en_z C hr hlk rfl hW dX3_isMissing_12
theorem kX3_isMissing : KM yX3_isMissing cX3_isMissing 1 (some .boolean) 0 := ⟨q538, q539, q71, q540, by decide +kernel, by decide +kernel, by decide +kernel⟩
def X4_draw (σ : MS) : Option (Int32 × MS) := some ((((((su σ 11 10 (((σ 11 10) * (1103515245 : Int32)) + (12345 : Int32))) 11 10)).toUInt32 >>> (((8 : Int32)).toUInt32 &&& Int32.toUInt32 31)).toInt32), su σ 11 10 (((σ 11 10) * (1103515245 : Int32)) + (12345 : Int32)))
set_option maxHeartbeats 4000000 in
set_option maxRecDepth 100000 in
theorem c_X4_draw {l : Launch} {D : va_G} {cy cz : ClassId} {G : GT} {a : Nat → Nat} {σ : MS} {r : Int32} {σr : MS} (hm : X4_draw σ = some (r, σr)) : CtI l D cy cz G yX4_draw cX4_draw 1 (some .int) 0 0 [.ref (a 0)] (cSq a cy σ) (cSq a cy σr) r := by
  refine ct_i (own := "PumpTalk$Square") (by decide) rfl (Nat.le_of_ble_eq_true rfl) ?_
  intro p e s m below meth c ls A C hr hlk hW hl
  have hx := C.1
  have hb := C.2.1
  have hl : lv_has ls 1 [(0, .ref (a 0))] := hl
  unfold X4_draw at hm
  refine lv_aload_n hx hb dX4_draw_0 rfl (lv_at hl 0 rfl) ?_
  refine lv_aload_n hx hb dX4_draw_1 rfl (lv_at hl 0 rfl) ?_
  refine gSq_z C hW q114 dX4_draw_2 ?_
  refine lv_ldc hx hb C.2.2.2.1 (C.2.2.2.2.1 _ q562) dX4_draw_5 ?_
  refine lv_imul hx hb dX4_draw_7 ?_
  refine lv_sipush (v := 12345) hx hb dX4_draw_8 (by decide) ?_
  refine lv_iadd hx hb dX4_draw_11 ?_
  refine pSq_z C hW q114 dX4_draw_12 (fun H locs hW => ?_)
  refine lv_aload_n hx hb dX4_draw_15 rfl (lv_at hl 0 rfl) ?_
  refine gSq_z C hW q114 dX4_draw_16 ?_
  refine lv_bipush (v := 8) hx hb dX4_draw_19 (by decide) ?_
  refine lv_iushr hx hb dX4_draw_21 rfl ?_
  obtain ⟨rfl, rfl⟩ := Prod.mk.inj (Option.some.inj hm)
  exact en_i C hr hlk hW dX4_draw_22
theorem kX4_draw : KM yX4_draw cX4_draw 1 (some .int) 0 := ⟨q559, q560, q68, q561, by decide +kernel, by decide +kernel, by decide +kernel⟩
def X2_append (σ : MS) (p1 : Int32) : Option (MS) := if (120 : Int32) ≤ (σ 6 1) then (some σ) else (ai (σ 6 1) 120 (some (su (su σ 0 (Int32.toNatClampNeg (σ 6 1)) p1) 6 1 (((su σ 0 (Int32.toNatClampNeg (σ 6 1)) p1) 6 1) + (1 : Int32)))))
set_option maxHeartbeats 4000000 in
set_option maxRecDepth 100000 in
theorem c_X2_append {l : Launch} {D : va_G} {cy cz : ClassId} {G : GT} {a : Nat → Nat} {σ : MS} {p1 : Int32} {σr : MS} (hm : X2_append σ p1 = some σr) : CtV l D cy cz G yX2_append cX2_append 2 none 0 0 [.ref (a 0), .int p1] (cRd a cy σ) (cRd a cy σr) () := by
  refine ct_v (own := "PumpTalk$Reader") (by decide) rfl (Nat.le_of_ble_eq_true rfl) ?_
  intro p e s m below meth c ls A C hr hlk hW hl
  have hx := C.1
  have hb := C.2.1
  have hl : lv_has ls 2 [(0, .ref (a 0)), (1, .int p1)] := hl
  unfold X2_append at hm
  refine lv_aload_n hx hb dX2_append_0 rfl (lv_at hl 0 rfl) ?_
  refine gRd_length C hW q147 dX2_append_1 ?_
  refine lv_bipush (v := 120) hx hb dX2_append_4 (by decide) ?_
  refine lv_icmp_ge (tgt := 29) hx hb dX2_append_6 (by decide) (fun hc1 => ?_) (fun hc1 => ?_)
  · rw [if_pos hc1] at hm
    obtain rfl := Option.some.inj hm
    exact en_v C hr hlk hW dX2_append_29
  · rw [if_neg hc1] at hm
    refine lv_aload_n hx hb dX2_append_9 rfl (lv_at hl 0 rfl) ?_
    refine gRd_bytes C hW q146 dX2_append_10 ?_
    refine lv_aload_n hx hb dX2_append_13 rfl (lv_at hl 0 rfl) ?_
    refine gRd_length C hW q147 dX2_append_14 ?_
    refine lv_iload_n hx hb dX2_append_17 rfl (lv_at hl 1 rfl) ?_
    obtain ⟨hi2, hm⟩ := mi_ai hm
    refine tRd_bytes C hW hi2 dX2_append_18 (fun H locs hW => ?_)
    refine lv_aload_n hx hb dX2_append_19 rfl (lv_at hl 0 rfl) ?_
    refine lv_dup hx hb dX2_append_20 rfl ?_
    refine gRd_length C hW q147 dX2_append_21 ?_
    refine lv_iconst (v := 1) hx hb dX2_append_24 (by decide) ?_
    refine lv_iadd hx hb dX2_append_25 ?_
    refine pRd_length C hW q147 dX2_append_26 (fun H locs hW => ?_)
    obtain rfl := Option.some.inj hm
    exact en_v C hr hlk hW dX2_append_29
theorem kX2_append : KM yX2_append cX2_append 2 none 1 := ⟨q581, q582, q69, q583, by decide +kernel, by decide +kernel, by decide +kernel⟩
def X2_sortAt_b45 (σ : MS) (x2 : Int32) : Option (Int32) := if x2 = (59 : Int32) then (some (3 : Int32)) else (if x2 = (45 : Int32) then (some (3 : Int32)) else (some (4 : Int32)))
set_option maxHeartbeats 4000000 in
set_option maxRecDepth 100000 in
theorem wX2_sortAt_b45 {p : Program} {l : Launch} {e : Env} {s : State} {m : MethodId} {below : List Frame} {meth : Method} {c : Code} {D : va_G} {cy cz : ClassId} {G : GT} {A : Nat → Prop} {args : Array Value} {a : Nat → Nat} {r : Int32} {σ : MS} (C : Cx p s m args c cX2_sortAt 3 "PumpTalk$Reader" D cy cz G A) (hr : meth.sig.returnType = some .int) (hlk : meth.locks = false) : ∀ (x2 : Int32) (H : Heap) (locs : List Loc) (ls : Array Slot), X2_sortAt_b45 σ x2 = some r → Wd D A s.heap H locs (cRd a cy σ) → lv_has ls 3 [(2, .int x2)] → W p l e (rmz 0 0) s m args below meth c H locs 0 0 (MQ below (QI D cy cz A (cRd a cy σ) r) args s 0 0 A) (F0 m 45 ls []) := by
  have hx := C.1
  have hb := C.2.1
  intro x2 H locs ls hm hW hl
  unfold X2_sortAt_b45 at hm
  refine lv_iload_n hx hb dX2_sortAt_45 rfl (lv_at hl 0 rfl) ?_
  refine lv_bipush (v := 59) hx hb dX2_sortAt_46 (by decide) ?_
  refine lv_icmp_eq (tgt := 57) hx hb dX2_sortAt_48 (by decide) (fun hc1 => ?_) (fun hc1 => ?_)
  · rw [if_pos hc1] at hm
    refine lv_iconst (v := 3) hx hb dX2_sortAt_57 (by decide) ?_
    refine lv_goto (tgt := 62) hx hb dX2_sortAt_58 (by decide) ?_
    obtain rfl := Option.some.inj hm
    exact en_i C hr hlk hW dX2_sortAt_62
  · rw [if_neg hc1] at hm
    refine lv_iload_n hx hb dX2_sortAt_51 rfl (lv_at hl 0 rfl) ?_
    refine lv_bipush (v := 45) hx hb dX2_sortAt_52 (by decide) ?_
    refine lv_icmp_ne (tgt := 61) hx hb dX2_sortAt_54 (by decide) (fun hc2 => ?_) (fun hc2 => ?_)
    · rw [if_neg hc2] at hm
      refine lv_iconst (v := 4) hx hb dX2_sortAt_61 (by decide) ?_
      obtain rfl := Option.some.inj hm
      exact en_i C hr hlk hW dX2_sortAt_62
    · rw [if_pos hc2] at hm
      refine lv_iconst (v := 3) hx hb dX2_sortAt_57 (by decide) ?_
      refine lv_goto (tgt := 62) hx hb dX2_sortAt_58 (by decide) ?_
      obtain rfl := Option.some.inj hm
      exact en_i C hr hlk hW dX2_sortAt_62
def X2_sortAt_b31 (σ : MS) (x2 : Int32) : Option (Int32) := if x2 < (48 : Int32) then (X2_sortAt_b45 σ x2) else (if (57 : Int32) < x2 then (X2_sortAt_b45 σ x2) else (some (2 : Int32)))
set_option maxHeartbeats 4000000 in
set_option maxRecDepth 100000 in
theorem wX2_sortAt_b31 {p : Program} {l : Launch} {e : Env} {s : State} {m : MethodId} {below : List Frame} {meth : Method} {c : Code} {D : va_G} {cy cz : ClassId} {G : GT} {A : Nat → Prop} {args : Array Value} {a : Nat → Nat} {r : Int32} {σ : MS} (C : Cx p s m args c cX2_sortAt 3 "PumpTalk$Reader" D cy cz G A) (hr : meth.sig.returnType = some .int) (hlk : meth.locks = false) : ∀ (x2 : Int32) (H : Heap) (locs : List Loc) (ls : Array Slot), X2_sortAt_b31 σ x2 = some r → Wd D A s.heap H locs (cRd a cy σ) → lv_has ls 3 [(2, .int x2)] → W p l e (rmz 0 0) s m args below meth c H locs 0 0 (MQ below (QI D cy cz A (cRd a cy σ) r) args s 0 0 A) (F0 m 31 ls []) := by
  have hx := C.1
  have hb := C.2.1
  intro x2 H locs ls hm hW hl
  unfold X2_sortAt_b31 at hm
  refine lv_iload_n hx hb dX2_sortAt_31 rfl (lv_at hl 0 rfl) ?_
  refine lv_bipush (v := 48) hx hb dX2_sortAt_32 (by decide) ?_
  refine lv_icmp_lt (tgt := 45) hx hb dX2_sortAt_34 (by decide) (fun hc3 => ?_) (fun hc3 => ?_)
  · rw [if_pos hc3] at hm
    exact wX2_sortAt_b45 C hr hlk x2 _ _ _ hm hW (lv_sub hl [0] rfl)
  · rw [if_neg hc3] at hm
    refine lv_iload_n hx hb dX2_sortAt_37 rfl (lv_at hl 0 rfl) ?_
    refine lv_bipush (v := 57) hx hb dX2_sortAt_38 (by decide) ?_
    refine lv_icmp_gt (tgt := 45) hx hb dX2_sortAt_40 (by decide) (fun hc4 => ?_) (fun hc4 => ?_)
    · rw [if_pos hc4] at hm
      exact wX2_sortAt_b45 C hr hlk x2 _ _ _ hm hW (lv_sub hl [0] rfl)
    · rw [if_neg hc4] at hm
      refine lv_iconst (v := 2) hx hb dX2_sortAt_43 (by decide) ?_
      obtain rfl := Option.some.inj hm
      exact en_i C hr hlk hW dX2_sortAt_44
def X2_sortAt (σ : MS) (p1 : Int32) : Option (Int32) := if p1 < (σ 6 1) then (ai p1 120 (if (σ 0 (Int32.toNatClampNeg p1)) < (97 : Int32) then (X2_sortAt_b31 σ ((σ 0 (Int32.toNatClampNeg p1)))) else (if (122 : Int32) < (σ 0 (Int32.toNatClampNeg p1)) then (X2_sortAt_b31 σ ((σ 0 (Int32.toNatClampNeg p1)))) else (some (1 : Int32))))) else (some (0 : Int32))
set_option maxHeartbeats 4000000 in
set_option maxRecDepth 100000 in
theorem c_X2_sortAt {l : Launch} {D : va_G} {cy cz : ClassId} {G : GT} {a : Nat → Nat} {σ : MS} {p1 : Int32} {r : Int32} (hm : X2_sortAt σ p1 = some r) : CtI l D cy cz G yX2_sortAt cX2_sortAt 3 (some .int) 0 0 [.ref (a 0), .int p1] (cRd a cy σ) (cRd a cy σ) r := by
  refine ct_i (own := "PumpTalk$Reader") (by decide) rfl (Nat.le_of_ble_eq_true rfl) ?_
  intro p e s m below meth c ls A C hr hlk hW hl
  have hx := C.1
  have hb := C.2.1
  have hl : lv_has ls 3 [(0, .ref (a 0)), (1, .int p1)] := hl
  unfold X2_sortAt at hm
  refine lv_iload_n hx hb dX2_sortAt_0 rfl (lv_at hl 1 rfl) ?_
  refine lv_aload_n hx hb dX2_sortAt_1 rfl (lv_at hl 0 rfl) ?_
  refine gRd_length C hW q147 dX2_sortAt_2 ?_
  refine lv_icmp_lt (tgt := 10) hx hb dX2_sortAt_5 (by decide) (fun hc5 => ?_) (fun hc5 => ?_)
  · rw [if_pos hc5] at hm
    refine lv_aload_n hx hb dX2_sortAt_10 rfl (lv_at hl 0 rfl) ?_
    refine gRd_bytes C hW q146 dX2_sortAt_11 ?_
    refine lv_iload_n hx hb dX2_sortAt_14 rfl (lv_at hl 1 rfl) ?_
    obtain ⟨hi6, hm⟩ := mi_ai hm
    refine lRd_bytes C hW hi6 dX2_sortAt_15 ?_
    refine lv_istore_n (lv' := [(2, .int (σ 0 (Int32.toNatClampNeg p1))), (0, .ref (a 0)), (1, .int p1)]) hx hb dX2_sortAt_16 rfl hl (by decide) rfl (fun ls hl => ?_)
    refine lv_iload_n hx hb dX2_sortAt_17 rfl (lv_at hl 0 rfl) ?_
    refine lv_bipush (v := 97) hx hb dX2_sortAt_18 (by decide) ?_
    refine lv_icmp_lt (tgt := 31) hx hb dX2_sortAt_20 (by decide) (fun hc7 => ?_) (fun hc7 => ?_)
    · rw [if_pos hc7] at hm
      exact wX2_sortAt_b31 C hr hlk ((σ 0 (Int32.toNatClampNeg p1))) _ _ _ hm hW (lv_sub hl [0] rfl)
    · rw [if_neg hc7] at hm
      refine lv_iload_n hx hb dX2_sortAt_23 rfl (lv_at hl 0 rfl) ?_
      refine lv_bipush (v := 122) hx hb dX2_sortAt_24 (by decide) ?_
      refine lv_icmp_gt (tgt := 31) hx hb dX2_sortAt_26 (by decide) (fun hc8 => ?_) (fun hc8 => ?_)
      · rw [if_pos hc8] at hm
        exact wX2_sortAt_b31 C hr hlk ((σ 0 (Int32.toNatClampNeg p1))) _ _ _ hm hW (lv_sub hl [0] rfl)
      · rw [if_neg hc8] at hm
        refine lv_iconst (v := 1) hx hb dX2_sortAt_29 (by decide) ?_
        obtain rfl := Option.some.inj hm
        exact en_i C hr hlk hW dX2_sortAt_30
  · rw [if_neg hc5] at hm
    refine lv_iconst (v := 0) hx hb dX2_sortAt_8 (by decide) ?_
    obtain rfl := Option.some.inj hm
    exact en_i C hr hlk hW dX2_sortAt_9
theorem kX2_sortAt : KM yX2_sortAt cX2_sortAt 3 (some .int) 1 := ⟨q602, q13, q69, q603, by decide +kernel, by decide +kernel, by decide +kernel⟩
def X2_readNumber_b10 : Nat → MS → Int32 → Option (MS)
  | 0, _, _ => none
  | n + 1, σ, x1 => if (σ 6 4) ≤ x1 then (some σ) else (if (σ 6 2) = (2 : Int32) then (if (999 : Int32) < (σ 6 5) then (some σ) else (ai x1 120 (X2_readNumber_b10 n (su σ 6 5 ((((10 : Int32) * (σ 6 5)) + (σ 0 (Int32.toNatClampNeg x1))) - (48 : Int32))) ((x1 + (1 : Int32)))))) else (some σ))
set_option maxHeartbeats 4000000 in
set_option maxRecDepth 100000 in
theorem wX2_readNumber_b10 {p : Program} {l : Launch} {e : Env} {s : State} {m : MethodId} {below : List Frame} {meth : Method} {c : Code} {D : va_G} {cy cz : ClassId} {G : GT} {A : Nat → Prop} {args : Array Value} {a : Nat → Nat} {σr : MS} (C : Cx p s m args c cX2_readNumber 2 "PumpTalk$Reader" D cy cz G A) (hr : meth.sig.returnType = none) (hlk : meth.locks = false) : ∀ (n : Nat) (σ : MS) (x1 : Int32) (H : Heap) (locs : List Loc) (ls : Array Slot), X2_readNumber_b10 n σ x1 = some σr → Wd D A s.heap H locs (cRd a cy σ) → lv_has ls 2 [(0, .ref (a 0)), (1, .int x1)] → W p l e (rmz 0 0) s m args below meth c H locs 0 0 (MQ below (QV D cy cz A (cRd a cy σr) ()) args s 0 0 A) (F0 m 10 ls []) := by
  have hx := C.1
  have hb := C.2.1
  intro n
  induction n with
  | zero =>
    intro σ x1 H locs ls hm
    rw [X2_readNumber_b10] at hm
    cases hm
  | succ n ih =>
    intro σ x1 H locs ls hm hW hl
    rw [X2_readNumber_b10] at hm
    refine lv_iload_n hx hb dX2_readNumber_10 rfl (lv_at hl 1 rfl) ?_
    refine lv_aload_n hx hb dX2_readNumber_11 rfl (lv_at hl 0 rfl) ?_
    refine gRd_behind C hW q151 dX2_readNumber_12 ?_
    refine lv_icmp_ge (tgt := 63) hx hb dX2_readNumber_15 (by decide) (fun hc1 => ?_) (fun hc1 => ?_)
    · rw [if_pos hc1] at hm
      obtain rfl := Option.some.inj hm
      exact en_v C hr hlk hW dX2_readNumber_63
    · rw [if_neg hc1] at hm
      refine lv_aload_n hx hb dX2_readNumber_18 rfl (lv_at hl 0 rfl) ?_
      refine gRd_sort C hW q149 dX2_readNumber_19 ?_
      refine lv_iconst (v := 2) hx hb dX2_readNumber_22 (by decide) ?_
      refine lv_icmp_ne (tgt := 63) hx hb dX2_readNumber_23 (by decide) (fun hc2 => ?_) (fun hc2 => ?_)
      · rw [if_neg hc2] at hm
        obtain rfl := Option.some.inj hm
        exact en_v C hr hlk hW dX2_readNumber_63
      · rw [if_pos hc2] at hm
        refine lv_aload_n hx hb dX2_readNumber_26 rfl (lv_at hl 0 rfl) ?_
        refine gRd_number C hW q152 dX2_readNumber_27 ?_
        refine lv_sipush (v := 999) hx hb dX2_readNumber_30 (by decide) ?_
        refine lv_icmp_gt (tgt := 63) hx hb dX2_readNumber_33 (by decide) (fun hc3 => ?_) (fun hc3 => ?_)
        · rw [if_pos hc3] at hm
          obtain rfl := Option.some.inj hm
          exact en_v C hr hlk hW dX2_readNumber_63
        · rw [if_neg hc3] at hm
          refine lv_aload_n hx hb dX2_readNumber_36 rfl (lv_at hl 0 rfl) ?_
          refine lv_bipush (v := 10) hx hb dX2_readNumber_37 (by decide) ?_
          refine lv_aload_n hx hb dX2_readNumber_39 rfl (lv_at hl 0 rfl) ?_
          refine gRd_number C hW q152 dX2_readNumber_40 ?_
          refine lv_imul hx hb dX2_readNumber_43 ?_
          refine lv_aload_n hx hb dX2_readNumber_44 rfl (lv_at hl 0 rfl) ?_
          refine gRd_bytes C hW q146 dX2_readNumber_45 ?_
          refine lv_iload_n hx hb dX2_readNumber_48 rfl (lv_at hl 1 rfl) ?_
          obtain ⟨hi4, hm⟩ := mi_ai hm
          refine lRd_bytes C hW hi4 dX2_readNumber_49 ?_
          refine lv_iadd hx hb dX2_readNumber_50 ?_
          refine lv_bipush (v := 48) hx hb dX2_readNumber_51 (by decide) ?_
          refine lv_isub hx hb dX2_readNumber_53 ?_
          refine pRd_number C hW q152 dX2_readNumber_54 (fun H locs hW => ?_)
          refine lv_iinc (v := (x1 + (1 : Int32))) (lv' := [(1, .int (x1 + (1 : Int32))), (0, .ref (a 0))]) hx hb dX2_readNumber_57 hl (k := 1) rfl (congrArg (fun z : Int32 => x1 + z) (by decide)) (by decide) rfl (fun ls hl => ?_)
          refine lv_goto (tgt := 10) hx hb dX2_readNumber_60 (by decide) ?_
          exact ih (su σ 6 5 ((((10 : Int32) * (σ 6 5)) + (σ 0 (Int32.toNatClampNeg x1))) - (48 : Int32))) ((x1 + (1 : Int32))) _ _ _ hm hW (lv_sub hl [1, 0] rfl)
def X2_readNumber (σ : MS) : Option (MS) := X2_readNumber_b10 FU (su σ 6 5 (0 : Int32)) (((su σ 6 5 (0 : Int32)) 6 3))
set_option maxHeartbeats 4000000 in
set_option maxRecDepth 100000 in
theorem c_X2_readNumber {l : Launch} {D : va_G} {cy cz : ClassId} {G : GT} {a : Nat → Nat} {σ : MS} {σr : MS} (hm : X2_readNumber σ = some σr) : CtV l D cy cz G yX2_readNumber cX2_readNumber 2 none 0 0 [.ref (a 0)] (cRd a cy σ) (cRd a cy σr) () := by
  refine ct_v (own := "PumpTalk$Reader") (by decide) rfl (Nat.le_of_ble_eq_true rfl) ?_
  intro p e s m below meth c ls A C hr hlk hW hl
  have hx := C.1
  have hb := C.2.1
  have hl : lv_has ls 2 [(0, .ref (a 0))] := hl
  unfold X2_readNumber at hm
  refine lv_aload_n hx hb dX2_readNumber_0 rfl (lv_at hl 0 rfl) ?_
  refine lv_iconst (v := 0) hx hb dX2_readNumber_1 (by decide) ?_
  refine pRd_number C hW q152 dX2_readNumber_2 (fun H locs hW => ?_)
  refine lv_aload_n hx hb dX2_readNumber_5 rfl (lv_at hl 0 rfl) ?_
  refine gRd_start C hW q150 dX2_readNumber_6 ?_
  refine lv_istore_n (lv' := [(1, .int ((su σ 6 5 (0 : Int32)) 6 3)), (0, .ref (a 0))]) hx hb dX2_readNumber_9 rfl hl (by decide) rfl (fun ls hl => ?_)
  exact wX2_readNumber_b10 C hr hlk FU (su σ 6 5 (0 : Int32)) (((su σ 6 5 (0 : Int32)) 6 3)) _ _ _ hm hW (lv_sub hl [1, 0] rfl)
theorem kX2_readNumber : KM yX2_readNumber cX2_readNumber 2 none 0 := ⟨q606, q14, q69, q607, by decide +kernel, by decide +kernel, by decide +kernel⟩
def X2_advance_b98 : Nat → MS → Option (MS)
  | 0, _ => none
  | n + 1, σ => if (σ 6 1) ≤ (σ 6 4) then ((X2_readNumber σ).bind fun s3 => some s3) else ((X2_sortAt σ (σ 6 4)).bind fun v5 => if v5 = (σ 6 2) then (X2_advance_b98 n (su σ 6 4 ((σ 6 4) + (1 : Int32)))) else ((X2_readNumber σ).bind fun s8 => some s8))
set_option maxHeartbeats 4000000 in
set_option maxRecDepth 100000 in
theorem wX2_advance_b98 {p : Program} {l : Launch} {e : Env} {s : State} {m : MethodId} {below : List Frame} {meth : Method} {c : Code} {D : va_G} {cy cz : ClassId} {G : GT} {A : Nat → Prop} {args : Array Value} {a : Nat → Nat} {σr : MS} (C : Cx p s m args c cX2_advance 1 "PumpTalk$Reader" D cy cz G A) (hr : meth.sig.returnType = none) (hlk : meth.locks = false) : ∀ (n : Nat) (σ : MS) (H : Heap) (locs : List Loc) (ls : Array Slot), X2_advance_b98 n σ = some σr → Wd D A s.heap H locs (cRd a cy σ) → lv_has ls 1 [(0, .ref (a 0))] → W p l e (rmz 1 22) s m args below meth c H locs 0 0 (MQ below (QV D cy cz A (cRd a cy σr) ()) args s 0 0 A) (F0 m 98 ls []) := by
  have hx := C.1
  have hb := C.2.1
  intro n
  induction n with
  | zero =>
    intro σ H locs ls hm
    rw [X2_advance_b98] at hm
    cases hm
  | succ n ih =>
    intro σ H locs ls hm hW hl
    rw [X2_advance_b98] at hm
    refine lv_aload_n hx hb dX2_advance_98 rfl (lv_at hl 0 rfl) ?_
    refine gRd_behind C hW q151 dX2_advance_99 ?_
    refine lv_aload_n hx hb dX2_advance_102 rfl (lv_at hl 0 rfl) ?_
    refine gRd_length C hW q147 dX2_advance_103 ?_
    refine lv_icmp_ge (tgt := 137) hx hb dX2_advance_106 (by decide) (fun hc1 => ?_) (fun hc1 => ?_)
    · rw [if_pos hc1] at hm
      refine lv_aload_n hx hb dX2_advance_137 rfl (lv_at hl 0 rfl) ?_
      obtain ⟨s3, e2, hm⟩ := mi_bind hm
      refine cs_v (q0 := 0) (As := []) (rest := []) C hW (c_X2_readNumber e2) kX2_readNumber q604 rfl rfl rfl rfl rfl hl.1 ⟨Nat.le_of_ble_eq_true rfl, Nat.le_of_ble_eq_true rfl⟩ ⟨Nat.le_refl 0, Nat.le_refl 0⟩ (Nat.le_of_ble_eq_true rfl) dX2_advance_138 (fun H locs hW => ?_)
      obtain rfl := Option.some.inj hm
      exact en_v C hr hlk hW dX2_advance_141
    · rw [if_neg hc1] at hm
      refine lv_aload_n hx hb dX2_advance_109 rfl (lv_at hl 0 rfl) ?_
      refine lv_aload_n hx hb dX2_advance_110 rfl (lv_at hl 0 rfl) ?_
      refine gRd_behind C hW q151 dX2_advance_111 ?_
      obtain ⟨v5, e4, hm⟩ := mi_bind hm
      refine cs_i (q0 := 0) (As := [.int (σ 6 4)]) (rest := []) C hW (c_X2_sortAt e4) kX2_sortAt q600 rfl rfl rfl rfl rfl hl.1 ⟨Nat.le_of_ble_eq_true rfl, Nat.le_of_ble_eq_true rfl⟩ ⟨Nat.le_refl 0, Nat.le_refl 0⟩ (Nat.le_of_ble_eq_true rfl) dX2_advance_114 (fun H locs hW => ?_)
      refine lv_aload_n hx hb dX2_advance_117 rfl (lv_at hl 0 rfl) ?_
      refine gRd_sort C hW q149 dX2_advance_118 ?_
      refine lv_icmp_ne (tgt := 137) hx hb dX2_advance_121 (by decide) (fun hc6 => ?_) (fun hc6 => ?_)
      · rw [if_neg hc6] at hm
        refine lv_aload_n hx hb dX2_advance_137 rfl (lv_at hl 0 rfl) ?_
        obtain ⟨s8, e7, hm⟩ := mi_bind hm
        refine cs_v (q0 := 0) (As := []) (rest := []) C hW (c_X2_readNumber e7) kX2_readNumber q604 rfl rfl rfl rfl rfl hl.1 ⟨Nat.le_of_ble_eq_true rfl, Nat.le_of_ble_eq_true rfl⟩ ⟨Nat.le_refl 0, Nat.le_refl 0⟩ (Nat.le_of_ble_eq_true rfl) dX2_advance_138 (fun H locs hW => ?_)
        obtain rfl := Option.some.inj hm
        exact en_v C hr hlk hW dX2_advance_141
      · rw [if_pos hc6] at hm
        refine lv_aload_n hx hb dX2_advance_124 rfl (lv_at hl 0 rfl) ?_
        refine lv_dup hx hb dX2_advance_125 rfl ?_
        refine gRd_behind C hW q151 dX2_advance_126 ?_
        refine lv_iconst (v := 1) hx hb dX2_advance_129 (by decide) ?_
        refine lv_iadd hx hb dX2_advance_130 ?_
        refine pRd_behind C hW q151 dX2_advance_131 (fun H locs hW => ?_)
        refine lv_goto (tgt := 98) hx hb dX2_advance_134 (by decide) ?_
        exact ih (su σ 6 4 ((σ 6 4) + (1 : Int32))) _ _ _ hm hW (lv_sub hl [0] rfl)
def X2_advance_b79 (σ : MS) (y1 : Int32) : Option (MS) := if ((su σ 6 4 y1) 6 2) = (1 : Int32) then (X2_advance_b98 FU (su σ 6 4 y1)) else (if ((su σ 6 4 y1) 6 2) = (2 : Int32) then (X2_advance_b98 FU (su σ 6 4 y1)) else ((X2_readNumber (su σ 6 4 y1)).bind fun s12 => some s12))
set_option maxHeartbeats 4000000 in
set_option maxRecDepth 100000 in
theorem wX2_advance_b79 {p : Program} {l : Launch} {e : Env} {s : State} {m : MethodId} {below : List Frame} {meth : Method} {c : Code} {D : va_G} {cy cz : ClassId} {G : GT} {A : Nat → Prop} {args : Array Value} {a : Nat → Nat} {σr : MS} (C : Cx p s m args c cX2_advance 1 "PumpTalk$Reader" D cy cz G A) (hr : meth.sig.returnType = none) (hlk : meth.locks = false) : ∀ (σ : MS) (y1 : Int32) (H : Heap) (locs : List Loc) (ls : Array Slot), X2_advance_b79 σ y1 = some σr → Wd D A s.heap H locs (cRd a cy σ) → lv_has ls 1 [(0, .ref (a 0))] → W p l e (rmz 1 22) s m args below meth c H locs 0 0 (MQ below (QV D cy cz A (cRd a cy σr) ()) args s 0 0 A) (F0 m 79 ls [.int y1, .ref (a 0)]) := by
  have hx := C.1
  have hb := C.2.1
  intro σ y1 H locs ls hm hW hl
  unfold X2_advance_b79 at hm
  refine pRd_behind C hW q151 dX2_advance_79 (fun H locs hW => ?_)
  refine lv_aload_n hx hb dX2_advance_82 rfl (lv_at hl 0 rfl) ?_
  refine gRd_sort C hW q149 dX2_advance_83 ?_
  refine lv_iconst (v := 1) hx hb dX2_advance_86 (by decide) ?_
  refine lv_icmp_eq (tgt := 98) hx hb dX2_advance_87 (by decide) (fun hc9 => ?_) (fun hc9 => ?_)
  · rw [if_pos hc9] at hm
    exact wX2_advance_b98 C hr hlk FU (su σ 6 4 y1) _ _ _ hm hW (lv_sub hl [0] rfl)
  · rw [if_neg hc9] at hm
    refine lv_aload_n hx hb dX2_advance_90 rfl (lv_at hl 0 rfl) ?_
    refine gRd_sort C hW q149 dX2_advance_91 ?_
    refine lv_iconst (v := 2) hx hb dX2_advance_94 (by decide) ?_
    refine lv_icmp_ne (tgt := 137) hx hb dX2_advance_95 (by decide) (fun hc10 => ?_) (fun hc10 => ?_)
    · rw [if_neg hc10] at hm
      refine lv_aload_n hx hb dX2_advance_137 rfl (lv_at hl 0 rfl) ?_
      obtain ⟨s12, e11, hm⟩ := mi_bind hm
      refine cs_v (q0 := 0) (As := []) (rest := []) C hW (c_X2_readNumber e11) kX2_readNumber q604 rfl rfl rfl rfl rfl hl.1 ⟨Nat.le_of_ble_eq_true rfl, Nat.le_of_ble_eq_true rfl⟩ ⟨Nat.le_refl 0, Nat.le_refl 0⟩ (Nat.le_of_ble_eq_true rfl) dX2_advance_138 (fun H locs hW => ?_)
      obtain rfl := Option.some.inj hm
      exact en_v C hr hlk hW dX2_advance_141
    · rw [if_pos hc10] at hm
      exact wX2_advance_b98 C hr hlk FU (su σ 6 4 y1) _ _ _ hm hW (lv_sub hl [0] rfl)
def X2_advance_b46 (σ : MS) : Option (MS) := (X2_sortAt σ (σ 6 3)).bind fun v14 => if ((su σ 6 2 v14) 6 2) = (0 : Int32) then (X2_advance_b79 (su σ 6 2 v14) (((su σ 6 2 v14) 6 3))) else (X2_advance_b79 (su σ 6 2 v14) ((((su σ 6 2 v14) 6 3) + (1 : Int32))))
set_option maxHeartbeats 4000000 in
set_option maxRecDepth 100000 in
theorem wX2_advance_b46 {p : Program} {l : Launch} {e : Env} {s : State} {m : MethodId} {below : List Frame} {meth : Method} {c : Code} {D : va_G} {cy cz : ClassId} {G : GT} {A : Nat → Prop} {args : Array Value} {a : Nat → Nat} {σr : MS} (C : Cx p s m args c cX2_advance 1 "PumpTalk$Reader" D cy cz G A) (hr : meth.sig.returnType = none) (hlk : meth.locks = false) : ∀ (σ : MS) (H : Heap) (locs : List Loc) (ls : Array Slot), X2_advance_b46 σ = some σr → Wd D A s.heap H locs (cRd a cy σ) → lv_has ls 1 [(0, .ref (a 0))] → W p l e (rmz 1 22) s m args below meth c H locs 0 0 (MQ below (QV D cy cz A (cRd a cy σr) ()) args s 0 0 A) (F0 m 46 ls []) := by
  have hx := C.1
  have hb := C.2.1
  intro σ H locs ls hm hW hl
  unfold X2_advance_b46 at hm
  refine lv_aload_n hx hb dX2_advance_46 rfl (lv_at hl 0 rfl) ?_
  refine lv_aload_n hx hb dX2_advance_47 rfl (lv_at hl 0 rfl) ?_
  refine lv_aload_n hx hb dX2_advance_48 rfl (lv_at hl 0 rfl) ?_
  refine gRd_start C hW q150 dX2_advance_49 ?_
  obtain ⟨v14, e13, hm⟩ := mi_bind hm
  refine cs_i (q0 := 0) (As := [.int (σ 6 3)]) (rest := [.ref (a 0)]) C hW (c_X2_sortAt e13) kX2_sortAt q600 rfl rfl rfl rfl rfl hl.1 ⟨Nat.le_of_ble_eq_true rfl, Nat.le_of_ble_eq_true rfl⟩ ⟨Nat.le_refl 0, Nat.le_refl 0⟩ (Nat.le_of_ble_eq_true rfl) dX2_advance_52 (fun H locs hW => ?_)
  refine pRd_sort C hW q149 dX2_advance_55 (fun H locs hW => ?_)
  refine lv_aload_n hx hb dX2_advance_58 rfl (lv_at hl 0 rfl) ?_
  refine lv_aload_n hx hb dX2_advance_59 rfl (lv_at hl 0 rfl) ?_
  refine gRd_sort C hW q149 dX2_advance_60 ?_
  refine lv_if_ne (tgt := 73) hx hb dX2_advance_63 (by decide) (fun hc15 => ?_) (fun hc15 => ?_)
  · rw [if_neg hc15] at hm
    refine lv_aload_n hx hb dX2_advance_73 rfl (lv_at hl 0 rfl) ?_
    refine gRd_start C hW q150 dX2_advance_74 ?_
    refine lv_iconst (v := 1) hx hb dX2_advance_77 (by decide) ?_
    refine lv_iadd hx hb dX2_advance_78 ?_
    exact wX2_advance_b79 C hr hlk (su σ 6 2 v14) ((((su σ 6 2 v14) 6 3) + (1 : Int32))) _ _ _ hm hW (lv_sub hl [0] rfl)
  · rw [if_pos hc15] at hm
    refine lv_aload_n hx hb dX2_advance_66 rfl (lv_at hl 0 rfl) ?_
    refine gRd_start C hW q150 dX2_advance_67 ?_
    refine lv_goto (tgt := 79) hx hb dX2_advance_70 (by decide) ?_
    exact wX2_advance_b79 C hr hlk (su σ 6 2 v14) (((su σ 6 2 v14) 6 3)) _ _ _ hm hW (lv_sub hl [0] rfl)
def X2_advance_b8 : Nat → MS → Option (MS)
  | 0, _ => none
  | n + 1, σ => if (σ 6 1) ≤ (σ 6 3) then (X2_advance_b46 σ) else (ai (σ 6 3) 120 (if (σ 0 (Int32.toNatClampNeg (σ 6 3))) = (32 : Int32) then (X2_advance_b8 n (su σ 6 3 ((σ 6 3) + (1 : Int32)))) else (X2_advance_b46 σ)))
set_option maxHeartbeats 4000000 in
set_option maxRecDepth 100000 in
theorem wX2_advance_b8 {p : Program} {l : Launch} {e : Env} {s : State} {m : MethodId} {below : List Frame} {meth : Method} {c : Code} {D : va_G} {cy cz : ClassId} {G : GT} {A : Nat → Prop} {args : Array Value} {a : Nat → Nat} {σr : MS} (C : Cx p s m args c cX2_advance 1 "PumpTalk$Reader" D cy cz G A) (hr : meth.sig.returnType = none) (hlk : meth.locks = false) : ∀ (n : Nat) (σ : MS) (H : Heap) (locs : List Loc) (ls : Array Slot), X2_advance_b8 n σ = some σr → Wd D A s.heap H locs (cRd a cy σ) → lv_has ls 1 [(0, .ref (a 0))] → W p l e (rmz 1 22) s m args below meth c H locs 0 0 (MQ below (QV D cy cz A (cRd a cy σr) ()) args s 0 0 A) (F0 m 8 ls []) := by
  have hx := C.1
  have hb := C.2.1
  intro n
  induction n with
  | zero =>
    intro σ H locs ls hm
    rw [X2_advance_b8] at hm
    cases hm
  | succ n ih =>
    intro σ H locs ls hm hW hl
    rw [X2_advance_b8] at hm
    refine lv_aload_n hx hb dX2_advance_8 rfl (lv_at hl 0 rfl) ?_
    refine gRd_start C hW q150 dX2_advance_9 ?_
    refine lv_aload_n hx hb dX2_advance_12 rfl (lv_at hl 0 rfl) ?_
    refine gRd_length C hW q147 dX2_advance_13 ?_
    refine lv_icmp_ge (tgt := 46) hx hb dX2_advance_16 (by decide) (fun hc16 => ?_) (fun hc16 => ?_)
    · rw [if_pos hc16] at hm
      exact wX2_advance_b46 C hr hlk σ _ _ _ hm hW (lv_sub hl [0] rfl)
    · rw [if_neg hc16] at hm
      refine lv_aload_n hx hb dX2_advance_19 rfl (lv_at hl 0 rfl) ?_
      refine gRd_bytes C hW q146 dX2_advance_20 ?_
      refine lv_aload_n hx hb dX2_advance_23 rfl (lv_at hl 0 rfl) ?_
      refine gRd_start C hW q150 dX2_advance_24 ?_
      obtain ⟨hi17, hm⟩ := mi_ai hm
      refine lRd_bytes C hW hi17 dX2_advance_27 ?_
      refine lv_bipush (v := 32) hx hb dX2_advance_28 (by decide) ?_
      refine lv_icmp_ne (tgt := 46) hx hb dX2_advance_30 (by decide) (fun hc18 => ?_) (fun hc18 => ?_)
      · rw [if_neg hc18] at hm
        exact wX2_advance_b46 C hr hlk σ _ _ _ hm hW (lv_sub hl [0] rfl)
      · rw [if_pos hc18] at hm
        refine lv_aload_n hx hb dX2_advance_33 rfl (lv_at hl 0 rfl) ?_
        refine lv_dup hx hb dX2_advance_34 rfl ?_
        refine gRd_start C hW q150 dX2_advance_35 ?_
        refine lv_iconst (v := 1) hx hb dX2_advance_38 (by decide) ?_
        refine lv_iadd hx hb dX2_advance_39 ?_
        refine pRd_start C hW q150 dX2_advance_40 (fun H locs hW => ?_)
        refine lv_goto (tgt := 8) hx hb dX2_advance_43 (by decide) ?_
        exact ih (su σ 6 3 ((σ 6 3) + (1 : Int32))) _ _ _ hm hW (lv_sub hl [0] rfl)
def X2_advance (σ : MS) : Option (MS) := X2_advance_b8 FU (su σ 6 3 (σ 6 4))
set_option maxHeartbeats 4000000 in
set_option maxRecDepth 100000 in
theorem c_X2_advance {l : Launch} {D : va_G} {cy cz : ClassId} {G : GT} {a : Nat → Nat} {σ : MS} {σr : MS} (hm : X2_advance σ = some σr) : CtV l D cy cz G yX2_advance cX2_advance 1 none 1 22 [.ref (a 0)] (cRd a cy σ) (cRd a cy σr) () := by
  refine ct_v (own := "PumpTalk$Reader") (by decide) rfl (Nat.le_of_ble_eq_true rfl) ?_
  intro p e s m below meth c ls A C hr hlk hW hl
  have hx := C.1
  have hb := C.2.1
  have hl : lv_has ls 1 [(0, .ref (a 0))] := hl
  unfold X2_advance at hm
  refine lv_aload_n hx hb dX2_advance_0 rfl (lv_at hl 0 rfl) ?_
  refine lv_aload_n hx hb dX2_advance_1 rfl (lv_at hl 0 rfl) ?_
  refine gRd_behind C hW q151 dX2_advance_2 ?_
  refine pRd_start C hW q150 dX2_advance_5 (fun H locs hW => ?_)
  exact wX2_advance_b8 C hr hlk FU (su σ 6 3 (σ 6 4)) _ _ _ hm hW (lv_sub hl [0] rfl)
theorem kX2_advance : KM yX2_advance cX2_advance 1 none 0 := ⟨q598, q12, q69, q599, by decide +kernel, by decide +kernel, by decide +kernel⟩
def X2_isNumberUpTo (σ : MS) (p1 : Int32) : Option (Int32) := if (σ 6 2) = (2 : Int32) then (if p1 < (σ 6 5) then (some (0 : Int32)) else (some (1 : Int32))) else (some (0 : Int32))
set_option maxHeartbeats 4000000 in
set_option maxRecDepth 100000 in
theorem c_X2_isNumberUpTo {l : Launch} {D : va_G} {cy cz : ClassId} {G : GT} {a : Nat → Nat} {σ : MS} {p1 : Int32} {r : Int32} (hm : X2_isNumberUpTo σ p1 = some r) : CtI l D cy cz G yX2_isNumberUpTo cX2_isNumberUpTo 2 (some .boolean) 0 0 [.ref (a 0), .int p1] (cRd a cy σ) (cRd a cy σ) r := by
  refine ct_i (own := "PumpTalk$Reader") (by decide) rfl (Nat.le_of_ble_eq_true rfl) ?_
  intro p e s m below meth c ls A C hr hlk hW hl
  have hx := C.1
  have hb := C.2.1
  have hl : lv_has ls 2 [(0, .ref (a 0)), (1, .int p1)] := hl
  unfold X2_isNumberUpTo at hm
  refine lv_aload_n hx hb dX2_isNumberUpTo_0 rfl (lv_at hl 0 rfl) ?_
  refine gRd_sort C hW q149 dX2_isNumberUpTo_1 ?_
  refine lv_iconst (v := 2) hx hb dX2_isNumberUpTo_4 (by decide) ?_
  refine lv_icmp_ne (tgt := 20) hx hb dX2_isNumberUpTo_5 (by decide) (fun hc1 => ?_) (fun hc1 => ?_)
  · rw [if_neg hc1] at hm
    refine lv_iconst (v := 0) hx hb dX2_isNumberUpTo_20 (by decide) ?_
    obtain rfl := Option.some.inj hm
    exact en_z C hr hlk rfl hW dX2_isNumberUpTo_21
  · rw [if_pos hc1] at hm
    refine lv_aload_n hx hb dX2_isNumberUpTo_8 rfl (lv_at hl 0 rfl) ?_
    refine gRd_number C hW q152 dX2_isNumberUpTo_9 ?_
    refine lv_iload_n hx hb dX2_isNumberUpTo_12 rfl (lv_at hl 1 rfl) ?_
    refine lv_icmp_gt (tgt := 20) hx hb dX2_isNumberUpTo_13 (by decide) (fun hc2 => ?_) (fun hc2 => ?_)
    · rw [if_pos hc2] at hm
      refine lv_iconst (v := 0) hx hb dX2_isNumberUpTo_20 (by decide) ?_
      obtain rfl := Option.some.inj hm
      exact en_z C hr hlk rfl hW dX2_isNumberUpTo_21
    · rw [if_neg hc2] at hm
      refine lv_iconst (v := 1) hx hb dX2_isNumberUpTo_16 (by decide) ?_
      refine lv_goto (tgt := 21) hx hb dX2_isNumberUpTo_17 (by decide) ?_
      obtain rfl := Option.some.inj hm
      exact en_z C hr hlk rfl hW dX2_isNumberUpTo_21
theorem kX2_isNumberUpTo : KM yX2_isNumberUpTo cX2_isNumberUpTo 2 (some .boolean) 1 := ⟨q683, q18, q69, q684, by decide +kernel, by decide +kernel, by decide +kernel⟩
def X2_isSign (σ : MS) (p1 : Int32) : Option (Int32) := if (σ 6 2) = (3 : Int32) then (ai (σ 6 3) 120 (if (σ 0 (Int32.toNatClampNeg (σ 6 3))) = p1 then (some (1 : Int32)) else (some (0 : Int32)))) else (some (0 : Int32))
set_option maxHeartbeats 4000000 in
set_option maxRecDepth 100000 in
theorem c_X2_isSign {l : Launch} {D : va_G} {cy cz : ClassId} {G : GT} {a : Nat → Nat} {σ : MS} {p1 : Int32} {r : Int32} (hm : X2_isSign σ p1 = some r) : CtI l D cy cz G yX2_isSign cX2_isSign 2 (some .boolean) 0 0 [.ref (a 0), .int p1] (cRd a cy σ) (cRd a cy σ) r := by
  refine ct_i (own := "PumpTalk$Reader") (by decide) rfl (Nat.le_of_ble_eq_true rfl) ?_
  intro p e s m below meth c ls A C hr hlk hW hl
  have hx := C.1
  have hb := C.2.1
  have hl : lv_has ls 2 [(0, .ref (a 0)), (1, .int p1)] := hl
  unfold X2_isSign at hm
  refine lv_aload_n hx hb dX2_isSign_0 rfl (lv_at hl 0 rfl) ?_
  refine gRd_sort C hW q149 dX2_isSign_1 ?_
  refine lv_iconst (v := 3) hx hb dX2_isSign_4 (by decide) ?_
  refine lv_icmp_ne (tgt := 25) hx hb dX2_isSign_5 (by decide) (fun hc1 => ?_) (fun hc1 => ?_)
  · rw [if_neg hc1] at hm
    refine lv_iconst (v := 0) hx hb dX2_isSign_25 (by decide) ?_
    obtain rfl := Option.some.inj hm
    exact en_z C hr hlk rfl hW dX2_isSign_26
  · rw [if_pos hc1] at hm
    refine lv_aload_n hx hb dX2_isSign_8 rfl (lv_at hl 0 rfl) ?_
    refine gRd_bytes C hW q146 dX2_isSign_9 ?_
    refine lv_aload_n hx hb dX2_isSign_12 rfl (lv_at hl 0 rfl) ?_
    refine gRd_start C hW q150 dX2_isSign_13 ?_
    obtain ⟨hi2, hm⟩ := mi_ai hm
    refine lRd_bytes C hW hi2 dX2_isSign_16 ?_
    refine lv_iload_n hx hb dX2_isSign_17 rfl (lv_at hl 1 rfl) ?_
    refine lv_icmp_ne (tgt := 25) hx hb dX2_isSign_18 (by decide) (fun hc3 => ?_) (fun hc3 => ?_)
    · rw [if_neg hc3] at hm
      refine lv_iconst (v := 0) hx hb dX2_isSign_25 (by decide) ?_
      obtain rfl := Option.some.inj hm
      exact en_z C hr hlk rfl hW dX2_isSign_26
    · rw [if_pos hc3] at hm
      refine lv_iconst (v := 1) hx hb dX2_isSign_21 (by decide) ?_
      refine lv_goto (tgt := 26) hx hb dX2_isSign_22 (by decide) ?_
      obtain rfl := Option.some.inj hm
      exact en_z C hr hlk rfl hW dX2_isSign_26
theorem kX2_isSign : KM yX2_isSign cX2_isSign 2 (some .boolean) 1 := ⟨q693, q20, q69, q694, by decide +kernel, by decide +kernel, by decide +kernel⟩
def X3_renew_b20 : Nat → MS → Int32 → Option (Int32 × MS)
  | 0, _, _ => none
  | n + 1, σ, x3 => if (σ 3 2) ≤ x3 then (some ((σ 3 2), σ)) else (ai x3 40 (X3_renew_b20 n (su σ 0 (Int32.toNatClampNeg x3) (0 : Int32)) ((x3 + (1 : Int32)))))
set_option maxHeartbeats 4000000 in
set_option maxRecDepth 100000 in
theorem wX3_renew_b20 {p : Program} {l : Launch} {e : Env} {s : State} {m : MethodId} {below : List Frame} {meth : Method} {c : Code} {D : va_G} {cy cz : ClassId} {G : GT} {A : Nat → Prop} {args : Array Value} {a : Nat → Nat} {r : Int32} {σr : MS} (C : Cx p s m args c cX3_renew 4 "PumpTalk$Sheet" D cy cz G A) (hr : meth.sig.returnType = some .int) (hlk : meth.locks = false) : ∀ (n : Nat) (σ : MS) (x3 : Int32) (H : Heap) (locs : List Loc) (ls : Array Slot), X3_renew_b20 n σ x3 = some (r, σr) → Wd D A s.heap H locs (cSh a cy σ) → lv_has ls 4 [(0, .ref (a 0)), (3, .int x3)] → W p l e (rmz 0 0) s m args below meth c H locs 0 0 (MQ below (QI D cy cz A (cSh a cy σr) r) args s 0 0 A) (F0 m 20 ls []) := by
  have hx := C.1
  have hb := C.2.1
  intro n
  induction n with
  | zero =>
    intro σ x3 H locs ls hm
    rw [X3_renew_b20] at hm
    cases hm
  | succ n ih =>
    intro σ x3 H locs ls hm hW hl
    rw [X3_renew_b20] at hm
    refine lv_iload_n hx hb dX3_renew_20 rfl (lv_at hl 1 rfl) ?_
    refine lv_aload_n hx hb dX3_renew_21 rfl (lv_at hl 0 rfl) ?_
    refine gSh_size C hW q190 dX3_renew_22 ?_
    refine lv_icmp_ge (tgt := 41) hx hb dX3_renew_25 (by decide) (fun hc1 => ?_) (fun hc1 => ?_)
    · rw [if_pos hc1] at hm
      refine lv_aload_n hx hb dX3_renew_41 rfl (lv_at hl 0 rfl) ?_
      refine gSh_size C hW q190 dX3_renew_42 ?_
      obtain ⟨rfl, rfl⟩ := Prod.mk.inj (Option.some.inj hm)
      exact en_i C hr hlk hW dX3_renew_45
    · rw [if_neg hc1] at hm
      refine lv_aload_n hx hb dX3_renew_28 rfl (lv_at hl 0 rfl) ?_
      refine gSh_numbers C hW q186 dX3_renew_29 ?_
      refine lv_iload_n hx hb dX3_renew_32 rfl (lv_at hl 1 rfl) ?_
      refine lv_iconst (v := 0) hx hb dX3_renew_33 (by decide) ?_
      obtain ⟨hi2, hm⟩ := mi_ai hm
      refine tSh_numbers C hW hi2 dX3_renew_34 (fun H locs hW => ?_)
      refine lv_iinc (v := (x3 + (1 : Int32))) (lv' := [(3, .int (x3 + (1 : Int32))), (0, .ref (a 0))]) hx hb dX3_renew_35 hl (k := 1) rfl (congrArg (fun z : Int32 => x3 + z) (by decide)) (by decide) rfl (fun ls hl => ?_)
      refine lv_goto (tgt := 20) hx hb dX3_renew_38 (by decide) ?_
      exact ih (su σ 0 (Int32.toNatClampNeg x3) (0 : Int32)) ((x3 + (1 : Int32))) _ _ _ hm hW (lv_sub hl [1, 0] rfl)
def X3_renew_b15 (σ : MS) (y1 : Int32) : Option (Int32 × MS) := X3_renew_b20 FU (su σ 3 2 y1) (0 : Int32)
set_option maxHeartbeats 4000000 in
set_option maxRecDepth 100000 in
theorem wX3_renew_b15 {p : Program} {l : Launch} {e : Env} {s : State} {m : MethodId} {below : List Frame} {meth : Method} {c : Code} {D : va_G} {cy cz : ClassId} {G : GT} {A : Nat → Prop} {args : Array Value} {a : Nat → Nat} {r : Int32} {σr : MS} (C : Cx p s m args c cX3_renew 4 "PumpTalk$Sheet" D cy cz G A) (hr : meth.sig.returnType = some .int) (hlk : meth.locks = false) : ∀ (σ : MS) (y1 : Int32) (H : Heap) (locs : List Loc) (ls : Array Slot), X3_renew_b15 σ y1 = some (r, σr) → Wd D A s.heap H locs (cSh a cy σ) → lv_has ls 4 [(0, .ref (a 0))] → W p l e (rmz 0 0) s m args below meth c H locs 0 0 (MQ below (QI D cy cz A (cSh a cy σr) r) args s 0 0 A) (F0 m 15 ls [.int y1, .ref (a 0)]) := by
  have hx := C.1
  have hb := C.2.1
  intro σ y1 H locs ls hm hW hl
  unfold X3_renew_b15 at hm
  refine pSh_size C hW q190 dX3_renew_15 (fun H locs hW => ?_)
  refine lv_iconst (v := 0) hx hb dX3_renew_18 (by decide) ?_
  refine lv_istore_n (lv' := [(3, .int (0 : Int32)), (0, .ref (a 0))]) hx hb dX3_renew_19 rfl hl (by decide) rfl (fun ls hl => ?_)
  exact wX3_renew_b20 C hr hlk FU (su σ 3 2 y1) (0 : Int32) _ _ _ hm hW (lv_sub hl [1, 0] rfl)
def X3_renew (σ : MS) (p1 : Int32) (p2 : Int32) : Option (Int32 × MS) := if p1 = (0 : Int32) then (X3_renew_b15 (su σ 3 1 p1) (0 : Int32)) else (X3_renew_b15 (su σ 3 1 p1) p2)
set_option maxHeartbeats 4000000 in
set_option maxRecDepth 100000 in
theorem c_X3_renew {l : Launch} {D : va_G} {cy cz : ClassId} {G : GT} {a : Nat → Nat} {σ : MS} {p1 : Int32} {p2 : Int32} {r : Int32} {σr : MS} (hm : X3_renew σ p1 p2 = some (r, σr)) : CtI l D cy cz G yX3_renew cX3_renew 4 (some .int) 0 0 [.ref (a 0), .int p1, .int p2] (cSh a cy σ) (cSh a cy σr) r := by
  refine ct_i (own := "PumpTalk$Sheet") (by decide) rfl (Nat.le_of_ble_eq_true rfl) ?_
  intro p e s m below meth c ls A C hr hlk hW hl
  have hx := C.1
  have hb := C.2.1
  have hl : lv_has ls 4 [(0, .ref (a 0)), (1, .int p1), (2, .int p2)] := hl
  unfold X3_renew at hm
  refine lv_aload_n hx hb dX3_renew_0 rfl (lv_at hl 0 rfl) ?_
  refine lv_iload_n hx hb dX3_renew_1 rfl (lv_at hl 1 rfl) ?_
  refine pSh_bits C hW q188 dX3_renew_2 (fun H locs hW => ?_)
  refine lv_aload_n hx hb dX3_renew_5 rfl (lv_at hl 0 rfl) ?_
  refine lv_iload_n hx hb dX3_renew_6 rfl (lv_at hl 1 rfl) ?_
  refine lv_if_ne (tgt := 14) hx hb dX3_renew_7 (by decide) (fun hc3 => ?_) (fun hc3 => ?_)
  · rw [if_neg hc3] at hm
    refine lv_iload_n hx hb dX3_renew_14 rfl (lv_at hl 2 rfl) ?_
    exact wX3_renew_b15 C hr hlk (su σ 3 1 p1) p2 _ _ _ hm hW (lv_sub hl [0] rfl)
  · rw [if_pos hc3] at hm
    refine lv_iconst (v := 0) hx hb dX3_renew_10 (by decide) ?_
    refine lv_goto (tgt := 15) hx hb dX3_renew_11 (by decide) ?_
    exact wX3_renew_b15 C hr hlk (su σ 3 1 p1) (0 : Int32) _ _ _ hm hW (lv_sub hl [0] rfl)
theorem kX3_renew : KM yX3_renew cX3_renew 4 (some .int) 2 := ⟨q728, q729, q71, q730, by decide +kernel, by decide +kernel, by decide +kernel⟩
def X3_put (σ : MS) (p1 : Int32) (p2 : Int32) : Option (MS) := ai p1 40 (some (su σ 0 (Int32.toNatClampNeg p1) ((p2 <<< (((32 : Int32) - (σ 3 1)) &&& 31)) >>> (((32 : Int32) - (σ 3 1)) &&& 31))))
set_option maxHeartbeats 4000000 in
set_option maxRecDepth 100000 in
theorem c_X3_put {l : Launch} {D : va_G} {cy cz : ClassId} {G : GT} {a : Nat → Nat} {σ : MS} {p1 : Int32} {p2 : Int32} {σr : MS} (hm : X3_put σ p1 p2 = some σr) : CtV l D cy cz G yX3_put cX3_put 4 none 0 0 [.ref (a 0), .int p1, .int p2] (cSh a cy σ) (cSh a cy σr) () := by
  refine ct_v (own := "PumpTalk$Sheet") (by decide) rfl (Nat.le_of_ble_eq_true rfl) ?_
  intro p e s m below meth c ls A C hr hlk hW hl
  have hx := C.1
  have hb := C.2.1
  have hl : lv_has ls 4 [(0, .ref (a 0)), (1, .int p1), (2, .int p2)] := hl
  unfold X3_put at hm
  refine lv_bipush (v := 32) hx hb dX3_put_0 (by decide) ?_
  refine lv_aload_n hx hb dX3_put_2 rfl (lv_at hl 0 rfl) ?_
  refine gSh_bits C hW q188 dX3_put_3 ?_
  refine lv_isub hx hb dX3_put_6 ?_
  refine lv_istore_n (lv' := [(3, .int ((32 : Int32) - (σ 3 1))), (0, .ref (a 0)), (1, .int p1), (2, .int p2)]) hx hb dX3_put_7 rfl hl (by decide) rfl (fun ls hl => ?_)
  refine lv_aload_n hx hb dX3_put_8 rfl (lv_at hl 1 rfl) ?_
  refine gSh_numbers C hW q186 dX3_put_9 ?_
  refine lv_iload_n hx hb dX3_put_12 rfl (lv_at hl 2 rfl) ?_
  refine lv_iload_n hx hb dX3_put_13 rfl (lv_at hl 3 rfl) ?_
  refine lv_iload_n hx hb dX3_put_14 rfl (lv_at hl 0 rfl) ?_
  refine lv_ishl hx hb dX3_put_15 ?_
  refine lv_iload_n hx hb dX3_put_16 rfl (lv_at hl 0 rfl) ?_
  refine lv_ishr hx hb dX3_put_17 ?_
  obtain ⟨hi1, hm⟩ := mi_ai hm
  refine tSh_numbers C hW hi1 dX3_put_18 (fun H locs hW => ?_)
  obtain rfl := Option.some.inj hm
  exact en_v C hr hlk hW dX3_put_19
theorem kX3_put : KM yX3_put cX3_put 4 none 2 := ⟨q736, q737, q71, q738, by decide +kernel, by decide +kernel, by decide +kernel⟩
def X3_hasRange (σ : MS) (p1 : Int32) (p2 : Int32) : Option (Int32) := if p1 < (0 : Int32) then (some (0 : Int32)) else (if p2 < (0 : Int32) then (some (0 : Int32)) else (if (σ 3 2) < p2 then (some (0 : Int32)) else (if ((σ 3 2) - p2) < p1 then (some (0 : Int32)) else (some (1 : Int32)))))
set_option maxHeartbeats 4000000 in
set_option maxRecDepth 100000 in
theorem c_X3_hasRange {l : Launch} {D : va_G} {cy cz : ClassId} {G : GT} {a : Nat → Nat} {σ : MS} {p1 : Int32} {p2 : Int32} {r : Int32} (hm : X3_hasRange σ p1 p2 = some r) : CtI l D cy cz G yX3_hasRange cX3_hasRange 3 (some .boolean) 0 0 [.ref (a 0), .int p1, .int p2] (cSh a cy σ) (cSh a cy σ) r := by
  refine ct_i (own := "PumpTalk$Sheet") (by decide) rfl (Nat.le_of_ble_eq_true rfl) ?_
  intro p e s m below meth c ls A C hr hlk hW hl
  have hx := C.1
  have hb := C.2.1
  have hl : lv_has ls 3 [(0, .ref (a 0)), (1, .int p1), (2, .int p2)] := hl
  unfold X3_hasRange at hm
  refine lv_iload_n hx hb dX3_hasRange_0 rfl (lv_at hl 1 rfl) ?_
  refine lv_if_lt (tgt := 30) hx hb dX3_hasRange_1 (by decide) (fun hc1 => ?_) (fun hc1 => ?_)
  · rw [if_pos hc1] at hm
    refine lv_iconst (v := 0) hx hb dX3_hasRange_30 (by decide) ?_
    obtain rfl := Option.some.inj hm
    exact en_z C hr hlk rfl hW dX3_hasRange_31
  · rw [if_neg hc1] at hm
    refine lv_iload_n hx hb dX3_hasRange_4 rfl (lv_at hl 2 rfl) ?_
    refine lv_if_lt (tgt := 30) hx hb dX3_hasRange_5 (by decide) (fun hc2 => ?_) (fun hc2 => ?_)
    · rw [if_pos hc2] at hm
      refine lv_iconst (v := 0) hx hb dX3_hasRange_30 (by decide) ?_
      obtain rfl := Option.some.inj hm
      exact en_z C hr hlk rfl hW dX3_hasRange_31
    · rw [if_neg hc2] at hm
      refine lv_iload_n hx hb dX3_hasRange_8 rfl (lv_at hl 2 rfl) ?_
      refine lv_aload_n hx hb dX3_hasRange_9 rfl (lv_at hl 0 rfl) ?_
      refine gSh_size C hW q190 dX3_hasRange_10 ?_
      refine lv_icmp_gt (tgt := 30) hx hb dX3_hasRange_13 (by decide) (fun hc3 => ?_) (fun hc3 => ?_)
      · rw [if_pos hc3] at hm
        refine lv_iconst (v := 0) hx hb dX3_hasRange_30 (by decide) ?_
        obtain rfl := Option.some.inj hm
        exact en_z C hr hlk rfl hW dX3_hasRange_31
      · rw [if_neg hc3] at hm
        refine lv_iload_n hx hb dX3_hasRange_16 rfl (lv_at hl 1 rfl) ?_
        refine lv_aload_n hx hb dX3_hasRange_17 rfl (lv_at hl 0 rfl) ?_
        refine gSh_size C hW q190 dX3_hasRange_18 ?_
        refine lv_iload_n hx hb dX3_hasRange_21 rfl (lv_at hl 2 rfl) ?_
        refine lv_isub hx hb dX3_hasRange_22 ?_
        refine lv_icmp_gt (tgt := 30) hx hb dX3_hasRange_23 (by decide) (fun hc4 => ?_) (fun hc4 => ?_)
        · rw [if_pos hc4] at hm
          refine lv_iconst (v := 0) hx hb dX3_hasRange_30 (by decide) ?_
          obtain rfl := Option.some.inj hm
          exact en_z C hr hlk rfl hW dX3_hasRange_31
        · rw [if_neg hc4] at hm
          refine lv_iconst (v := 1) hx hb dX3_hasRange_26 (by decide) ?_
          refine lv_goto (tgt := 31) hx hb dX3_hasRange_27 (by decide) ?_
          obtain rfl := Option.some.inj hm
          exact en_z C hr hlk rfl hW dX3_hasRange_31
theorem kX3_hasRange : KM yX3_hasRange cX3_hasRange 3 (some .boolean) 2 := ⟨q744, q745, q71, q746, by decide +kernel, by decide +kernel, by decide +kernel⟩
def X4_fullSpots_b4 (σ : MS) : Nat → Int32 → Int32 → Option (Int32)
  | 0, _, _ => none
  | n + 1, x1, x2 => if (10 : Int32) ≤ x2 then (some x1) else (ai x2 10 (if (σ 3 (Int32.toNatClampNeg x2)) = (-1 : Int32) then (X4_fullSpots_b4 σ n x1 ((x2 + (1 : Int32)))) else (X4_fullSpots_b4 σ n ((x1 + (1 : Int32))) ((x2 + (1 : Int32))))))
set_option maxHeartbeats 4000000 in
set_option maxRecDepth 100000 in
theorem wX4_fullSpots_b4 {p : Program} {l : Launch} {e : Env} {s : State} {m : MethodId} {below : List Frame} {meth : Method} {c : Code} {D : va_G} {cy cz : ClassId} {G : GT} {A : Nat → Prop} {args : Array Value} {a : Nat → Nat} {r : Int32} {σ : MS} (C : Cx p s m args c cX4_fullSpots 3 "PumpTalk$Square" D cy cz G A) (hr : meth.sig.returnType = some .int) (hlk : meth.locks = false) : ∀ (n : Nat) (x1 : Int32) (x2 : Int32) (H : Heap) (locs : List Loc) (ls : Array Slot), X4_fullSpots_b4 σ n x1 x2 = some r → Wd D A s.heap H locs (cSq a cy σ) → lv_has ls 3 [(0, .ref (a 0)), (1, .int x1), (2, .int x2)] → W p l e (rmz 0 0) s m args below meth c H locs 0 0 (MQ below (QI D cy cz A (cSq a cy σ) r) args s 0 0 A) (F0 m 4 ls []) := by
  have hx := C.1
  have hb := C.2.1
  intro n
  induction n with
  | zero =>
    intro x1 x2 H locs ls hm
    rw [X4_fullSpots_b4] at hm
    cases hm
  | succ n ih =>
    intro x1 x2 H locs ls hm hW hl
    rw [X4_fullSpots_b4] at hm
    refine lv_iload_n hx hb dX4_fullSpots_4 rfl (lv_at hl 2 rfl) ?_
    refine lv_bipush (v := 10) hx hb dX4_fullSpots_5 (by decide) ?_
    refine lv_icmp_ge (tgt := 29) hx hb dX4_fullSpots_7 (by decide) (fun hc1 => ?_) (fun hc1 => ?_)
    · rw [if_pos hc1] at hm
      refine lv_iload_n hx hb dX4_fullSpots_29 rfl (lv_at hl 1 rfl) ?_
      obtain rfl := Option.some.inj hm
      exact en_i C hr hlk hW dX4_fullSpots_30
    · rw [if_neg hc1] at hm
      refine lv_aload_n hx hb dX4_fullSpots_10 rfl (lv_at hl 0 rfl) ?_
      refine gSq_spots C hW q98 dX4_fullSpots_11 ?_
      refine lv_iload_n hx hb dX4_fullSpots_14 rfl (lv_at hl 2 rfl) ?_
      obtain ⟨hi2, hm⟩ := mi_ai hm
      refine lSq_spots C hW hi2 dX4_fullSpots_15 ?_
      refine lv_iconst (v := -1) hx hb dX4_fullSpots_16 (by decide) ?_
      refine lv_icmp_eq (tgt := 23) hx hb dX4_fullSpots_17 (by decide) (fun hc3 => ?_) (fun hc3 => ?_)
      · rw [if_pos hc3] at hm
        refine lv_iinc (v := (x2 + (1 : Int32))) (lv' := [(2, .int (x2 + (1 : Int32))), (0, .ref (a 0)), (1, .int x1)]) hx hb dX4_fullSpots_23 hl (k := 2) rfl (congrArg (fun z : Int32 => x2 + z) (by decide)) (by decide) rfl (fun ls hl => ?_)
        refine lv_goto (tgt := 4) hx hb dX4_fullSpots_26 (by decide) ?_
        exact ih x1 ((x2 + (1 : Int32))) _ _ _ hm hW (lv_sub hl [1, 2, 0] rfl)
      · rw [if_neg hc3] at hm
        refine lv_iinc (v := (x1 + (1 : Int32))) (lv' := [(1, .int (x1 + (1 : Int32))), (0, .ref (a 0)), (2, .int x2)]) hx hb dX4_fullSpots_20 hl (k := 1) rfl (congrArg (fun z : Int32 => x1 + z) (by decide)) (by decide) rfl (fun ls hl => ?_)
        refine lv_iinc (v := (x2 + (1 : Int32))) (lv' := [(2, .int (x2 + (1 : Int32))), (1, .int (x1 + (1 : Int32))), (0, .ref (a 0))]) hx hb dX4_fullSpots_23 hl (k := 2) rfl (congrArg (fun z : Int32 => x2 + z) (by decide)) (by decide) rfl (fun ls hl => ?_)
        refine lv_goto (tgt := 4) hx hb dX4_fullSpots_26 (by decide) ?_
        exact ih ((x1 + (1 : Int32))) ((x2 + (1 : Int32))) _ _ _ hm hW (lv_sub hl [2, 1, 0] rfl)
def X4_fullSpots (σ : MS) : Option (Int32) := X4_fullSpots_b4 σ FU (0 : Int32) (0 : Int32)
set_option maxHeartbeats 4000000 in
set_option maxRecDepth 100000 in
theorem c_X4_fullSpots {l : Launch} {D : va_G} {cy cz : ClassId} {G : GT} {a : Nat → Nat} {σ : MS} {r : Int32} (hm : X4_fullSpots σ = some r) : CtI l D cy cz G yX4_fullSpots cX4_fullSpots 3 (some .int) 0 0 [.ref (a 0)] (cSq a cy σ) (cSq a cy σ) r := by
  refine ct_i (own := "PumpTalk$Square") (by decide) rfl (Nat.le_of_ble_eq_true rfl) ?_
  intro p e s m below meth c ls A C hr hlk hW hl
  have hx := C.1
  have hb := C.2.1
  have hl : lv_has ls 3 [(0, .ref (a 0))] := hl
  unfold X4_fullSpots at hm
  refine lv_iconst (v := 0) hx hb dX4_fullSpots_0 (by decide) ?_
  refine lv_istore_n (lv' := [(1, .int (0 : Int32)), (0, .ref (a 0))]) hx hb dX4_fullSpots_1 rfl hl (by decide) rfl (fun ls hl => ?_)
  refine lv_iconst (v := 0) hx hb dX4_fullSpots_2 (by decide) ?_
  refine lv_istore_n (lv' := [(2, .int (0 : Int32)), (1, .int (0 : Int32)), (0, .ref (a 0))]) hx hb dX4_fullSpots_3 rfl hl (by decide) rfl (fun ls hl => ?_)
  exact wX4_fullSpots_b4 C hr hlk FU (0 : Int32) (0 : Int32) _ _ _ hm hW (lv_sub hl [2, 1, 0] rfl)
theorem kX4_fullSpots : KM yX4_fullSpots cX4_fullSpots 3 (some .int) 0 := ⟨q774, q775, q68, q776, by decide +kernel, by decide +kernel, by decide +kernel⟩
