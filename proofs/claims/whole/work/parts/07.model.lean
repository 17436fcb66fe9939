def X6_in (p1 : Int64) (p2 : Int64) (p3 : Int64) : Option (Int32) := if (lg_cmp p1 p2) < (0 : Int32) then (some (0 : Int32)) else (if (0 : Int32) < (lg_cmp p1 p3) then (some (0 : Int32)) else (some (1 : Int32)))
set_option maxHeartbeats 4000000 in
set_option maxRecDepth 100000 in
theorem c_X6_in {l : Launch} {D : va_G} {cy cz : ClassId} {G : GT} {p1 : Int64} {p2 : Int64} {p3 : Int64} {r : Int32} (hm : X6_in p1 p2 p3 = some r) : CtI l D cy cz G yX6_in cX6_in 6 (some .boolean) 0 0 [.long p1, .long p2, .long p3] ([] : va_W) ([] : va_W) r := by
  refine ct_i (own := "PumpTalkModel") (by decide) rfl (Nat.le_of_ble_eq_true rfl) ?_
  intro p e s m below meth c ls A C hr hlk hW hl
  have hx := C.1
  have hb := C.2.1
  have hl : lv_has ls 6 [(0, .long p1), (2, .long p2), (4, .long p3)] := hl
  unfold X6_in at hm
  refine lv_lload_n hx hb dX6_in_0 rfl (lv_at hl 0 rfl) ?_
  refine lv_lload_n hx hb dX6_in_1 rfl (lv_at hl 1 rfl) ?_
  refine W.lcmp hx hb dX6_in_2 ?_
  refine lv_if_lt (tgt := 17) hx hb dX6_in_3 (by decide) (fun hc1 => ?_) (fun hc1 => ?_)
  · rw [if_pos hc1] at hm
    refine lv_iconst (v := 0) hx hb dX6_in_17 (by decide) ?_
    obtain rfl := Option.some.inj hm
    exact en_z C hr hlk rfl hW dX6_in_18
  · rw [if_neg hc1] at hm
    refine lv_lload_n hx hb dX6_in_6 rfl (lv_at hl 0 rfl) ?_
    refine lv_lload hx hb dX6_in_7 (lv_at hl 2 rfl) ?_
    refine W.lcmp hx hb dX6_in_9 ?_
    refine lv_if_gt (tgt := 17) hx hb dX6_in_10 (by decide) (fun hc2 => ?_) (fun hc2 => ?_)
    · rw [if_pos hc2] at hm
      refine lv_iconst (v := 0) hx hb dX6_in_17 (by decide) ?_
      obtain rfl := Option.some.inj hm
      exact en_z C hr hlk rfl hW dX6_in_18
    · rw [if_neg hc2] at hm
      refine lv_iconst (v := 1) hx hb dX6_in_13 (by decide) ?_
      refine lv_goto (tgt := 18) hx hb dX6_in_14 (by decide) ?_
      obtain rfl := Option.some.inj hm
      exact en_z C hr hlk rfl hW dX6_in_18
theorem kX6_in : KS yX6_in cX6_in 6 (some .boolean) 3 := ⟨q863, q72, q864, by decide +kernel, by decide +kernel, by decide +kernel⟩
def X6_isKind (p1 : Int32) : Option (Int32) := (X6_in (Int32.toInt64 p1) (0 : Int64) (6 : Int64)).bind fun v2 => zb v2 (some v2)
set_option maxHeartbeats 4000000 in
set_option maxRecDepth 100000 in
theorem c_X6_isKind {l : Launch} {D : va_G} {cy cz : ClassId} {G : GT} {p1 : Int32} {r : Int32} (hm : X6_isKind p1 = some r) : CtI l D cy cz G yX6_isKind cX6_isKind 1 (some .boolean) 1 25 [.int p1] ([] : va_W) ([] : va_W) r := by
  refine ct_i (own := "PumpTalkModel") (by decide) rfl (Nat.le_of_ble_eq_true rfl) ?_
  intro p e s m below meth c ls A C hr hlk hW hl
  have hx := C.1
  have hb := C.2.1
  have hl : lv_has ls 1 [(0, .int p1)] := hl
  unfold X6_isKind at hm
  refine lv_iload_n hx hb dX6_isKind_0 rfl (lv_at hl 0 rfl) ?_
  refine lv_i2l hx hb dX6_isKind_1 rfl ?_
  refine lv_lconst (v := 0) hx hb dX6_isKind_2 (by decide) ?_
  refine lv_ldc2 hx hb C.2.2.2.1 (C.2.2.2.2.1 _ q861) dX6_isKind_3 ?_
  obtain ⟨v2, e1, hm⟩ := mi_bind hm
  refine cS_i (As := [.long (Int32.toInt64 p1), .long (0 : Int64), .long (6 : Int64)]) (rest := []) C hW (c_X6_in e1) kX6_in q862 rfl rfl hl.1 ⟨Nat.le_of_ble_eq_true rfl, Nat.le_of_ble_eq_true rfl⟩ ⟨Nat.le_refl 0, Nat.le_refl 0⟩ (Nat.le_of_ble_eq_true rfl) dX6_isKind_6 (fun H locs hW => ?_)
  obtain ⟨hz3, hm⟩ := mi_zb hm
  obtain rfl := Option.some.inj hm
  exact en_z C hr hlk hz3.1 hW dX6_isKind_9
theorem kX6_isKind : KS yX6_isKind cX6_isKind 1 (some .boolean) 1 := ⟨q859, q72, q860, by decide +kernel, by decide +kernel, by decide +kernel⟩
def X6_finds (σ : MS) (p1 : Int32) : Option (Int32 × MS) := ai ((-1000001 : Int32) - p1) 7 (ai ((-1000001 : Int32) - p1) 7 (some (p1, su σ 4 (Int32.toNatClampNeg ((-1000001 : Int32) - p1)) ((σ 4 (Int32.toNatClampNeg ((-1000001 : Int32) - p1))) + (1 : Int32)))))
set_option maxHeartbeats 4000000 in
set_option maxRecDepth 100000 in
theorem c_X6_finds {l : Launch} {D : va_G} {cy cz : ClassId} {G : GT} {a : Nat → Nat} {σ : MS} {p1 : Int32} {r : Int32} {σr : MS} (hm : X6_finds σ p1 = some (r, σr)) : CtI l D cy cz G yX6_finds cX6_finds 2 (some .int) 0 0 [.ref (a 0), .int p1] (cM a cy σ) (cM a cy σr) r := by
  refine ct_i (own := "PumpTalkModel") (by decide) rfl (Nat.le_of_ble_eq_true rfl) ?_
  intro p e s m below meth c ls A C hr hlk hW hl
  have hx := C.1
  have hb := C.2.1
  have hl : lv_has ls 2 [(0, .ref (a 0)), (1, .int p1)] := hl
  unfold X6_finds at hm
  refine lv_aload_n hx hb dX6_finds_0 rfl (lv_at hl 0 rfl) ?_
  refine gM_statuses C hW q791 dX6_finds_1 ?_
  refine lv_ldc hx hb C.2.2.2.1 (C.2.2.2.2.1 _ q865) dX6_finds_4 ?_
  refine lv_iload_n hx hb dX6_finds_6 rfl (lv_at hl 1 rfl) ?_
  refine lv_isub hx hb dX6_finds_7 ?_
  refine lv_dup2_11 hx hb dX6_finds_8 rfl rfl ?_
  obtain ⟨hi1, hm⟩ := mi_ai hm
  refine lM_statuses C hW hi1 dX6_finds_9 ?_
  refine lv_iconst (v := 1) hx hb dX6_finds_10 (by decide) ?_
  refine lv_iadd hx hb dX6_finds_11 ?_
  obtain ⟨hi2, hm⟩ := mi_ai hm
  refine tM_statuses C hW hi2 dX6_finds_12 (fun H locs hW => ?_)
  refine lv_iload_n hx hb dX6_finds_13 rfl (lv_at hl 1 rfl) ?_
  obtain ⟨rfl, rfl⟩ := Prod.mk.inj (Option.some.inj hm)
  exact en_i C hr hlk hW dX6_finds_14
theorem kX6_finds : KM yX6_finds cX6_finds 2 (some .int) 1 := ⟨q868, q23, q72, q869, by decide +kernel, by decide +kernel, by decide +kernel⟩
def X6_place (p1 : Int32) (p2 : Int32) : Option (Int32) := some (((7 : Int32) + ((8 : Int32) * p1)) + p2)
set_option maxHeartbeats 4000000 in
set_option maxRecDepth 100000 in
theorem c_X6_place {l : Launch} {D : va_G} {cy cz : ClassId} {G : GT} {p1 : Int32} {p2 : Int32} {r : Int32} (hm : X6_place p1 p2 = some r) : CtI l D cy cz G yX6_place cX6_place 2 (some .int) 0 0 [.int p1, .int p2] ([] : va_W) ([] : va_W) r := by
  refine ct_i (own := "PumpTalkModel") (by decide) rfl (Nat.le_of_ble_eq_true rfl) ?_
  intro p e s m below meth c ls A C hr hlk hW hl
  have hx := C.1
  have hb := C.2.1
  have hl : lv_has ls 2 [(0, .int p1), (1, .int p2)] := hl
  unfold X6_place at hm
  refine lv_bipush (v := 7) hx hb dX6_place_0 (by decide) ?_
  refine lv_bipush (v := 8) hx hb dX6_place_2 (by decide) ?_
  refine lv_iload_n hx hb dX6_place_4 rfl (lv_at hl 0 rfl) ?_
  refine lv_imul hx hb dX6_place_5 ?_
  refine lv_iadd hx hb dX6_place_6 ?_
  refine lv_iload_n hx hb dX6_place_7 rfl (lv_at hl 1 rfl) ?_
  refine lv_iadd hx hb dX6_place_8 ?_
  obtain rfl := Option.some.inj hm
  exact en_i C hr hlk hW dX6_place_9
theorem kX6_place : KS yX6_place cX6_place 2 (some .int) 2 := ⟨q876, q72, q877, by decide +kernel, by decide +kernel, by decide +kernel⟩
def X6_adds_b9 : Nat → MS → Int32 → Int32 → Int32 → Option (Int32 × MS)
  | 0, _, _, _, _ => none
  | n + 1, σ, x1, x2, x3 => if (8 : Int32) ≤ x3 then ((X6_place x2 (0 : Int32)).bind fun v3 => ai v3 81 ((X6_place x2 (1 : Int32)).bind fun v6 => ai v6 81 (some (x2, su (su (su σ 0 (Int32.toNatClampNeg v3) x1) 0 (Int32.toNatClampNeg v6) (3 : Int32)) 0 1 (((su (su σ 0 (Int32.toNatClampNeg v3) x1) 0 (Int32.toNatClampNeg v6) (3 : Int32)) 0 1) + (1 : Int32)))))) else ((X6_place x2 x3).bind fun v9 => ai v9 81 (X6_adds_b9 n (su σ 0 (Int32.toNatClampNeg v9) (0 : Int32)) x1 x2 ((x3 + (1 : Int32)))))
set_option maxHeartbeats 4000000 in
set_option maxRecDepth 100000 in
theorem wX6_adds_b9 {p : Program} {l : Launch} {e : Env} {s : State} {m : MethodId} {below : List Frame} {meth : Method} {c : Code} {D : va_G} {cy cz : ClassId} {G : GT} {A : Nat → Prop} {args : Array Value} {a : Nat → Nat} {r : Int32} {σr : MS} (C : Cx p s m args c cX6_adds 4 "PumpTalkModel" D cy cz G A) (hr : meth.sig.returnType = some .int) (hlk : meth.locks = false) : ∀ (n : Nat) (σ : MS) (x1 : Int32) (x2 : Int32) (x3 : Int32) (H : Heap) (locs : List Loc) (ls : Array Slot), X6_adds_b9 n σ x1 x2 x3 = some (r, σr) → Wd D A s.heap H locs (cM a cy σ) → lv_has ls 4 [(0, .ref (a 0)), (1, .int x1), (2, .int x2), (3, .int x3)] → W p l e (rmz 1 21) s m args below meth c H locs 0 0 (MQ below (QI D cy cz A (cM a cy σr) r) args s 0 0 A) (F0 m 9 ls []) := by
  have hx := C.1
  have hb := C.2.1
  intro n
  induction n with
  | zero =>
    intro σ x1 x2 x3 H locs ls hm
    rw [X6_adds_b9] at hm
    cases hm
  | succ n ih =>
    intro σ x1 x2 x3 H locs ls hm hW hl
    rw [X6_adds_b9] at hm
    refine lv_iload_n hx hb dX6_adds_9 rfl (lv_at hl 3 rfl) ?_
    refine lv_bipush (v := 8) hx hb dX6_adds_10 (by decide) ?_
    refine lv_icmp_ge (tgt := 32) hx hb dX6_adds_12 (by decide) (fun hc1 => ?_) (fun hc1 => ?_)
    · rw [if_pos hc1] at hm
      refine lv_aload_n hx hb dX6_adds_32 rfl (lv_at hl 0 rfl) ?_
      refine gM_s C hW q787 dX6_adds_33 ?_
      refine lv_iload_n hx hb dX6_adds_36 rfl (lv_at hl 2 rfl) ?_
      refine lv_iconst (v := 0) hx hb dX6_adds_37 (by decide) ?_
      obtain ⟨v3, e2, hm⟩ := mi_bind hm
      refine cS_i (As := [.int x2, .int (0 : Int32)]) (rest := [.ref (a 1)]) C hW (c_X6_place e2) kX6_place q875 rfl rfl hl.1 ⟨Nat.le_of_ble_eq_true rfl, Nat.le_of_ble_eq_true rfl⟩ ⟨Nat.le_refl 0, Nat.le_refl 0⟩ (Nat.le_of_ble_eq_true rfl) dX6_adds_38 (fun H locs hW => ?_)
      refine lv_iload_n hx hb dX6_adds_41 rfl (lv_at hl 1 rfl) ?_
      obtain ⟨hi4, hm⟩ := mi_ai hm
      refine tM_s C hW hi4 dX6_adds_42 (fun H locs hW => ?_)
      refine lv_aload_n hx hb dX6_adds_43 rfl (lv_at hl 0 rfl) ?_
      refine gM_s C hW q787 dX6_adds_44 ?_
      refine lv_iload_n hx hb dX6_adds_47 rfl (lv_at hl 2 rfl) ?_
      refine lv_iconst (v := 1) hx hb dX6_adds_48 (by decide) ?_
      obtain ⟨v6, e5, hm⟩ := mi_bind hm
      refine cS_i (As := [.int x2, .int (1 : Int32)]) (rest := [.ref (a 1)]) C hW (c_X6_place e5) kX6_place q875 rfl rfl hl.1 ⟨Nat.le_of_ble_eq_true rfl, Nat.le_of_ble_eq_true rfl⟩ ⟨Nat.le_refl 0, Nat.le_refl 0⟩ (Nat.le_of_ble_eq_true rfl) dX6_adds_49 (fun H locs hW => ?_)
      refine lv_iconst (v := 3) hx hb dX6_adds_52 (by decide) ?_
      obtain ⟨hi7, hm⟩ := mi_ai hm
      refine tM_s C hW hi7 dX6_adds_53 (fun H locs hW => ?_)
      refine lv_aload_n hx hb dX6_adds_54 rfl (lv_at hl 0 rfl) ?_
      refine gM_s C hW q787 dX6_adds_55 ?_
      refine lv_iconst (v := 1) hx hb dX6_adds_58 (by decide) ?_
      refine lv_dup2_11 hx hb dX6_adds_59 rfl rfl ?_
      refine lM_s_k (k := 1) C hW (by decide) (by decide) dX6_adds_60 ?_
      refine lv_iconst (v := 1) hx hb dX6_adds_61 (by decide) ?_
      refine lv_iadd hx hb dX6_adds_62 ?_
      refine tM_s_k (k := 1) C hW (by decide) (by decide) dX6_adds_63 (fun H locs hW => ?_)
      refine lv_iload_n hx hb dX6_adds_64 rfl (lv_at hl 2 rfl) ?_
      obtain ⟨rfl, rfl⟩ := Prod.mk.inj (Option.some.inj hm)
      exact en_i C hr hlk hW dX6_adds_65
    · rw [if_neg hc1] at hm
      refine lv_aload_n hx hb dX6_adds_15 rfl (lv_at hl 0 rfl) ?_
      refine gM_s C hW q787 dX6_adds_16 ?_
      refine lv_iload_n hx hb dX6_adds_19 rfl (lv_at hl 2 rfl) ?_
      refine lv_iload_n hx hb dX6_adds_20 rfl (lv_at hl 3 rfl) ?_
      obtain ⟨v9, e8, hm⟩ := mi_bind hm
      refine cS_i (As := [.int x2, .int x3]) (rest := [.ref (a 1)]) C hW (c_X6_place e8) kX6_place q875 rfl rfl hl.1 ⟨Nat.le_of_ble_eq_true rfl, Nat.le_of_ble_eq_true rfl⟩ ⟨Nat.le_refl 0, Nat.le_refl 0⟩ (Nat.le_of_ble_eq_true rfl) dX6_adds_21 (fun H locs hW => ?_)
      refine lv_iconst (v := 0) hx hb dX6_adds_24 (by decide) ?_
      obtain ⟨hi10, hm⟩ := mi_ai hm
      refine tM_s C hW hi10 dX6_adds_25 (fun H locs hW => ?_)
      refine lv_iinc (v := (x3 + (1 : Int32))) (lv' := [(3, .int (x3 + (1 : Int32))), (0, .ref (a 0)), (1, .int x1), (2, .int x2)]) hx hb dX6_adds_26 hl (k := 3) rfl (congrArg (fun z : Int32 => x3 + z) (by decide)) (by decide) rfl (fun ls hl => ?_)
      refine lv_goto (tgt := 9) hx hb dX6_adds_29 (by decide) ?_
      exact ih (su σ 0 (Int32.toNatClampNeg v9) (0 : Int32)) x1 x2 ((x3 + (1 : Int32))) _ _ _ hm hW (lv_sub hl [1, 2, 3, 0] rfl)
def X6_adds (σ : MS) (p1 : Int32) : Option (Int32 × MS) := X6_adds_b9 FU σ p1 (σ 0 1) (0 : Int32)
set_option maxHeartbeats 4000000 in
set_option maxRecDepth 100000 in
theorem c_X6_adds {l : Launch} {D : va_G} {cy cz : ClassId} {G : GT} {a : Nat → Nat} {σ : MS} {p1 : Int32} {r : Int32} {σr : MS} (hm : X6_adds σ p1 = some (r, σr)) : CtI l D cy cz G yX6_adds cX6_adds 4 (some .int) 1 21 [.ref (a 0), .int p1] (cM a cy σ) (cM a cy σr) r := by
  refine ct_i (own := "PumpTalkModel") (by decide) rfl (Nat.le_of_ble_eq_true rfl) ?_
  intro p e s m below meth c ls A C hr hlk hW hl
  have hx := C.1
  have hb := C.2.1
  have hl : lv_has ls 4 [(0, .ref (a 0)), (1, .int p1)] := hl
  unfold X6_adds at hm
  refine lv_aload_n hx hb dX6_adds_0 rfl (lv_at hl 0 rfl) ?_
  refine gM_s C hW q787 dX6_adds_1 ?_
  refine lv_iconst (v := 1) hx hb dX6_adds_4 (by decide) ?_
  refine lM_s_k (k := 1) C hW (by decide) (by decide) dX6_adds_5 ?_
  refine lv_istore_n (lv' := [(2, .int (σ 0 1)), (0, .ref (a 0)), (1, .int p1)]) hx hb dX6_adds_6 rfl hl (by decide) rfl (fun ls hl => ?_)
  refine lv_iconst (v := 0) hx hb dX6_adds_7 (by decide) ?_
  refine lv_istore_n (lv' := [(3, .int (0 : Int32)), (2, .int (σ 0 1)), (0, .ref (a 0)), (1, .int p1)]) hx hb dX6_adds_8 rfl hl (by decide) rfl (fun ls hl => ?_)
  exact wX6_adds_b9 C hr hlk FU σ p1 (σ 0 1) (0 : Int32) _ _ _ hm hW (lv_sub hl [2, 3, 1, 0] rfl)
theorem kX6_adds : KM yX6_adds cX6_adds 4 (some .int) 1 := ⟨q873, q24, q72, q874, by decide +kernel, by decide +kernel, by decide +kernel⟩
def X6_person (σ : MS) (p1 : Int32) : Option (Int32 × MS) := (X6_isKind p1).bind fun v2 => if v2 = (0 : Int32) then ((X6_finds σ (-1000001 : Int32)).bind fun q10 => some (q10.1, q10.2)) else (if (σ 0 1) = (8 : Int32) then ((X6_finds σ (-1000002 : Int32)).bind fun q8 => some (q8.1, q8.2)) else ((X6_adds σ p1).bind fun q6 => some (q6.1, q6.2)))
set_option maxHeartbeats 4000000 in
set_option maxRecDepth 100000 in
theorem c_X6_person {l : Launch} {D : va_G} {cy cz : ClassId} {G : GT} {a : Nat → Nat} {σ : MS} {p1 : Int32} {r : Int32} {σr : MS} (hm : X6_person σ p1 = some (r, σr)) : CtI l D cy cz G yX6_person cX6_person 2 (some .int) 2 45 [.ref (a 0), .int p1] (cM a cy σ) (cM a cy σr) r := by
  refine ct_i (own := "PumpTalkModel") (by decide) rfl (Nat.le_of_ble_eq_true rfl) ?_
  intro p e s m below meth c ls A C hr hlk hW hl
  have hx := C.1
  have hb := C.2.1
  have hl : lv_has ls 2 [(0, .ref (a 0)), (1, .int p1)] := hl
  unfold X6_person at hm
  refine lv_iload_n hx hb dX6_person_0 rfl (lv_at hl 1 rfl) ?_
  obtain ⟨v2, e1, hm⟩ := mi_bind hm
  refine cS_i (As := [.int p1]) (rest := []) C hW (c_X6_isKind e1) kX6_isKind q858 rfl rfl hl.1 ⟨Nat.le_of_ble_eq_true rfl, Nat.le_of_ble_eq_true rfl⟩ ⟨Nat.le_refl 0, Nat.le_refl 0⟩ (Nat.le_of_ble_eq_true rfl) dX6_person_1 (fun H locs hW => ?_)
  refine lv_if_ne (tgt := 14) hx hb dX6_person_4 (by decide) (fun hc3 => ?_) (fun hc3 => ?_)
  · rw [if_neg hc3] at hm
    refine lv_aload_n hx hb dX6_person_14 rfl (lv_at hl 0 rfl) ?_
    refine gM_s C hW q787 dX6_person_15 ?_
    refine lv_iconst (v := 1) hx hb dX6_person_18 (by decide) ?_
    refine lM_s_k (k := 1) C hW (by decide) (by decide) dX6_person_19 ?_
    refine lv_bipush (v := 8) hx hb dX6_person_20 (by decide) ?_
    refine lv_icmp_ne (tgt := 34) hx hb dX6_person_22 (by decide) (fun hc4 => ?_) (fun hc4 => ?_)
    · rw [if_neg hc4] at hm
      refine lv_aload_n hx hb dX6_person_34 rfl (lv_at hl 0 rfl) ?_
      refine lv_iload_n hx hb dX6_person_35 rfl (lv_at hl 1 rfl) ?_
      obtain ⟨q6, e5, hm⟩ := mi_bind hm
      refine cs_i (q0 := 0) (As := [.int p1]) (rest := []) C hW (c_X6_adds e5) kX6_adds q871 rfl rfl rfl rfl rfl hl.1 ⟨Nat.le_of_ble_eq_true rfl, Nat.le_of_ble_eq_true rfl⟩ ⟨Nat.le_refl 0, Nat.le_refl 0⟩ (Nat.le_of_ble_eq_true rfl) dX6_person_36 (fun H locs hW => ?_)
      obtain ⟨rfl, rfl⟩ := Prod.mk.inj (Option.some.inj hm)
      exact en_i C hr hlk hW dX6_person_39
    · rw [if_pos hc4] at hm
      refine lv_aload_n hx hb dX6_person_25 rfl (lv_at hl 0 rfl) ?_
      refine lv_ldc hx hb C.2.2.2.1 (C.2.2.2.2.1 _ q870) dX6_person_26 ?_
      obtain ⟨q8, e7, hm⟩ := mi_bind hm
      refine cs_i (q0 := 0) (As := [.int (-1000002 : Int32)]) (rest := []) C hW (c_X6_finds e7) kX6_finds q866 rfl rfl rfl rfl rfl hl.1 ⟨Nat.le_of_ble_eq_true rfl, Nat.le_of_ble_eq_true rfl⟩ ⟨Nat.le_refl 0, Nat.le_refl 0⟩ (Nat.le_of_ble_eq_true rfl) dX6_person_28 (fun H locs hW => ?_)
      refine lv_goto (tgt := 39) hx hb dX6_person_31 (by decide) ?_
      obtain ⟨rfl, rfl⟩ := Prod.mk.inj (Option.some.inj hm)
      exact en_i C hr hlk hW dX6_person_39
  · rw [if_pos hc3] at hm
    refine lv_aload_n hx hb dX6_person_7 rfl (lv_at hl 0 rfl) ?_
    refine lv_ldc hx hb C.2.2.2.1 (C.2.2.2.2.1 _ q865) dX6_person_8 ?_
    obtain ⟨q10, e9, hm⟩ := mi_bind hm
    refine cs_i (q0 := 0) (As := [.int (-1000001 : Int32)]) (rest := []) C hW (c_X6_finds e9) kX6_finds q866 rfl rfl rfl rfl rfl hl.1 ⟨Nat.le_of_ble_eq_true rfl, Nat.le_of_ble_eq_true rfl⟩ ⟨Nat.le_refl 0, Nat.le_refl 0⟩ (Nat.le_of_ble_eq_true rfl) dX6_person_10 (fun H locs hW => ?_)
    obtain ⟨rfl, rfl⟩ := Prod.mk.inj (Option.some.inj hm)
    exact en_i C hr hlk hW dX6_person_13
theorem kX6_person : KM yX6_person cX6_person 2 (some .int) 1 := ⟨q855, q856, q72, q857, by decide +kernel, by decide +kernel, by decide +kernel⟩
def X6_isPerson (σ : MS) (p1 : Int32) : Option (Int32) := (X6_in (Int32.toInt64 p1) (0 : Int64) (Int32.toInt64 ((σ 0 1) - (1 : Int32)))).bind fun v2 => zb v2 (some v2)
set_option maxHeartbeats 4000000 in
set_option maxRecDepth 100000 in
theorem c_X6_isPerson {l : Launch} {D : va_G} {cy cz : ClassId} {G : GT} {a : Nat → Nat} {σ : MS} {p1 : Int32} {r : Int32} (hm : X6_isPerson σ p1 = some r) : CtI l D cy cz G yX6_isPerson cX6_isPerson 2 (some .boolean) 1 25 [.ref (a 0), .int p1] (cM a cy σ) (cM a cy σ) r := by
  refine ct_i (own := "PumpTalkModel") (by decide) rfl (Nat.le_of_ble_eq_true rfl) ?_
  intro p e s m below meth c ls A C hr hlk hW hl
  have hx := C.1
  have hb := C.2.1
  have hl : lv_has ls 2 [(0, .ref (a 0)), (1, .int p1)] := hl
  unfold X6_isPerson at hm
  refine lv_iload_n hx hb dX6_isPerson_0 rfl (lv_at hl 1 rfl) ?_
  refine lv_i2l hx hb dX6_isPerson_1 rfl ?_
  refine lv_lconst (v := 0) hx hb dX6_isPerson_2 (by decide) ?_
  refine lv_aload_n hx hb dX6_isPerson_3 rfl (lv_at hl 0 rfl) ?_
  refine gM_s C hW q787 dX6_isPerson_4 ?_
  refine lv_iconst (v := 1) hx hb dX6_isPerson_7 (by decide) ?_
  refine lM_s_k (k := 1) C hW (by decide) (by decide) dX6_isPerson_8 ?_
  refine lv_iconst (v := 1) hx hb dX6_isPerson_9 (by decide) ?_
  refine lv_isub hx hb dX6_isPerson_10 ?_
  refine lv_i2l hx hb dX6_isPerson_11 rfl ?_
  obtain ⟨v2, e1, hm⟩ := mi_bind hm
  refine cS_i (As := [.long (Int32.toInt64 p1), .long (0 : Int64), .long (Int32.toInt64 ((σ 0 1) - (1 : Int32)))]) (rest := []) C hW (c_X6_in e1) kX6_in q862 rfl rfl hl.1 ⟨Nat.le_of_ble_eq_true rfl, Nat.le_of_ble_eq_true rfl⟩ ⟨Nat.le_refl 0, Nat.le_refl 0⟩ (Nat.le_of_ble_eq_true rfl) dX6_isPerson_12 (fun H locs hW => ?_)
  obtain ⟨hz3, hm⟩ := mi_zb hm
  obtain rfl := Option.some.inj hm
  exact en_z C hr hlk hz3.1 hW dX6_isPerson_15
theorem kX6_isPerson : KM yX6_isPerson cX6_isPerson 2 (some .boolean) 1 := ⟨q884, q25, q72, q885, by decide +kernel, by decide +kernel, by decide +kernel⟩
def X6_its (σ : MS) (p1 : Int32) (p2 : Int32) : Option (Int32) := (X6_place p1 p2).bind fun v2 => ai v2 81 (some (σ 0 (Int32.toNatClampNeg v2)))
set_option maxHeartbeats 4000000 in
set_option maxRecDepth 100000 in
theorem c_X6_its {l : Launch} {D : va_G} {cy cz : ClassId} {G : GT} {a : Nat → Nat} {σ : MS} {p1 : Int32} {p2 : Int32} {r : Int32} (hm : X6_its σ p1 p2 = some r) : CtI l D cy cz G yX6_its cX6_its 3 (some .int) 1 21 [.ref (a 0), .int p1, .int p2] (cM a cy σ) (cM a cy σ) r := by
  refine ct_i (own := "PumpTalkModel") (by decide) rfl (Nat.le_of_ble_eq_true rfl) ?_
  intro p e s m below meth c ls A C hr hlk hW hl
  have hx := C.1
  have hb := C.2.1
  have hl : lv_has ls 3 [(0, .ref (a 0)), (1, .int p1), (2, .int p2)] := hl
  unfold X6_its at hm
  refine lv_aload_n hx hb dX6_its_0 rfl (lv_at hl 0 rfl) ?_
  refine gM_s C hW q787 dX6_its_1 ?_
  refine lv_iload_n hx hb dX6_its_4 rfl (lv_at hl 1 rfl) ?_
  refine lv_iload_n hx hb dX6_its_5 rfl (lv_at hl 2 rfl) ?_
  obtain ⟨v2, e1, hm⟩ := mi_bind hm
  refine cS_i (As := [.int p1, .int p2]) (rest := [.ref (a 1)]) C hW (c_X6_place e1) kX6_place q875 rfl rfl hl.1 ⟨Nat.le_of_ble_eq_true rfl, Nat.le_of_ble_eq_true rfl⟩ ⟨Nat.le_refl 0, Nat.le_refl 0⟩ (Nat.le_of_ble_eq_true rfl) dX6_its_6 (fun H locs hW => ?_)
  obtain ⟨hi3, hm⟩ := mi_ai hm
  refine lM_s C hW hi3 dX6_its_9 ?_
  obtain rfl := Option.some.inj hm
  exact en_i C hr hlk hW dX6_its_10
theorem kX6_its : KM yX6_its cX6_its 3 (some .int) 2 := ⟨q889, q26, q72, q890, by decide +kernel, by decide +kernel, by decide +kernel⟩
def X6_of_b20 (σ : MS) : Option (Int32 × MS) := (X6_finds σ (-1000001 : Int32)).bind fun q2 => some (q2.1, q2.2)
set_option maxHeartbeats 4000000 in
set_option maxRecDepth 100000 in
theorem wX6_of_b20 {p : Program} {l : Launch} {e : Env} {s : State} {m : MethodId} {below : List Frame} {meth : Method} {c : Code} {D : va_G} {cy cz : ClassId} {G : GT} {A : Nat → Prop} {args : Array Value} {a : Nat → Nat} {r : Int32} {σr : MS} (C : Cx p s m args c cX6_of 3 "PumpTalkModel" D cy cz G A) (hr : meth.sig.returnType = some .int) (hlk : meth.locks = false) : ∀ (σ : MS) (H : Heap) (locs : List Loc) (ls : Array Slot), X6_of_b20 σ = some (r, σr) → Wd D A s.heap H locs (cM a cy σ) → lv_has ls 3 [(0, .ref (a 0))] → W p l e (rmz 2 46) s m args below meth c H locs 0 0 (MQ below (QI D cy cz A (cM a cy σr) r) args s 0 0 A) (F0 m 20 ls []) := by
  have hx := C.1
  have hb := C.2.1
  intro σ H locs ls hm hW hl
  unfold X6_of_b20 at hm
  refine lv_aload_n hx hb dX6_of_20 rfl (lv_at hl 0 rfl) ?_
  refine lv_ldc hx hb C.2.2.2.1 (C.2.2.2.2.1 _ q865) dX6_of_21 ?_
  obtain ⟨q2, e1, hm⟩ := mi_bind hm
  refine cs_i (q0 := 0) (As := [.int (-1000001 : Int32)]) (rest := []) C hW (c_X6_finds e1) kX6_finds q866 rfl rfl rfl rfl rfl hl.1 ⟨Nat.le_of_ble_eq_true rfl, Nat.le_of_ble_eq_true rfl⟩ ⟨Nat.le_refl 0, Nat.le_refl 0⟩ (Nat.le_of_ble_eq_true rfl) dX6_of_23 (fun H locs hW => ?_)
  obtain ⟨rfl, rfl⟩ := Prod.mk.inj (Option.some.inj hm)
  exact en_i C hr hlk hW dX6_of_26
def X6_of (σ : MS) (p1 : Int32) (p2 : Int32) : Option (Int32 × MS) := (X6_isPerson σ p1).bind fun v4 => if v4 = (0 : Int32) then (X6_of_b20 σ) else ((X6_in (Int32.toInt64 p2) (0 : Int64) (8 : Int64)).bind fun v7 => if v7 = (0 : Int32) then (X6_of_b20 σ) else (if (8 : Int32) ≤ p2 then (if p1 = (σ 0 5) then (some ((1 : Int32), σ)) else (if p1 = (σ 0 6) then (some ((1 : Int32), σ)) else (some ((0 : Int32), σ)))) else ((X6_its σ p1 p2).bind fun v13 => some (v13, σ))))
set_option maxHeartbeats 4000000 in
set_option maxRecDepth 100000 in
theorem c_X6_of {l : Launch} {D : va_G} {cy cz : ClassId} {G : GT} {a : Nat → Nat} {σ : MS} {p1 : Int32} {p2 : Int32} {r : Int32} {σr : MS} (hm : X6_of σ p1 p2 = some (r, σr)) : CtI l D cy cz G yX6_of cX6_of 3 (some .int) 2 46 [.ref (a 0), .int p1, .int p2] (cM a cy σ) (cM a cy σr) r := by
  refine ct_i (own := "PumpTalkModel") (by decide) rfl (Nat.le_of_ble_eq_true rfl) ?_
  intro p e s m below meth c ls A C hr hlk hW hl
  have hx := C.1
  have hb := C.2.1
  have hl : lv_has ls 3 [(0, .ref (a 0)), (1, .int p1), (2, .int p2)] := hl
  unfold X6_of at hm
  refine lv_aload_n hx hb dX6_of_0 rfl (lv_at hl 0 rfl) ?_
  refine lv_iload_n hx hb dX6_of_1 rfl (lv_at hl 1 rfl) ?_
  obtain ⟨v4, e3, hm⟩ := mi_bind hm
  refine cs_i (q0 := 0) (As := [.int p1]) (rest := []) C hW (c_X6_isPerson e3) kX6_isPerson q882 rfl rfl rfl rfl rfl hl.1 ⟨Nat.le_of_ble_eq_true rfl, Nat.le_of_ble_eq_true rfl⟩ ⟨Nat.le_refl 0, Nat.le_refl 0⟩ (Nat.le_of_ble_eq_true rfl) dX6_of_2 (fun H locs hW => ?_)
  refine lv_if_eq (tgt := 20) hx hb dX6_of_5 (by decide) (fun hc5 => ?_) (fun hc5 => ?_)
  · rw [if_pos hc5] at hm
    exact wX6_of_b20 C hr hlk σ _ _ _ hm hW (lv_sub hl [0] rfl)
  · rw [if_neg hc5] at hm
    refine lv_iload_n hx hb dX6_of_8 rfl (lv_at hl 2 rfl) ?_
    refine lv_i2l hx hb dX6_of_9 rfl ?_
    refine lv_lconst (v := 0) hx hb dX6_of_10 (by decide) ?_
    refine lv_ldc2 hx hb C.2.2.2.1 (C.2.2.2.2.1 _ q886) dX6_of_11 ?_
    obtain ⟨v7, e6, hm⟩ := mi_bind hm
    refine cS_i (As := [.long (Int32.toInt64 p2), .long (0 : Int64), .long (8 : Int64)]) (rest := []) C hW (c_X6_in e6) kX6_in q862 rfl rfl hl.1 ⟨Nat.le_of_ble_eq_true rfl, Nat.le_of_ble_eq_true rfl⟩ ⟨Nat.le_refl 0, Nat.le_refl 0⟩ (Nat.le_of_ble_eq_true rfl) dX6_of_14 (fun H locs hW => ?_)
    refine lv_if_ne (tgt := 27) hx hb dX6_of_17 (by decide) (fun hc8 => ?_) (fun hc8 => ?_)
    · rw [if_neg hc8] at hm
      refine lv_iload_n hx hb dX6_of_27 rfl (lv_at hl 2 rfl) ?_
      refine lv_bipush (v := 8) hx hb dX6_of_28 (by decide) ?_
      refine lv_icmp_ge (tgt := 42) hx hb dX6_of_30 (by decide) (fun hc9 => ?_) (fun hc9 => ?_)
      · rw [if_pos hc9] at hm
        refine lv_iload_n hx hb dX6_of_42 rfl (lv_at hl 1 rfl) ?_
        refine lv_aload_n hx hb dX6_of_43 rfl (lv_at hl 0 rfl) ?_
        refine gM_s C hW q787 dX6_of_44 ?_
        refine lv_iconst (v := 5) hx hb dX6_of_47 (by decide) ?_
        refine lM_s_k (k := 5) C hW (by decide) (by decide) dX6_of_48 ?_
        refine lv_icmp_eq (tgt := 63) hx hb dX6_of_49 (by decide) (fun hc10 => ?_) (fun hc10 => ?_)
        · rw [if_pos hc10] at hm
          refine lv_iconst (v := 1) hx hb dX6_of_63 (by decide) ?_
          refine lv_goto (tgt := 68) hx hb dX6_of_64 (by decide) ?_
          obtain ⟨rfl, rfl⟩ := Prod.mk.inj (Option.some.inj hm)
          exact en_i C hr hlk hW dX6_of_68
        · rw [if_neg hc10] at hm
          refine lv_iload_n hx hb dX6_of_52 rfl (lv_at hl 1 rfl) ?_
          refine lv_aload_n hx hb dX6_of_53 rfl (lv_at hl 0 rfl) ?_
          refine gM_s C hW q787 dX6_of_54 ?_
          refine lv_bipush (v := 6) hx hb dX6_of_57 (by decide) ?_
          refine lM_s_k (k := 6) C hW (by decide) (by decide) dX6_of_59 ?_
          refine lv_icmp_ne (tgt := 67) hx hb dX6_of_60 (by decide) (fun hc11 => ?_) (fun hc11 => ?_)
          · rw [if_neg hc11] at hm
            refine lv_iconst (v := 0) hx hb dX6_of_67 (by decide) ?_
            obtain ⟨rfl, rfl⟩ := Prod.mk.inj (Option.some.inj hm)
            exact en_i C hr hlk hW dX6_of_68
          · rw [if_pos hc11] at hm
            refine lv_iconst (v := 1) hx hb dX6_of_63 (by decide) ?_
            refine lv_goto (tgt := 68) hx hb dX6_of_64 (by decide) ?_
            obtain ⟨rfl, rfl⟩ := Prod.mk.inj (Option.some.inj hm)
            exact en_i C hr hlk hW dX6_of_68
      · rw [if_neg hc9] at hm
        refine lv_aload_n hx hb dX6_of_33 rfl (lv_at hl 0 rfl) ?_
        refine lv_iload_n hx hb dX6_of_34 rfl (lv_at hl 1 rfl) ?_
        refine lv_iload_n hx hb dX6_of_35 rfl (lv_at hl 2 rfl) ?_
        obtain ⟨v13, e12, hm⟩ := mi_bind hm
        refine cs_i (q0 := 0) (As := [.int p1, .int p2]) (rest := []) C hW (c_X6_its e12) kX6_its q887 rfl rfl rfl rfl rfl hl.1 ⟨Nat.le_of_ble_eq_true rfl, Nat.le_of_ble_eq_true rfl⟩ ⟨Nat.le_refl 0, Nat.le_refl 0⟩ (Nat.le_of_ble_eq_true rfl) dX6_of_36 (fun H locs hW => ?_)
        refine lv_goto (tgt := 68) hx hb dX6_of_39 (by decide) ?_
        obtain ⟨rfl, rfl⟩ := Prod.mk.inj (Option.some.inj hm)
        exact en_i C hr hlk hW dX6_of_68
    · rw [if_pos hc8] at hm
      exact wX6_of_b20 C hr hlk σ _ _ _ hm hW (lv_sub hl [0] rfl)
theorem kX6_of : KM yX6_of cX6_of 3 (some .int) 2 := ⟨q879, q880, q72, q881, by decide +kernel, by decide +kernel, by decide +kernel⟩
def X6_isView (p1 : Int32) : Option (Int32) := (X6_in (Int32.toInt64 p1) (-9 : Int64) (9 : Int64)).bind fun v2 => zb v2 (some v2)
set_option maxHeartbeats 4000000 in
set_option maxRecDepth 100000 in
theorem c_X6_isView {l : Launch} {D : va_G} {cy cz : ClassId} {G : GT} {p1 : Int32} {r : Int32} (hm : X6_isView p1 = some r) : CtI l D cy cz G yX6_isView cX6_isView 1 (some .boolean) 1 25 [.int p1] ([] : va_W) ([] : va_W) r := by
  refine ct_i (own := "PumpTalkModel") (by decide) rfl (Nat.le_of_ble_eq_true rfl) ?_
  intro p e s m below meth c ls A C hr hlk hW hl
  have hx := C.1
  have hb := C.2.1
  have hl : lv_has ls 1 [(0, .int p1)] := hl
  unfold X6_isView at hm
  refine lv_iload_n hx hb dX6_isView_0 rfl (lv_at hl 0 rfl) ?_
  refine lv_i2l hx hb dX6_isView_1 rfl ?_
  refine lv_ldc2 hx hb C.2.2.2.1 (C.2.2.2.2.1 _ q901) dX6_isView_2 ?_
  refine lv_ldc2 hx hb C.2.2.2.1 (C.2.2.2.2.1 _ q895) dX6_isView_5 ?_
  obtain ⟨v2, e1, hm⟩ := mi_bind hm
  refine cS_i (As := [.long (Int32.toInt64 p1), .long (-9 : Int64), .long (9 : Int64)]) (rest := []) C hW (c_X6_in e1) kX6_in q862 rfl rfl hl.1 ⟨Nat.le_of_ble_eq_true rfl, Nat.le_of_ble_eq_true rfl⟩ ⟨Nat.le_refl 0, Nat.le_refl 0⟩ (Nat.le_of_ble_eq_true rfl) dX6_isView_8 (fun H locs hW => ?_)
  obtain ⟨hz3, hm⟩ := mi_zb hm
  obtain rfl := Option.some.inj hm
  exact en_z C hr hlk hz3.1 hW dX6_isView_11
theorem kX6_isView : KS yX6_isView cX6_isView 1 (some .boolean) 1 := ⟨q899, q72, q900, by decide +kernel, by decide +kernel, by decide +kernel⟩
def X6_becomes (σ : MS) (p1 : Int32) (p2 : Int32) : Option (Int32 × MS) := ai p1 81 (ai p1 81 (some ((σ 0 (Int32.toNatClampNeg p1)), su σ 0 (Int32.toNatClampNeg p1) p2)))
set_option maxHeartbeats 4000000 in
set_option maxRecDepth 100000 in
theorem c_X6_becomes {l : Launch} {D : va_G} {cy cz : ClassId} {G : GT} {a : Nat → Nat} {σ : MS} {p1 : Int32} {p2 : Int32} {r : Int32} {σr : MS} (hm : X6_becomes σ p1 p2 = some (r, σr)) : CtI l D cy cz G yX6_becomes cX6_becomes 4 (some .int) 0 0 [.ref (a 0), .int p1, .int p2] (cM a cy σ) (cM a cy σr) r := by
  refine ct_i (own := "PumpTalkModel") (by decide) rfl (Nat.le_of_ble_eq_true rfl) ?_
  intro p e s m below meth c ls A C hr hlk hW hl
  have hx := C.1
  have hb := C.2.1
  have hl : lv_has ls 4 [(0, .ref (a 0)), (1, .int p1), (2, .int p2)] := hl
  unfold X6_becomes at hm
  refine lv_aload_n hx hb dX6_becomes_0 rfl (lv_at hl 0 rfl) ?_
  refine gM_s C hW q787 dX6_becomes_1 ?_
  refine lv_iload_n hx hb dX6_becomes_4 rfl (lv_at hl 1 rfl) ?_
  obtain ⟨hi1, hm⟩ := mi_ai hm
  refine lM_s C hW hi1 dX6_becomes_5 ?_
  refine lv_istore_n (lv' := [(3, .int (σ 0 (Int32.toNatClampNeg p1))), (0, .ref (a 0)), (1, .int p1), (2, .int p2)]) hx hb dX6_becomes_6 rfl hl (by decide) rfl (fun ls hl => ?_)
  refine lv_aload_n hx hb dX6_becomes_7 rfl (lv_at hl 1 rfl) ?_
  refine gM_s C hW q787 dX6_becomes_8 ?_
  refine lv_iload_n hx hb dX6_becomes_11 rfl (lv_at hl 2 rfl) ?_
  refine lv_iload_n hx hb dX6_becomes_12 rfl (lv_at hl 3 rfl) ?_
  obtain ⟨hi2, hm⟩ := mi_ai hm
  refine tM_s C hW hi2 dX6_becomes_13 (fun H locs hW => ?_)
  refine lv_iload_n hx hb dX6_becomes_14 rfl (lv_at hl 0 rfl) ?_
  obtain ⟨rfl, rfl⟩ := Prod.mk.inj (Option.some.inj hm)
  exact en_i C hr hlk hW dX6_becomes_15
theorem kX6_becomes : KM yX6_becomes cX6_becomes 4 (some .int) 2 := ⟨q904, q27, q72, q905, by decide +kernel, by decide +kernel, by decide +kernel⟩
def X6_change_b82 (σ : MS) : Option (Int32 × MS) := (X6_finds σ (-1000001 : Int32)).bind fun q2 => some (q2.1, q2.2)
set_option maxHeartbeats 4000000 in
set_option maxRecDepth 100000 in
theorem wX6_change_b82 {p : Program} {l : Launch} {e : Env} {s : State} {m : MethodId} {below : List Frame} {meth : Method} {c : Code} {D : va_G} {cy cz : ClassId} {G : GT} {A : Nat → Prop} {args : Array Value} {a : Nat → Nat} {r : Int32} {σr : MS} (C : Cx p s m args c cX6_change 5 "PumpTalkModel" D cy cz G A) (hr : meth.sig.returnType = some .int) (hlk : meth.locks = false) : ∀ (σ : MS) (H : Heap) (locs : List Loc) (ls : Array Slot), X6_change_b82 σ = some (r, σr) → Wd D A s.heap H locs (cM a cy σ) → lv_has ls 5 [(0, .ref (a 0))] → W p l e (rmz 2 46) s m args below meth c H locs 0 0 (MQ below (QI D cy cz A (cM a cy σr) r) args s 0 0 A) (F0 m 82 ls []) := by
  have hx := C.1
  have hb := C.2.1
  intro σ H locs ls hm hW hl
  unfold X6_change_b82 at hm
  refine lv_aload_n hx hb dX6_change_82 rfl (lv_at hl 0 rfl) ?_
  refine lv_ldc hx hb C.2.2.2.1 (C.2.2.2.2.1 _ q865) dX6_change_83 ?_
  obtain ⟨q2, e1, hm⟩ := mi_bind hm
  refine cs_i (q0 := 0) (As := [.int (-1000001 : Int32)]) (rest := []) C hW (c_X6_finds e1) kX6_finds q866 rfl rfl rfl rfl rfl hl.1 ⟨Nat.le_of_ble_eq_true rfl, Nat.le_of_ble_eq_true rfl⟩ ⟨Nat.le_refl 0, Nat.le_refl 0⟩ (Nat.le_of_ble_eq_true rfl) dX6_change_85 (fun H locs hW => ?_)
  obtain ⟨rfl, rfl⟩ := Prod.mk.inj (Option.some.inj hm)
  exact en_i C hr hlk hW dX6_change_88
def X6_change_b54 (σ : MS) (x1 : Int32) (x2 : Int32) (x3 : Int32) (y0 : Int32) : Option (Int32 × MS) := (X6_isPerson σ x1).bind fun v4 => if v4 = (0 : Int32) then (X6_change_b82 σ) else (if y0 = (0 : Int32) then (X6_change_b82 σ) else ((X6_place x1 x2).bind fun v8 => (X6_becomes σ v8 x3).bind fun q10 => some (q10.1, q10.2)))
set_option maxHeartbeats 4000000 in
set_option maxRecDepth 100000 in
theorem wX6_change_b54 {p : Program} {l : Launch} {e : Env} {s : State} {m : MethodId} {below : List Frame} {meth : Method} {c : Code} {D : va_G} {cy cz : ClassId} {G : GT} {A : Nat → Prop} {args : Array Value} {a : Nat → Nat} {r : Int32} {σr : MS} (C : Cx p s m args c cX6_change 5 "PumpTalkModel" D cy cz G A) (hr : meth.sig.returnType = some .int) (hlk : meth.locks = false) : ∀ (σ : MS) (x1 : Int32) (x2 : Int32) (x3 : Int32) (y0 : Int32) (H : Heap) (locs : List Loc) (ls : Array Slot), X6_change_b54 σ x1 x2 x3 y0 = some (r, σr) → Wd D A s.heap H locs (cM a cy σ) → lv_has ls 5 [(0, .ref (a 0)), (1, .int x1), (2, .int x2), (3, .int x3)] → W p l e (rmz 2 46) s m args below meth c H locs 0 0 (MQ below (QI D cy cz A (cM a cy σr) r) args s 0 0 A) (F0 m 54 ls [.int y0]) := by
  have hx := C.1
  have hb := C.2.1
  intro σ x1 x2 x3 y0 H locs ls hm hW hl
  unfold X6_change_b54 at hm
  refine lv_istore (lv' := [(4, .int y0), (0, .ref (a 0)), (1, .int x1), (2, .int x2), (3, .int x3)]) hx hb dX6_change_54 hl (by decide) rfl (fun ls hl => ?_)
  refine lv_aload_n hx hb dX6_change_56 rfl (lv_at hl 1 rfl) ?_
  refine lv_iload_n hx hb dX6_change_57 rfl (lv_at hl 2 rfl) ?_
  obtain ⟨v4, e3, hm⟩ := mi_bind hm
  refine cs_i (q0 := 0) (As := [.int x1]) (rest := []) C hW (c_X6_isPerson e3) kX6_isPerson q882 rfl rfl rfl rfl rfl hl.1 ⟨Nat.le_of_ble_eq_true rfl, Nat.le_of_ble_eq_true rfl⟩ ⟨Nat.le_refl 0, Nat.le_refl 0⟩ (Nat.le_of_ble_eq_true rfl) dX6_change_58 (fun H locs hW => ?_)
  refine lv_if_eq (tgt := 82) hx hb dX6_change_61 (by decide) (fun hc5 => ?_) (fun hc5 => ?_)
  · rw [if_pos hc5] at hm
    exact wX6_change_b82 C hr hlk σ _ _ _ hm hW (lv_sub hl [1] rfl)
  · rw [if_neg hc5] at hm
    refine lv_iload hx hb dX6_change_64 (lv_at hl 0 rfl) ?_
    refine lv_if_eq (tgt := 82) hx hb dX6_change_66 (by decide) (fun hc6 => ?_) (fun hc6 => ?_)
    · rw [if_pos hc6] at hm
      exact wX6_change_b82 C hr hlk σ _ _ _ hm hW (lv_sub hl [1] rfl)
    · rw [if_neg hc6] at hm
      refine lv_aload_n hx hb dX6_change_69 rfl (lv_at hl 1 rfl) ?_
      refine lv_iload_n hx hb dX6_change_70 rfl (lv_at hl 2 rfl) ?_
      refine lv_iload_n hx hb dX6_change_71 rfl (lv_at hl 3 rfl) ?_
      obtain ⟨v8, e7, hm⟩ := mi_bind hm
      refine cS_i (As := [.int x1, .int x2]) (rest := [.ref (a 0)]) C hW (c_X6_place e7) kX6_place q875 rfl rfl hl.1 ⟨Nat.le_of_ble_eq_true rfl, Nat.le_of_ble_eq_true rfl⟩ ⟨Nat.le_refl 0, Nat.le_refl 0⟩ (Nat.le_of_ble_eq_true rfl) dX6_change_72 (fun H locs hW => ?_)
      refine lv_iload_n hx hb dX6_change_75 rfl (lv_at hl 4 rfl) ?_
      obtain ⟨q10, e9, hm⟩ := mi_bind hm
      refine cs_i (q0 := 0) (As := [.int v8, .int x3]) (rest := []) C hW (c_X6_becomes e9) kX6_becomes q902 rfl rfl rfl rfl rfl hl.1 ⟨Nat.le_of_ble_eq_true rfl, Nat.le_of_ble_eq_true rfl⟩ ⟨Nat.le_refl 0, Nat.le_refl 0⟩ (Nat.le_of_ble_eq_true rfl) dX6_change_76 (fun H locs hW => ?_)
      refine lv_goto (tgt := 88) hx hb dX6_change_79 (by decide) ?_
      obtain ⟨rfl, rfl⟩ := Prod.mk.inj (Option.some.inj hm)
      exact en_i C hr hlk hW dX6_change_88
def X6_change_b53 (σ : MS) (x1 : Int32) (x2 : Int32) (x3 : Int32) : Option (Int32 × MS) := X6_change_b54 σ x1 x2 x3 (0 : Int32)
set_option maxHeartbeats 4000000 in
set_option maxRecDepth 100000 in
theorem wX6_change_b53 {p : Program} {l : Launch} {e : Env} {s : State} {m : MethodId} {below : List Frame} {meth : Method} {c : Code} {D : va_G} {cy cz : ClassId} {G : GT} {A : Nat → Prop} {args : Array Value} {a : Nat → Nat} {r : Int32} {σr : MS} (C : Cx p s m args c cX6_change 5 "PumpTalkModel" D cy cz G A) (hr : meth.sig.returnType = some .int) (hlk : meth.locks = false) : ∀ (σ : MS) (x1 : Int32) (x2 : Int32) (x3 : Int32) (H : Heap) (locs : List Loc) (ls : Array Slot), X6_change_b53 σ x1 x2 x3 = some (r, σr) → Wd D A s.heap H locs (cM a cy σ) → lv_has ls 5 [(0, .ref (a 0)), (1, .int x1), (2, .int x2), (3, .int x3)] → W p l e (rmz 2 46) s m args below meth c H locs 0 0 (MQ below (QI D cy cz A (cM a cy σr) r) args s 0 0 A) (F0 m 53 ls []) := by
  have hx := C.1
  have hb := C.2.1
  intro σ x1 x2 x3 H locs ls hm hW hl
  unfold X6_change_b53 at hm
  refine lv_iconst (v := 0) hx hb dX6_change_53 (by decide) ?_
  exact wX6_change_b54 C hr hlk σ x1 x2 x3 (0 : Int32) _ _ _ hm hW (lv_sub hl [0, 1, 2, 3] rfl)
def X6_change (σ : MS) (p1 : Int32) (p2 : Int32) (p3 : Int32) : Option (Int32 × MS) := if p2 = (0 : Int32) then ((X6_isKind p3).bind fun v22 => X6_change_b54 σ p1 p2 p3 v22) else (if p2 = (1 : Int32) then ((X6_in (Int32.toInt64 p3) (0 : Int64) (9 : Int64)).bind fun v20 => X6_change_b54 σ p1 p2 p3 v20) else ((X6_in (Int32.toInt64 p2) (2 : Int64) (7 : Int64)).bind fun v14 => if v14 = (0 : Int32) then (X6_change_b53 σ p1 p2 p3) else ((X6_isView p3).bind fun v17 => if v17 = (0 : Int32) then (X6_change_b53 σ p1 p2 p3) else (X6_change_b54 σ p1 p2 p3 (1 : Int32)))))
set_option maxHeartbeats 4000000 in
set_option maxRecDepth 100000 in
theorem c_X6_change {l : Launch} {D : va_G} {cy cz : ClassId} {G : GT} {a : Nat → Nat} {σ : MS} {p1 : Int32} {p2 : Int32} {p3 : Int32} {r : Int32} {σr : MS} (hm : X6_change σ p1 p2 p3 = some (r, σr)) : CtI l D cy cz G yX6_change cX6_change 5 (some .int) 2 46 [.ref (a 0), .int p1, .int p2, .int p3] (cM a cy σ) (cM a cy σr) r := by
  refine ct_i (own := "PumpTalkModel") (by decide) rfl (Nat.le_of_ble_eq_true rfl) ?_
  intro p e s m below meth c ls A C hr hlk hW hl
  have hx := C.1
  have hb := C.2.1
  have hl : lv_has ls 5 [(0, .ref (a 0)), (1, .int p1), (2, .int p2), (3, .int p3)] := hl
  unfold X6_change at hm
  refine lv_iload_n hx hb dX6_change_0 rfl (lv_at hl 2 rfl) ?_
  refine lv_if_ne (tgt := 11) hx hb dX6_change_1 (by decide) (fun hc11 => ?_) (fun hc11 => ?_)
  · rw [if_neg hc11] at hm
    refine lv_iload_n hx hb dX6_change_11 rfl (lv_at hl 2 rfl) ?_
    refine lv_iconst (v := 1) hx hb dX6_change_12 (by decide) ?_
    refine lv_icmp_ne (tgt := 28) hx hb dX6_change_13 (by decide) (fun hc12 => ?_) (fun hc12 => ?_)
    · rw [if_neg hc12] at hm
      refine lv_iload_n hx hb dX6_change_28 rfl (lv_at hl 2 rfl) ?_
      refine lv_i2l hx hb dX6_change_29 rfl ?_
      refine lv_ldc2 hx hb C.2.2.2.1 (C.2.2.2.2.1 _ q896) dX6_change_30 ?_
      refine lv_ldc2 hx hb C.2.2.2.1 (C.2.2.2.2.1 _ q897) dX6_change_33 ?_
      obtain ⟨v14, e13, hm⟩ := mi_bind hm
      refine cS_i (As := [.long (Int32.toInt64 p2), .long (2 : Int64), .long (7 : Int64)]) (rest := []) C hW (c_X6_in e13) kX6_in q862 rfl rfl hl.1 ⟨Nat.le_of_ble_eq_true rfl, Nat.le_of_ble_eq_true rfl⟩ ⟨Nat.le_refl 0, Nat.le_refl 0⟩ (Nat.le_of_ble_eq_true rfl) dX6_change_36 (fun H locs hW => ?_)
      refine lv_if_eq (tgt := 53) hx hb dX6_change_39 (by decide) (fun hc15 => ?_) (fun hc15 => ?_)
      · rw [if_pos hc15] at hm
        exact wX6_change_b53 C hr hlk σ p1 p2 p3 _ _ _ hm hW (lv_sub hl [0, 1, 2, 3] rfl)
      · rw [if_neg hc15] at hm
        refine lv_iload_n hx hb dX6_change_42 rfl (lv_at hl 3 rfl) ?_
        obtain ⟨v17, e16, hm⟩ := mi_bind hm
        refine cS_i (As := [.int p3]) (rest := []) C hW (c_X6_isView e16) kX6_isView q898 rfl rfl hl.1 ⟨Nat.le_of_ble_eq_true rfl, Nat.le_of_ble_eq_true rfl⟩ ⟨Nat.le_refl 0, Nat.le_refl 0⟩ (Nat.le_of_ble_eq_true rfl) dX6_change_43 (fun H locs hW => ?_)
        refine lv_if_eq (tgt := 53) hx hb dX6_change_46 (by decide) (fun hc18 => ?_) (fun hc18 => ?_)
        · rw [if_pos hc18] at hm
          exact wX6_change_b53 C hr hlk σ p1 p2 p3 _ _ _ hm hW (lv_sub hl [0, 1, 2, 3] rfl)
        · rw [if_neg hc18] at hm
          refine lv_iconst (v := 1) hx hb dX6_change_49 (by decide) ?_
          refine lv_goto (tgt := 54) hx hb dX6_change_50 (by decide) ?_
          exact wX6_change_b54 C hr hlk σ p1 p2 p3 (1 : Int32) _ _ _ hm hW (lv_sub hl [0, 1, 2, 3] rfl)
    · rw [if_pos hc12] at hm
      refine lv_iload_n hx hb dX6_change_16 rfl (lv_at hl 3 rfl) ?_
      refine lv_i2l hx hb dX6_change_17 rfl ?_
      refine lv_lconst (v := 0) hx hb dX6_change_18 (by decide) ?_
      refine lv_ldc2 hx hb C.2.2.2.1 (C.2.2.2.2.1 _ q895) dX6_change_19 ?_
      obtain ⟨v20, e19, hm⟩ := mi_bind hm
      refine cS_i (As := [.long (Int32.toInt64 p3), .long (0 : Int64), .long (9 : Int64)]) (rest := []) C hW (c_X6_in e19) kX6_in q862 rfl rfl hl.1 ⟨Nat.le_of_ble_eq_true rfl, Nat.le_of_ble_eq_true rfl⟩ ⟨Nat.le_refl 0, Nat.le_refl 0⟩ (Nat.le_of_ble_eq_true rfl) dX6_change_22 (fun H locs hW => ?_)
      refine lv_goto (tgt := 54) hx hb dX6_change_25 (by decide) ?_
      exact wX6_change_b54 C hr hlk σ p1 p2 p3 v20 _ _ _ hm hW (lv_sub hl [0, 1, 2, 3] rfl)
  · rw [if_pos hc11] at hm
    refine lv_iload_n hx hb dX6_change_4 rfl (lv_at hl 3 rfl) ?_
    obtain ⟨v22, e21, hm⟩ := mi_bind hm
    refine cS_i (As := [.int p3]) (rest := []) C hW (c_X6_isKind e21) kX6_isKind q858 rfl rfl hl.1 ⟨Nat.le_of_ble_eq_true rfl, Nat.le_of_ble_eq_true rfl⟩ ⟨Nat.le_refl 0, Nat.le_refl 0⟩ (Nat.le_of_ble_eq_true rfl) dX6_change_5 (fun H locs hW => ?_)
    refine lv_goto (tgt := 54) hx hb dX6_change_8 (by decide) ?_
    exact wX6_change_b54 C hr hlk σ p1 p2 p3 v22 _ _ _ hm hW (lv_sub hl [0, 1, 2, 3] rfl)
theorem kX6_change : KM yX6_change cX6_change 5 (some .int) 3 := ⟨q892, q893, q72, q894, by decide +kernel, by decide +kernel, by decide +kernel⟩
def X6_moves_b16 (σ : MS) (x1 : Int32) (x2 : Int32) (y0 : Int32) : Option (Int32) := (X6_its σ x1 (0 : Int32)).bind fun v2 => if v2 = (1 : Int32) then (some (0 : Int32)) else (if v2 = (2 : Int32) then (some (-1 : Int32)) else (if v2 = (3 : Int32) then (some y0) else (if v2 = (4 : Int32) then (if x2 ≤ (5 : Int32) then (some y0) else (some (y0 + (1 : Int32)))) else (if v2 = (5 : Int32) then (some x2) else (if v2 = (6 : Int32) then (some (x2 / (2 : Int32))) else (some (1 : Int32)))))))
set_option maxHeartbeats 4000000 in
set_option maxRecDepth 100000 in
theorem wX6_moves_b16 {p : Program} {l : Launch} {e : Env} {s : State} {m : MethodId} {below : List Frame} {meth : Method} {c : Code} {D : va_G} {cy cz : ClassId} {G : GT} {A : Nat → Prop} {args : Array Value} {a : Nat → Nat} {r : Int32} {σ : MS} (C : Cx p s m args c cX6_moves 4 "PumpTalkModel" D cy cz G A) (hr : meth.sig.returnType = some .int) (hlk : meth.locks = false) : ∀ (x1 : Int32) (x2 : Int32) (y0 : Int32) (H : Heap) (locs : List Loc) (ls : Array Slot), X6_moves_b16 σ x1 x2 y0 = some r → Wd D A s.heap H locs (cM a cy σ) → lv_has ls 4 [(0, .ref (a 0)), (1, .int x1), (2, .int x2)] → W p l e (rmz 2 43) s m args below meth c H locs 0 0 (MQ below (QI D cy cz A (cM a cy σ) r) args s 0 0 A) (F0 m 16 ls [.int y0]) := by
  have hx := C.1
  have hb := C.2.1
  intro x1 x2 y0 H locs ls hm hW hl
  unfold X6_moves_b16 at hm
  refine lv_istore_n (lv' := [(3, .int y0), (0, .ref (a 0)), (1, .int x1), (2, .int x2)]) hx hb dX6_moves_16 rfl hl (by decide) rfl (fun ls hl => ?_)
  refine lv_aload_n hx hb dX6_moves_17 rfl (lv_at hl 1 rfl) ?_
  refine lv_iload_n hx hb dX6_moves_18 rfl (lv_at hl 2 rfl) ?_
  refine lv_iconst (v := 0) hx hb dX6_moves_19 (by decide) ?_
  obtain ⟨v2, e1, hm⟩ := mi_bind hm
  refine cs_i (q0 := 0) (As := [.int x1, .int (0 : Int32)]) (rest := []) C hW (c_X6_its e1) kX6_its q887 rfl rfl rfl rfl rfl hl.1 ⟨Nat.le_of_ble_eq_true rfl, Nat.le_of_ble_eq_true rfl⟩ ⟨Nat.le_refl 0, Nat.le_refl 0⟩ (Nat.le_of_ble_eq_true rfl) dX6_moves_20 (fun H locs hW => ?_)
  by_cases ht3 : v2 = (1 : Int32)
  · rw [if_pos ht3] at hm
    refine lv_tableIn (tgt := 60) (off := 37) hx hb dX6_moves_23 (by rw [ht3]; decide) (by rw [ht3]; decide) (by rw [ht3]; rfl) (by decide) ?_
    refine lv_iconst (v := 0) hx hb dX6_moves_60 (by decide) ?_
    obtain rfl := Option.some.inj hm
    exact en_i C hr hlk hW dX6_moves_61
  · rw [if_neg ht3] at hm
    by_cases ht4 : v2 = (2 : Int32)
    · rw [if_pos ht4] at hm
      refine lv_tableIn (tgt := 62) (off := 39) hx hb dX6_moves_23 (by rw [ht4]; decide) (by rw [ht4]; decide) (by rw [ht4]; rfl) (by decide) ?_
      refine lv_iconst (v := -1) hx hb dX6_moves_62 (by decide) ?_
      obtain rfl := Option.some.inj hm
      exact en_i C hr hlk hW dX6_moves_63
    · rw [if_neg ht4] at hm
      by_cases ht5 : v2 = (3 : Int32)
      · rw [if_pos ht5] at hm
        refine lv_tableIn (tgt := 64) (off := 41) hx hb dX6_moves_23 (by rw [ht5]; decide) (by rw [ht5]; decide) (by rw [ht5]; rfl) (by decide) ?_
        refine lv_iload_n hx hb dX6_moves_64 rfl (lv_at hl 0 rfl) ?_
        obtain rfl := Option.some.inj hm
        exact en_i C hr hlk hW dX6_moves_65
      · rw [if_neg ht5] at hm
        by_cases ht6 : v2 = (4 : Int32)
        · rw [if_pos ht6] at hm
          refine lv_tableIn (tgt := 66) (off := 43) hx hb dX6_moves_23 (by rw [ht6]; decide) (by rw [ht6]; decide) (by rw [ht6]; rfl) (by decide) ?_
          refine lv_iload_n hx hb dX6_moves_66 rfl (lv_at hl 3 rfl) ?_
          refine lv_iconst (v := 5) hx hb dX6_moves_67 (by decide) ?_
          refine lv_icmp_le (tgt := 77) hx hb dX6_moves_68 (by decide) (fun hc7 => ?_) (fun hc7 => ?_)
          · rw [if_pos hc7] at hm
            refine lv_iload_n hx hb dX6_moves_77 rfl (lv_at hl 0 rfl) ?_
            obtain rfl := Option.some.inj hm
            exact en_i C hr hlk hW dX6_moves_78
          · rw [if_neg hc7] at hm
            refine lv_iload_n hx hb dX6_moves_71 rfl (lv_at hl 0 rfl) ?_
            refine lv_iconst (v := 1) hx hb dX6_moves_72 (by decide) ?_
            refine lv_iadd hx hb dX6_moves_73 ?_
            refine lv_goto (tgt := 78) hx hb dX6_moves_74 (by decide) ?_
            obtain rfl := Option.some.inj hm
            exact en_i C hr hlk hW dX6_moves_78
        · rw [if_neg ht6] at hm
          by_cases ht8 : v2 = (5 : Int32)
          · rw [if_pos ht8] at hm
            refine lv_tableIn (tgt := 79) (off := 56) hx hb dX6_moves_23 (by rw [ht8]; decide) (by rw [ht8]; decide) (by rw [ht8]; rfl) (by decide) ?_
            refine lv_iload_n hx hb dX6_moves_79 rfl (lv_at hl 3 rfl) ?_
            obtain rfl := Option.some.inj hm
            exact en_i C hr hlk hW dX6_moves_80
          · rw [if_neg ht8] at hm
            by_cases ht9 : v2 = (6 : Int32)
            · rw [if_pos ht9] at hm
              refine lv_tableIn (tgt := 81) (off := 58) hx hb dX6_moves_23 (by rw [ht9]; decide) (by rw [ht9]; decide) (by rw [ht9]; rfl) (by decide) ?_
              refine lv_iload_n hx hb dX6_moves_81 rfl (lv_at hl 3 rfl) ?_
              refine lv_iconst (v := 2) hx hb dX6_moves_82 (by decide) ?_
              refine lv_idiv hx hb dX6_moves_83 (by decide) ?_
              obtain rfl := Option.some.inj hm
              exact en_i C hr hlk hW dX6_moves_84
            · rw [if_neg ht9] at hm
              refine lv_tableOut (tgt := 85) hx hb dX6_moves_23 (by have ht := tab_out (x := v2) 1 6 (by decide) (fun k hk => by rcases (show k = 0 ∨ k = 1 ∨ k = 2 ∨ k = 3 ∨ k = 4 ∨ k = 5 by omega) with rfl | rfl | rfl | rfl | rfl | rfl <;> first | exact ht3 | exact ht4 | exact ht5 | exact ht6 | exact ht8 | exact ht9); omega) (by decide) ?_
              refine lv_iconst (v := 1) hx hb dX6_moves_85 (by decide) ?_
              obtain rfl := Option.some.inj hm
              exact en_i C hr hlk hW dX6_moves_86
def X6_moves (σ : MS) (p1 : Int32) (p2 : Int32) : Option (Int32) := if ((σ 0 0) - (σ 0 0) / (2 : Int32) * (2 : Int32)) = (0 : Int32) then (X6_moves_b16 σ p1 p2 (-1 : Int32)) else (X6_moves_b16 σ p1 p2 (1 : Int32))
set_option maxHeartbeats 4000000 in
set_option maxRecDepth 100000 in
theorem c_X6_moves {l : Launch} {D : va_G} {cy cz : ClassId} {G : GT} {a : Nat → Nat} {σ : MS} {p1 : Int32} {p2 : Int32} {r : Int32} (hm : X6_moves σ p1 p2 = some r) : CtI l D cy cz G yX6_moves cX6_moves 4 (some .int) 2 43 [.ref (a 0), .int p1, .int p2] (cM a cy σ) (cM a cy σ) r := by
  refine ct_i (own := "PumpTalkModel") (by decide) rfl (Nat.le_of_ble_eq_true rfl) ?_
  intro p e s m below meth c ls A C hr hlk hW hl
  have hx := C.1
  have hb := C.2.1
  have hl : lv_has ls 4 [(0, .ref (a 0)), (1, .int p1), (2, .int p2)] := hl
  unfold X6_moves at hm
  refine lv_aload_n hx hb dX6_moves_0 rfl (lv_at hl 0 rfl) ?_
  refine gM_s C hW q787 dX6_moves_1 ?_
  refine lv_iconst (v := 0) hx hb dX6_moves_4 (by decide) ?_
  refine lM_s_k (k := 0) C hW (by decide) (by decide) dX6_moves_5 ?_
  refine lv_iconst (v := 2) hx hb dX6_moves_6 (by decide) ?_
  refine lv_irem hx hb dX6_moves_7 (by decide) ?_
  refine lv_if_ne (tgt := 15) hx hb dX6_moves_8 (by decide) (fun hc10 => ?_) (fun hc10 => ?_)
  · rw [if_neg hc10] at hm
    refine lv_iconst (v := 1) hx hb dX6_moves_15 (by decide) ?_
    exact wX6_moves_b16 C hr hlk p1 p2 (1 : Int32) _ _ _ hm hW (lv_sub hl [0, 1, 2] rfl)
  · rw [if_pos hc10] at hm
    refine lv_iconst (v := -1) hx hb dX6_moves_11 (by decide) ?_
    refine lv_goto (tgt := 16) hx hb dX6_moves_12 (by decide) ?_
    exact wX6_moves_b16 C hr hlk p1 p2 (-1 : Int32) _ _ _ hm hW (lv_sub hl [0, 1, 2] rfl)
theorem kX6_moves : KM yX6_moves cX6_moves 4 (some .int) 2 := ⟨q913, q28, q72, q914, by decide +kernel, by decide +kernel, by decide +kernel⟩
def X6_strokes_b23 (σ : MS) (x1 : Int32) (x2 : Int32) (x3 : Int32) (y0 : Int32) : Option (Int32) := (X6_its σ x1 (0 : Int32)).bind fun v2 => if v2 = (1 : Int32) then (some (x3 + (2 : Int32))) else (if v2 = (2 : Int32) then (some (x3 + x2)) else (if v2 = (3 : Int32) then (some y0) else (if v2 = (4 : Int32) then (some ((2 : Int32) * y0)) else (if v2 = (5 : Int32) then (if ((σ 0 0) - (σ 0 0) / (7 : Int32) * (7 : Int32)) = (0 : Int32) then (some (x3 + (10 : Int32))) else (some x3)) else (if v2 = (6 : Int32) then (some ((x3 + (2 : Int32)) / (2 : Int32))) else (some x3))))))
set_option maxHeartbeats 4000000 in
set_option maxRecDepth 100000 in
theorem wX6_strokes_b23 {p : Program} {l : Launch} {e : Env} {s : State} {m : MethodId} {below : List Frame} {meth : Method} {c : Code} {D : va_G} {cy cz : ClassId} {G : GT} {A : Nat → Prop} {args : Array Value} {a : Nat → Nat} {r : Int32} {σ : MS} (C : Cx p s m args c cX6_strokes 5 "PumpTalkModel" D cy cz G A) (hr : meth.sig.returnType = some .int) (hlk : meth.locks = false) : ∀ (x1 : Int32) (x2 : Int32) (x3 : Int32) (y0 : Int32) (H : Heap) (locs : List Loc) (ls : Array Slot), X6_strokes_b23 σ x1 x2 x3 y0 = some r → Wd D A s.heap H locs (cM a cy σ) → lv_has ls 5 [(0, .ref (a 0)), (1, .int x1), (2, .int x2), (3, .int x3)] → W p l e (rmz 2 43) s m args below meth c H locs 0 0 (MQ below (QI D cy cz A (cM a cy σ) r) args s 0 0 A) (F0 m 23 ls [.int y0]) := by
  have hx := C.1
  have hb := C.2.1
  intro x1 x2 x3 y0 H locs ls hm hW hl
  unfold X6_strokes_b23 at hm
  refine lv_istore (lv' := [(4, .int y0), (0, .ref (a 0)), (1, .int x1), (2, .int x2), (3, .int x3)]) hx hb dX6_strokes_23 hl (by decide) rfl (fun ls hl => ?_)
  refine lv_aload_n hx hb dX6_strokes_25 rfl (lv_at hl 1 rfl) ?_
  refine lv_iload_n hx hb dX6_strokes_26 rfl (lv_at hl 2 rfl) ?_
  refine lv_iconst (v := 0) hx hb dX6_strokes_27 (by decide) ?_
  obtain ⟨v2, e1, hm⟩ := mi_bind hm
  refine cs_i (q0 := 0) (As := [.int x1, .int (0 : Int32)]) (rest := []) C hW (c_X6_its e1) kX6_its q887 rfl rfl rfl rfl rfl hl.1 ⟨Nat.le_of_ble_eq_true rfl, Nat.le_of_ble_eq_true rfl⟩ ⟨Nat.le_refl 0, Nat.le_refl 0⟩ (Nat.le_of_ble_eq_true rfl) dX6_strokes_28 (fun H locs hW => ?_)
  by_cases ht3 : v2 = (1 : Int32)
  · rw [if_pos ht3] at hm
    refine lv_tableIn (tgt := 68) (off := 37) hx hb dX6_strokes_31 (by rw [ht3]; decide) (by rw [ht3]; decide) (by rw [ht3]; rfl) (by decide) ?_
    refine lv_iload_n hx hb dX6_strokes_68 rfl (lv_at hl 4 rfl) ?_
    refine lv_iconst (v := 2) hx hb dX6_strokes_69 (by decide) ?_
    refine lv_iadd hx hb dX6_strokes_70 ?_
    obtain rfl := Option.some.inj hm
    exact en_i C hr hlk hW dX6_strokes_71
  · rw [if_neg ht3] at hm
    by_cases ht4 : v2 = (2 : Int32)
    · rw [if_pos ht4] at hm
      refine lv_tableIn (tgt := 72) (off := 41) hx hb dX6_strokes_31 (by rw [ht4]; decide) (by rw [ht4]; decide) (by rw [ht4]; rfl) (by decide) ?_
      refine lv_iload_n hx hb dX6_strokes_72 rfl (lv_at hl 4 rfl) ?_
      refine lv_iload_n hx hb dX6_strokes_73 rfl (lv_at hl 3 rfl) ?_
      refine lv_iadd hx hb dX6_strokes_74 ?_
      obtain rfl := Option.some.inj hm
      exact en_i C hr hlk hW dX6_strokes_75
    · rw [if_neg ht4] at hm
      by_cases ht5 : v2 = (3 : Int32)
      · rw [if_pos ht5] at hm
        refine lv_tableIn (tgt := 76) (off := 45) hx hb dX6_strokes_31 (by rw [ht5]; decide) (by rw [ht5]; decide) (by rw [ht5]; rfl) (by decide) ?_
        refine lv_iload hx hb dX6_strokes_76 (lv_at hl 0 rfl) ?_
        obtain rfl := Option.some.inj hm
        exact en_i C hr hlk hW dX6_strokes_78
      · rw [if_neg ht5] at hm
        by_cases ht6 : v2 = (4 : Int32)
        · rw [if_pos ht6] at hm
          refine lv_tableIn (tgt := 79) (off := 48) hx hb dX6_strokes_31 (by rw [ht6]; decide) (by rw [ht6]; decide) (by rw [ht6]; rfl) (by decide) ?_
          refine lv_iconst (v := 2) hx hb dX6_strokes_79 (by decide) ?_
          refine lv_iload hx hb dX6_strokes_80 (lv_at hl 0 rfl) ?_
          refine lv_imul hx hb dX6_strokes_82 ?_
          obtain rfl := Option.some.inj hm
          exact en_i C hr hlk hW dX6_strokes_83
        · rw [if_neg ht6] at hm
          by_cases ht7 : v2 = (5 : Int32)
          · rw [if_pos ht7] at hm
            refine lv_tableIn (tgt := 84) (off := 53) hx hb dX6_strokes_31 (by rw [ht7]; decide) (by rw [ht7]; decide) (by rw [ht7]; rfl) (by decide) ?_
            refine lv_aload_n hx hb dX6_strokes_84 rfl (lv_at hl 1 rfl) ?_
            refine gM_s C hW q787 dX6_strokes_85 ?_
            refine lv_iconst (v := 0) hx hb dX6_strokes_88 (by decide) ?_
            refine lM_s_k (k := 0) C hW (by decide) (by decide) dX6_strokes_89 ?_
            refine lv_bipush (v := 7) hx hb dX6_strokes_90 (by decide) ?_
            refine lv_irem hx hb dX6_strokes_92 (by decide) ?_
            refine lv_if_ne (tgt := 103) hx hb dX6_strokes_93 (by decide) (fun hc8 => ?_) (fun hc8 => ?_)
            · rw [if_neg hc8] at hm
              refine lv_iload_n hx hb dX6_strokes_103 rfl (lv_at hl 4 rfl) ?_
              obtain rfl := Option.some.inj hm
              exact en_i C hr hlk hW dX6_strokes_104
            · rw [if_pos hc8] at hm
              refine lv_iload_n hx hb dX6_strokes_96 rfl (lv_at hl 4 rfl) ?_
              refine lv_bipush (v := 10) hx hb dX6_strokes_97 (by decide) ?_
              refine lv_iadd hx hb dX6_strokes_99 ?_
              refine lv_goto (tgt := 104) hx hb dX6_strokes_100 (by decide) ?_
              obtain rfl := Option.some.inj hm
              exact en_i C hr hlk hW dX6_strokes_104
          · rw [if_neg ht7] at hm
            by_cases ht9 : v2 = (6 : Int32)
            · rw [if_pos ht9] at hm
              refine lv_tableIn (tgt := 105) (off := 74) hx hb dX6_strokes_31 (by rw [ht9]; decide) (by rw [ht9]; decide) (by rw [ht9]; rfl) (by decide) ?_
              refine lv_iload_n hx hb dX6_strokes_105 rfl (lv_at hl 4 rfl) ?_
              refine lv_iconst (v := 2) hx hb dX6_strokes_106 (by decide) ?_
              refine lv_iadd hx hb dX6_strokes_107 ?_
              refine lv_iconst (v := 2) hx hb dX6_strokes_108 (by decide) ?_
              refine lv_idiv hx hb dX6_strokes_109 (by decide) ?_
              obtain rfl := Option.some.inj hm
              exact en_i C hr hlk hW dX6_strokes_110
            · rw [if_neg ht9] at hm
              refine lv_tableOut (tgt := 111) hx hb dX6_strokes_31 (by have ht := tab_out (x := v2) 1 6 (by decide) (fun k hk => by rcases (show k = 0 ∨ k = 1 ∨ k = 2 ∨ k = 3 ∨ k = 4 ∨ k = 5 by omega) with rfl | rfl | rfl | rfl | rfl | rfl <;> first | exact ht3 | exact ht4 | exact ht5 | exact ht6 | exact ht7 | exact ht9); omega) (by decide) ?_
              refine lv_iload_n hx hb dX6_strokes_111 rfl (lv_at hl 4 rfl) ?_
              obtain rfl := Option.some.inj hm
              exact en_i C hr hlk hW dX6_strokes_112
def X6_strokes (σ : MS) (p1 : Int32) (p2 : Int32) : Option (Int32) := (X6_its σ p1 (1 : Int32)).bind fun v11 => if (v11 + p2) ≤ (1 : Int32) then (X6_strokes_b23 σ p1 p2 v11 (0 : Int32)) else (X6_strokes_b23 σ p1 p2 v11 (((v11 + p2) - (1 : Int32))))
set_option maxHeartbeats 4000000 in
set_option maxRecDepth 100000 in
theorem c_X6_strokes {l : Launch} {D : va_G} {cy cz : ClassId} {G : GT} {a : Nat → Nat} {σ : MS} {p1 : Int32} {p2 : Int32} {r : Int32} (hm : X6_strokes σ p1 p2 = some r) : CtI l D cy cz G yX6_strokes cX6_strokes 5 (some .int) 2 43 [.ref (a 0), .int p1, .int p2] (cM a cy σ) (cM a cy σ) r := by
  refine ct_i (own := "PumpTalkModel") (by decide) rfl (Nat.le_of_ble_eq_true rfl) ?_
  intro p e s m below meth c ls A C hr hlk hW hl
  have hx := C.1
  have hb := C.2.1
  have hl : lv_has ls 5 [(0, .ref (a 0)), (1, .int p1), (2, .int p2)] := hl
  unfold X6_strokes at hm
  refine lv_aload_n hx hb dX6_strokes_0 rfl (lv_at hl 0 rfl) ?_
  refine lv_iload_n hx hb dX6_strokes_1 rfl (lv_at hl 1 rfl) ?_
  refine lv_iconst (v := 1) hx hb dX6_strokes_2 (by decide) ?_
  obtain ⟨v11, e10, hm⟩ := mi_bind hm
  refine cs_i (q0 := 0) (As := [.int p1, .int (1 : Int32)]) (rest := []) C hW (c_X6_its e10) kX6_its q887 rfl rfl rfl rfl rfl hl.1 ⟨Nat.le_of_ble_eq_true rfl, Nat.le_of_ble_eq_true rfl⟩ ⟨Nat.le_refl 0, Nat.le_refl 0⟩ (Nat.le_of_ble_eq_true rfl) dX6_strokes_3 (fun H locs hW => ?_)
  refine lv_istore_n (lv' := [(3, .int v11), (0, .ref (a 0)), (1, .int p1), (2, .int p2)]) hx hb dX6_strokes_6 rfl hl (by decide) rfl (fun ls hl => ?_)
  refine lv_iload_n hx hb dX6_strokes_7 rfl (lv_at hl 0 rfl) ?_
  refine lv_iload_n hx hb dX6_strokes_8 rfl (lv_at hl 3 rfl) ?_
  refine lv_iadd hx hb dX6_strokes_9 ?_
  refine lv_iconst (v := 1) hx hb dX6_strokes_10 (by decide) ?_
  refine lv_icmp_le (tgt := 22) hx hb dX6_strokes_11 (by decide) (fun hc12 => ?_) (fun hc12 => ?_)
  · rw [if_pos hc12] at hm
    refine lv_iconst (v := 0) hx hb dX6_strokes_22 (by decide) ?_
    exact wX6_strokes_b23 C hr hlk p1 p2 v11 (0 : Int32) _ _ _ hm hW (lv_sub hl [1, 2, 3, 0] rfl)
  · rw [if_neg hc12] at hm
    refine lv_iload_n hx hb dX6_strokes_14 rfl (lv_at hl 0 rfl) ?_
    refine lv_iload_n hx hb dX6_strokes_15 rfl (lv_at hl 3 rfl) ?_
    refine lv_iadd hx hb dX6_strokes_16 ?_
    refine lv_iconst (v := 1) hx hb dX6_strokes_17 (by decide) ?_
    refine lv_isub hx hb dX6_strokes_18 ?_
    refine lv_goto (tgt := 23) hx hb dX6_strokes_19 (by decide) ?_
    exact wX6_strokes_b23 C hr hlk p1 p2 v11 (((v11 + p2) - (1 : Int32))) _ _ _ hm hW (lv_sub hl [1, 2, 3, 0] rfl)
theorem kX6_strokes : KM yX6_strokes cX6_strokes 5 (some .int) 2 := ⟨q917, q29, q72, q918, by decide +kernel, by decide +kernel, by decide +kernel⟩
def X6_reply_b30 (σ : MS) : Option (Int32 × MS) := (X6_finds σ (-1000001 : Int32)).bind fun q2 => some (q2.1, q2.2)
set_option maxHeartbeats 4000000 in
set_option maxRecDepth 100000 in
theorem wX6_reply_b30 {p : Program} {l : Launch} {e : Env} {s : State} {m : MethodId} {below : List Frame} {meth : Method} {c : Code} {D : va_G} {cy cz : ClassId} {G : GT} {A : Nat → Prop} {args : Array Value} {a : Nat → Nat} {r : Int32} {σr : MS} (C : Cx p s m args c cX6_reply 4 "PumpTalkModel" D cy cz G A) (hr : meth.sig.returnType = some .int) (hlk : meth.locks = false) : ∀ (σ : MS) (H : Heap) (locs : List Loc) (ls : Array Slot), X6_reply_b30 σ = some (r, σr) → Wd D A s.heap H locs (cM a cy σ) → lv_has ls 4 [(0, .ref (a 0))] → W p l e (rmz 3 67) s m args below meth c H locs 0 0 (MQ below (QI D cy cz A (cM a cy σr) r) args s 0 0 A) (F0 m 30 ls []) := by
  have hx := C.1
  have hb := C.2.1
  intro σ H locs ls hm hW hl
  unfold X6_reply_b30 at hm
  refine lv_aload_n hx hb dX6_reply_30 rfl (lv_at hl 0 rfl) ?_
  refine lv_ldc hx hb C.2.2.2.1 (C.2.2.2.2.1 _ q865) dX6_reply_31 ?_
  obtain ⟨q2, e1, hm⟩ := mi_bind hm
  refine cs_i (q0 := 0) (As := [.int (-1000001 : Int32)]) (rest := []) C hW (c_X6_finds e1) kX6_finds q866 rfl rfl rfl rfl rfl hl.1 ⟨Nat.le_of_ble_eq_true rfl, Nat.le_of_ble_eq_true rfl⟩ ⟨Nat.le_refl 0, Nat.le_refl 0⟩ (Nat.le_of_ble_eq_true rfl) dX6_reply_33 (fun H locs hW => ?_)
  obtain ⟨rfl, rfl⟩ := Prod.mk.inj (Option.some.inj hm)
  exact en_i C hr hlk hW dX6_reply_36
def X6_reply (σ : MS) (p1 : Int32) (p2 : Int32) (p3 : Int32) : Option (Int32 × MS) := (X6_isPerson σ p1).bind fun v4 => if v4 = (0 : Int32) then (X6_reply_b30 σ) else ((X6_in (Int32.toInt64 p2) (1 : Int64) (18 : Int64)).bind fun v7 => if v7 = (0 : Int32) then (X6_reply_b30 σ) else ((X6_in (Int32.toInt64 p3) (0 : Int64) (1 : Int64)).bind fun v10 => if v10 = (0 : Int32) then (X6_reply_b30 σ) else (if p3 = (0 : Int32) then ((X6_moves σ p1 p2).bind fun v16 => some (v16, σ)) else ((X6_strokes σ p1 p2).bind fun v14 => some (v14, σ)))))
set_option maxHeartbeats 4000000 in
set_option maxRecDepth 100000 in
theorem c_X6_reply {l : Launch} {D : va_G} {cy cz : ClassId} {G : GT} {a : Nat → Nat} {σ : MS} {p1 : Int32} {p2 : Int32} {p3 : Int32} {r : Int32} {σr : MS} (hm : X6_reply σ p1 p2 p3 = some (r, σr)) : CtI l D cy cz G yX6_reply cX6_reply 4 (some .int) 3 67 [.ref (a 0), .int p1, .int p2, .int p3] (cM a cy σ) (cM a cy σr) r := by
  refine ct_i (own := "PumpTalkModel") (by decide) rfl (Nat.le_of_ble_eq_true rfl) ?_
  intro p e s m below meth c ls A C hr hlk hW hl
  have hx := C.1
  have hb := C.2.1
  have hl : lv_has ls 4 [(0, .ref (a 0)), (1, .int p1), (2, .int p2), (3, .int p3)] := hl
  unfold X6_reply at hm
  refine lv_aload_n hx hb dX6_reply_0 rfl (lv_at hl 0 rfl) ?_
  refine lv_iload_n hx hb dX6_reply_1 rfl (lv_at hl 1 rfl) ?_
  obtain ⟨v4, e3, hm⟩ := mi_bind hm
  refine cs_i (q0 := 0) (As := [.int p1]) (rest := []) C hW (c_X6_isPerson e3) kX6_isPerson q882 rfl rfl rfl rfl rfl hl.1 ⟨Nat.le_of_ble_eq_true rfl, Nat.le_of_ble_eq_true rfl⟩ ⟨Nat.le_refl 0, Nat.le_refl 0⟩ (Nat.le_of_ble_eq_true rfl) dX6_reply_2 (fun H locs hW => ?_)
  refine lv_if_eq (tgt := 30) hx hb dX6_reply_5 (by decide) (fun hc5 => ?_) (fun hc5 => ?_)
  · rw [if_pos hc5] at hm
    exact wX6_reply_b30 C hr hlk σ _ _ _ hm hW (lv_sub hl [0] rfl)
  · rw [if_neg hc5] at hm
    refine lv_iload_n hx hb dX6_reply_8 rfl (lv_at hl 2 rfl) ?_
    refine lv_i2l hx hb dX6_reply_9 rfl ?_
    refine lv_lconst (v := 1) hx hb dX6_reply_10 (by decide) ?_
    refine lv_ldc2 hx hb C.2.2.2.1 (C.2.2.2.2.1 _ q910) dX6_reply_11 ?_
    obtain ⟨v7, e6, hm⟩ := mi_bind hm
    refine cS_i (As := [.long (Int32.toInt64 p2), .long (1 : Int64), .long (18 : Int64)]) (rest := []) C hW (c_X6_in e6) kX6_in q862 rfl rfl hl.1 ⟨Nat.le_of_ble_eq_true rfl, Nat.le_of_ble_eq_true rfl⟩ ⟨Nat.le_refl 0, Nat.le_refl 0⟩ (Nat.le_of_ble_eq_true rfl) dX6_reply_14 (fun H locs hW => ?_)
    refine lv_if_eq (tgt := 30) hx hb dX6_reply_17 (by decide) (fun hc8 => ?_) (fun hc8 => ?_)
    · rw [if_pos hc8] at hm
      exact wX6_reply_b30 C hr hlk σ _ _ _ hm hW (lv_sub hl [0] rfl)
    · rw [if_neg hc8] at hm
      refine lv_iload_n hx hb dX6_reply_20 rfl (lv_at hl 3 rfl) ?_
      refine lv_i2l hx hb dX6_reply_21 rfl ?_
      refine lv_lconst (v := 0) hx hb dX6_reply_22 (by decide) ?_
      refine lv_lconst (v := 1) hx hb dX6_reply_23 (by decide) ?_
      obtain ⟨v10, e9, hm⟩ := mi_bind hm
      refine cS_i (As := [.long (Int32.toInt64 p3), .long (0 : Int64), .long (1 : Int64)]) (rest := []) C hW (c_X6_in e9) kX6_in q862 rfl rfl hl.1 ⟨Nat.le_of_ble_eq_true rfl, Nat.le_of_ble_eq_true rfl⟩ ⟨Nat.le_refl 0, Nat.le_refl 0⟩ (Nat.le_of_ble_eq_true rfl) dX6_reply_24 (fun H locs hW => ?_)
      refine lv_if_ne (tgt := 37) hx hb dX6_reply_27 (by decide) (fun hc11 => ?_) (fun hc11 => ?_)
      · rw [if_neg hc11] at hm
        refine lv_iload_n hx hb dX6_reply_37 rfl (lv_at hl 3 rfl) ?_
        refine lv_if_ne (tgt := 50) hx hb dX6_reply_38 (by decide) (fun hc12 => ?_) (fun hc12 => ?_)
        · rw [if_neg hc12] at hm
          refine lv_aload_n hx hb dX6_reply_50 rfl (lv_at hl 0 rfl) ?_
          refine lv_iload_n hx hb dX6_reply_51 rfl (lv_at hl 1 rfl) ?_
          refine lv_iload_n hx hb dX6_reply_52 rfl (lv_at hl 2 rfl) ?_
          obtain ⟨v14, e13, hm⟩ := mi_bind hm
          refine cs_i (q0 := 0) (As := [.int p1, .int p2]) (rest := []) C hW (c_X6_strokes e13) kX6_strokes q915 rfl rfl rfl rfl rfl hl.1 ⟨Nat.le_of_ble_eq_true rfl, Nat.le_of_ble_eq_true rfl⟩ ⟨Nat.le_refl 0, Nat.le_refl 0⟩ (Nat.le_of_ble_eq_true rfl) dX6_reply_53 (fun H locs hW => ?_)
          obtain ⟨rfl, rfl⟩ := Prod.mk.inj (Option.some.inj hm)
          exact en_i C hr hlk hW dX6_reply_56
        · rw [if_pos hc12] at hm
          refine lv_aload_n hx hb dX6_reply_41 rfl (lv_at hl 0 rfl) ?_
          refine lv_iload_n hx hb dX6_reply_42 rfl (lv_at hl 1 rfl) ?_
          refine lv_iload_n hx hb dX6_reply_43 rfl (lv_at hl 2 rfl) ?_
          obtain ⟨v16, e15, hm⟩ := mi_bind hm
          refine cs_i (q0 := 0) (As := [.int p1, .int p2]) (rest := []) C hW (c_X6_moves e15) kX6_moves q911 rfl rfl rfl rfl rfl hl.1 ⟨Nat.le_of_ble_eq_true rfl, Nat.le_of_ble_eq_true rfl⟩ ⟨Nat.le_refl 0, Nat.le_refl 0⟩ (Nat.le_of_ble_eq_true rfl) dX6_reply_44 (fun H locs hW => ?_)
          refine lv_goto (tgt := 56) hx hb dX6_reply_47 (by decide) ?_
          obtain ⟨rfl, rfl⟩ := Prod.mk.inj (Option.some.inj hm)
          exact en_i C hr hlk hW dX6_reply_56
      · rw [if_pos hc11] at hm
        exact wX6_reply_b30 C hr hlk σ _ _ _ hm hW (lv_sub hl [0] rfl)
theorem kX6_reply : KM yX6_reply cX6_reply 4 (some .int) 3 := ⟨q907, q908, q72, q909, by decide +kernel, by decide +kernel, by decide +kernel⟩
def X6_isSubject (p1 : Int32) : Option (Int32) := (X6_in (Int32.toInt64 p1) (0 : Int64) (5 : Int64)).bind fun v2 => zb v2 (some v2)
set_option maxHeartbeats 4000000 in
set_option maxRecDepth 100000 in
theorem c_X6_isSubject {l : Launch} {D : va_G} {cy cz : ClassId} {G : GT} {p1 : Int32} {r : Int32} (hm : X6_isSubject p1 = some r) : CtI l D cy cz G yX6_isSubject cX6_isSubject 1 (some .boolean) 1 25 [.int p1] ([] : va_W) ([] : va_W) r := by
  refine ct_i (own := "PumpTalkModel") (by decide) rfl (Nat.le_of_ble_eq_true rfl) ?_
  intro p e s m below meth c ls A C hr hlk hW hl
  have hx := C.1
  have hb := C.2.1
  have hl : lv_has ls 1 [(0, .int p1)] := hl
  unfold X6_isSubject at hm
  refine lv_iload_n hx hb dX6_isSubject_0 rfl (lv_at hl 0 rfl) ?_
  refine lv_i2l hx hb dX6_isSubject_1 rfl ?_
  refine lv_lconst (v := 0) hx hb dX6_isSubject_2 (by decide) ?_
  refine lv_ldc2 hx hb C.2.2.2.1 (C.2.2.2.2.1 _ q926) dX6_isSubject_3 ?_
  obtain ⟨v2, e1, hm⟩ := mi_bind hm
  refine cS_i (As := [.long (Int32.toInt64 p1), .long (0 : Int64), .long (5 : Int64)]) (rest := []) C hW (c_X6_in e1) kX6_in q862 rfl rfl hl.1 ⟨Nat.le_of_ble_eq_true rfl, Nat.le_of_ble_eq_true rfl⟩ ⟨Nat.le_refl 0, Nat.le_refl 0⟩ (Nat.le_of_ble_eq_true rfl) dX6_isSubject_6 (fun H locs hW => ?_)
  obtain ⟨hz3, hm⟩ := mi_zb hm
  obtain rfl := Option.some.inj hm
  exact en_z C hr hlk hz3.1 hW dX6_isSubject_9
theorem kX6_isSubject : KS yX6_isSubject cX6_isSubject 1 (some .boolean) 1 := ⟨q924, q72, q925, by decide +kernel, by decide +kernel, by decide +kernel⟩
def X6_apartOn (σ : MS) (p1 : Int32) (p2 : Int32) (p3 : Int32) : Option (Int32) := (X6_its σ p1 ((2 : Int32) + p3)).bind fun v2 => (X6_its σ p2 ((2 : Int32) + p3)).bind fun v4 => if (0 : Int32) ≤ (v2 - v4) then (some (v2 - v4)) else (some (-(v2 - v4)))
set_option maxHeartbeats 4000000 in
set_option maxRecDepth 100000 in
theorem c_X6_apartOn {l : Launch} {D : va_G} {cy cz : ClassId} {G : GT} {a : Nat → Nat} {σ : MS} {p1 : Int32} {p2 : Int32} {p3 : Int32} {r : Int32} (hm : X6_apartOn σ p1 p2 p3 = some r) : CtI l D cy cz G yX6_apartOn cX6_apartOn 5 (some .int) 2 43 [.ref (a 0), .int p1, .int p2, .int p3] (cM a cy σ) (cM a cy σ) r := by
  refine ct_i (own := "PumpTalkModel") (by decide) rfl (Nat.le_of_ble_eq_true rfl) ?_
  intro p e s m below meth c ls A C hr hlk hW hl
  have hx := C.1
  have hb := C.2.1
  have hl : lv_has ls 5 [(0, .ref (a 0)), (1, .int p1), (2, .int p2), (3, .int p3)] := hl
  unfold X6_apartOn at hm
  refine lv_aload_n hx hb dX6_apartOn_0 rfl (lv_at hl 0 rfl) ?_
  refine lv_iload_n hx hb dX6_apartOn_1 rfl (lv_at hl 1 rfl) ?_
  refine lv_iconst (v := 2) hx hb dX6_apartOn_2 (by decide) ?_
  refine lv_iload_n hx hb dX6_apartOn_3 rfl (lv_at hl 3 rfl) ?_
  refine lv_iadd hx hb dX6_apartOn_4 ?_
  obtain ⟨v2, e1, hm⟩ := mi_bind hm
  refine cs_i (q0 := 0) (As := [.int p1, .int ((2 : Int32) + p3)]) (rest := []) C hW (c_X6_its e1) kX6_its q887 rfl rfl rfl rfl rfl hl.1 ⟨Nat.le_of_ble_eq_true rfl, Nat.le_of_ble_eq_true rfl⟩ ⟨Nat.le_refl 0, Nat.le_refl 0⟩ (Nat.le_of_ble_eq_true rfl) dX6_apartOn_5 (fun H locs hW => ?_)
  refine lv_aload_n hx hb dX6_apartOn_8 rfl (lv_at hl 0 rfl) ?_
  refine lv_iload_n hx hb dX6_apartOn_9 rfl (lv_at hl 2 rfl) ?_
  refine lv_iconst (v := 2) hx hb dX6_apartOn_10 (by decide) ?_
  refine lv_iload_n hx hb dX6_apartOn_11 rfl (lv_at hl 3 rfl) ?_
  refine lv_iadd hx hb dX6_apartOn_12 ?_
  obtain ⟨v4, e3, hm⟩ := mi_bind hm
  refine cs_i (q0 := 0) (As := [.int p2, .int ((2 : Int32) + p3)]) (rest := [.int v2]) C hW (c_X6_its e3) kX6_its q887 rfl rfl rfl rfl rfl hl.1 ⟨Nat.le_of_ble_eq_true rfl, Nat.le_of_ble_eq_true rfl⟩ ⟨Nat.le_refl 0, Nat.le_refl 0⟩ (Nat.le_of_ble_eq_true rfl) dX6_apartOn_13 (fun H locs hW => ?_)
  refine lv_isub hx hb dX6_apartOn_16 ?_
  refine lv_istore (lv' := [(4, .int (v2 - v4)), (0, .ref (a 0)), (1, .int p1), (2, .int p2), (3, .int p3)]) hx hb dX6_apartOn_17 hl (by decide) rfl (fun ls hl => ?_)
  refine lv_iload hx hb dX6_apartOn_19 (lv_at hl 0 rfl) ?_
  refine lv_if_ge (tgt := 30) hx hb dX6_apartOn_21 (by decide) (fun hc5 => ?_) (fun hc5 => ?_)
  · rw [if_pos hc5] at hm
    refine lv_iload hx hb dX6_apartOn_30 (lv_at hl 0 rfl) ?_
    obtain rfl := Option.some.inj hm
    exact en_i C hr hlk hW dX6_apartOn_32
  · rw [if_neg hc5] at hm
    refine lv_iload hx hb dX6_apartOn_24 (lv_at hl 0 rfl) ?_
    refine lv_ineg hx hb dX6_apartOn_26 ?_
    refine lv_goto (tgt := 32) hx hb dX6_apartOn_27 (by decide) ?_
    obtain rfl := Option.some.inj hm
    exact en_i C hr hlk hW dX6_apartOn_32
theorem kX6_apartOn : KM yX6_apartOn cX6_apartOn 5 (some .int) 3 := ⟨q929, q30, q72, q930, by decide +kernel, by decide +kernel, by decide +kernel⟩
def X6_apart_b33 (σ : MS) : Option (Int32 × MS) := (X6_finds σ (-1000001 : Int32)).bind fun q2 => some (q2.1, q2.2)
set_option maxHeartbeats 4000000 in
set_option maxRecDepth 100000 in
theorem wX6_apart_b33 {p : Program} {l : Launch} {e : Env} {s : State} {m : MethodId} {below : List Frame} {meth : Method} {c : Code} {D : va_G} {cy cz : ClassId} {G : GT} {A : Nat → Prop} {args : Array Value} {a : Nat → Nat} {r : Int32} {σr : MS} (C : Cx p s m args c cX6_apart 4 "PumpTalkModel" D cy cz G A) (hr : meth.sig.returnType = some .int) (hlk : meth.locks = false) : ∀ (σ : MS) (H : Heap) (locs : List Loc) (ls : Array Slot), X6_apart_b33 σ = some (r, σr) → Wd D A s.heap H locs (cM a cy σ) → lv_has ls 4 [(0, .ref (a 0))] → W p l e (rmz 3 67) s m args below meth c H locs 0 0 (MQ below (QI D cy cz A (cM a cy σr) r) args s 0 0 A) (F0 m 33 ls []) := by
  have hx := C.1
  have hb := C.2.1
  intro σ H locs ls hm hW hl
  unfold X6_apart_b33 at hm
  refine lv_aload_n hx hb dX6_apart_33 rfl (lv_at hl 0 rfl) ?_
  refine lv_ldc hx hb C.2.2.2.1 (C.2.2.2.2.1 _ q865) dX6_apart_34 ?_
  obtain ⟨q2, e1, hm⟩ := mi_bind hm
  refine cs_i (q0 := 0) (As := [.int (-1000001 : Int32)]) (rest := []) C hW (c_X6_finds e1) kX6_finds q866 rfl rfl rfl rfl rfl hl.1 ⟨Nat.le_of_ble_eq_true rfl, Nat.le_of_ble_eq_true rfl⟩ ⟨Nat.le_refl 0, Nat.le_refl 0⟩ (Nat.le_of_ble_eq_true rfl) dX6_apart_36 (fun H locs hW => ?_)
  obtain ⟨rfl, rfl⟩ := Prod.mk.inj (Option.some.inj hm)
  exact en_i C hr hlk hW dX6_apart_39
def X6_apart (σ : MS) (p1 : Int32) (p2 : Int32) (p3 : Int32) : Option (Int32 × MS) := (X6_isPerson σ p1).bind fun v4 => if v4 = (0 : Int32) then (X6_apart_b33 σ) else ((X6_isPerson σ p2).bind fun v7 => if v7 = (0 : Int32) then (X6_apart_b33 σ) else ((X6_isSubject p3).bind fun v10 => if v10 = (0 : Int32) then (X6_apart_b33 σ) else ((X6_apartOn σ p1 p2 p3).bind fun v13 => some (v13, σ))))
set_option maxHeartbeats 4000000 in
set_option maxRecDepth 100000 in
theorem c_X6_apart {l : Launch} {D : va_G} {cy cz : ClassId} {G : GT} {a : Nat → Nat} {σ : MS} {p1 : Int32} {p2 : Int32} {p3 : Int32} {r : Int32} {σr : MS} (hm : X6_apart σ p1 p2 p3 = some (r, σr)) : CtI l D cy cz G yX6_apart cX6_apart 4 (some .int) 3 67 [.ref (a 0), .int p1, .int p2, .int p3] (cM a cy σ) (cM a cy σr) r := by
  refine ct_i (own := "PumpTalkModel") (by decide) rfl (Nat.le_of_ble_eq_true rfl) ?_
  intro p e s m below meth c ls A C hr hlk hW hl
  have hx := C.1
  have hb := C.2.1
  have hl : lv_has ls 4 [(0, .ref (a 0)), (1, .int p1), (2, .int p2), (3, .int p3)] := hl
  unfold X6_apart at hm
  refine lv_aload_n hx hb dX6_apart_0 rfl (lv_at hl 0 rfl) ?_
  refine lv_iload_n hx hb dX6_apart_1 rfl (lv_at hl 1 rfl) ?_
  obtain ⟨v4, e3, hm⟩ := mi_bind hm
  refine cs_i (q0 := 0) (As := [.int p1]) (rest := []) C hW (c_X6_isPerson e3) kX6_isPerson q882 rfl rfl rfl rfl rfl hl.1 ⟨Nat.le_of_ble_eq_true rfl, Nat.le_of_ble_eq_true rfl⟩ ⟨Nat.le_refl 0, Nat.le_refl 0⟩ (Nat.le_of_ble_eq_true rfl) dX6_apart_2 (fun H locs hW => ?_)
  refine lv_if_eq (tgt := 33) hx hb dX6_apart_5 (by decide) (fun hc5 => ?_) (fun hc5 => ?_)
  · rw [if_pos hc5] at hm
    exact wX6_apart_b33 C hr hlk σ _ _ _ hm hW (lv_sub hl [0] rfl)
  · rw [if_neg hc5] at hm
    refine lv_aload_n hx hb dX6_apart_8 rfl (lv_at hl 0 rfl) ?_
    refine lv_iload_n hx hb dX6_apart_9 rfl (lv_at hl 2 rfl) ?_
    obtain ⟨v7, e6, hm⟩ := mi_bind hm
    refine cs_i (q0 := 0) (As := [.int p2]) (rest := []) C hW (c_X6_isPerson e6) kX6_isPerson q882 rfl rfl rfl rfl rfl hl.1 ⟨Nat.le_of_ble_eq_true rfl, Nat.le_of_ble_eq_true rfl⟩ ⟨Nat.le_refl 0, Nat.le_refl 0⟩ (Nat.le_of_ble_eq_true rfl) dX6_apart_10 (fun H locs hW => ?_)
    refine lv_if_eq (tgt := 33) hx hb dX6_apart_13 (by decide) (fun hc8 => ?_) (fun hc8 => ?_)
    · rw [if_pos hc8] at hm
      exact wX6_apart_b33 C hr hlk σ _ _ _ hm hW (lv_sub hl [0] rfl)
    · rw [if_neg hc8] at hm
      refine lv_iload_n hx hb dX6_apart_16 rfl (lv_at hl 3 rfl) ?_
      obtain ⟨v10, e9, hm⟩ := mi_bind hm
      refine cS_i (As := [.int p3]) (rest := []) C hW (c_X6_isSubject e9) kX6_isSubject q923 rfl rfl hl.1 ⟨Nat.le_of_ble_eq_true rfl, Nat.le_of_ble_eq_true rfl⟩ ⟨Nat.le_refl 0, Nat.le_refl 0⟩ (Nat.le_of_ble_eq_true rfl) dX6_apart_17 (fun H locs hW => ?_)
      refine lv_if_eq (tgt := 33) hx hb dX6_apart_20 (by decide) (fun hc11 => ?_) (fun hc11 => ?_)
      · rw [if_pos hc11] at hm
        exact wX6_apart_b33 C hr hlk σ _ _ _ hm hW (lv_sub hl [0] rfl)
      · rw [if_neg hc11] at hm
        refine lv_aload_n hx hb dX6_apart_23 rfl (lv_at hl 0 rfl) ?_
        refine lv_iload_n hx hb dX6_apart_24 rfl (lv_at hl 1 rfl) ?_
        refine lv_iload_n hx hb dX6_apart_25 rfl (lv_at hl 2 rfl) ?_
        refine lv_iload_n hx hb dX6_apart_26 rfl (lv_at hl 3 rfl) ?_
        obtain ⟨v13, e12, hm⟩ := mi_bind hm
        refine cs_i (q0 := 0) (As := [.int p1, .int p2, .int p3]) (rest := []) C hW (c_X6_apartOn e12) kX6_apartOn q927 rfl rfl rfl rfl rfl hl.1 ⟨Nat.le_of_ble_eq_true rfl, Nat.le_of_ble_eq_true rfl⟩ ⟨Nat.le_refl 0, Nat.le_refl 0⟩ (Nat.le_of_ble_eq_true rfl) dX6_apart_27 (fun H locs hW => ?_)
        refine lv_goto (tgt := 39) hx hb dX6_apart_30 (by decide) ?_
        obtain ⟨rfl, rfl⟩ := Prod.mk.inj (Option.some.inj hm)
        exact en_i C hr hlk hW dX6_apart_39
theorem kX6_apart : KM yX6_apart cX6_apart 4 (some .int) 3 := ⟨q920, q921, q72, q922, by decide +kernel, by decide +kernel, by decide +kernel⟩
def X6_areTwo (σ : MS) (p1 : Int32) (p2 : Int32) : Option (Int32) := (X6_isPerson σ p1).bind fun v2 => if v2 = (0 : Int32) then (some (0 : Int32)) else ((X6_isPerson σ p2).bind fun v5 => if v5 = (0 : Int32) then (some (0 : Int32)) else (if p1 = p2 then (some (0 : Int32)) else (some (1 : Int32))))
set_option maxHeartbeats 4000000 in
set_option maxRecDepth 100000 in
theorem c_X6_areTwo {l : Launch} {D : va_G} {cy cz : ClassId} {G : GT} {a : Nat → Nat} {σ : MS} {p1 : Int32} {p2 : Int32} {r : Int32} (hm : X6_areTwo σ p1 p2 = some r) : CtI l D cy cz G yX6_areTwo cX6_areTwo 3 (some .boolean) 2 46 [.ref (a 0), .int p1, .int p2] (cM a cy σ) (cM a cy σ) r := by
  refine ct_i (own := "PumpTalkModel") (by decide) rfl (Nat.le_of_ble_eq_true rfl) ?_
  intro p e s m below meth c ls A C hr hlk hW hl
  have hx := C.1
  have hb := C.2.1
  have hl : lv_has ls 3 [(0, .ref (a 0)), (1, .int p1), (2, .int p2)] := hl
  unfold X6_areTwo at hm
  refine lv_aload_n hx hb dX6_areTwo_0 rfl (lv_at hl 0 rfl) ?_
  refine lv_iload_n hx hb dX6_areTwo_1 rfl (lv_at hl 1 rfl) ?_
  obtain ⟨v2, e1, hm⟩ := mi_bind hm
  refine cs_i (q0 := 0) (As := [.int p1]) (rest := []) C hW (c_X6_isPerson e1) kX6_isPerson q882 rfl rfl rfl rfl rfl hl.1 ⟨Nat.le_of_ble_eq_true rfl, Nat.le_of_ble_eq_true rfl⟩ ⟨Nat.le_refl 0, Nat.le_refl 0⟩ (Nat.le_of_ble_eq_true rfl) dX6_areTwo_2 (fun H locs hW => ?_)
  refine lv_if_eq (tgt := 25) hx hb dX6_areTwo_5 (by decide) (fun hc3 => ?_) (fun hc3 => ?_)
  · rw [if_pos hc3] at hm
    refine lv_iconst (v := 0) hx hb dX6_areTwo_25 (by decide) ?_
    obtain rfl := Option.some.inj hm
    exact en_z C hr hlk rfl hW dX6_areTwo_26
  · rw [if_neg hc3] at hm
    refine lv_aload_n hx hb dX6_areTwo_8 rfl (lv_at hl 0 rfl) ?_
    refine lv_iload_n hx hb dX6_areTwo_9 rfl (lv_at hl 2 rfl) ?_
    obtain ⟨v5, e4, hm⟩ := mi_bind hm
    refine cs_i (q0 := 0) (As := [.int p2]) (rest := []) C hW (c_X6_isPerson e4) kX6_isPerson q882 rfl rfl rfl rfl rfl hl.1 ⟨Nat.le_of_ble_eq_true rfl, Nat.le_of_ble_eq_true rfl⟩ ⟨Nat.le_refl 0, Nat.le_refl 0⟩ (Nat.le_of_ble_eq_true rfl) dX6_areTwo_10 (fun H locs hW => ?_)
    refine lv_if_eq (tgt := 25) hx hb dX6_areTwo_13 (by decide) (fun hc6 => ?_) (fun hc6 => ?_)
    · rw [if_pos hc6] at hm
      refine lv_iconst (v := 0) hx hb dX6_areTwo_25 (by decide) ?_
      obtain rfl := Option.some.inj hm
      exact en_z C hr hlk rfl hW dX6_areTwo_26
    · rw [if_neg hc6] at hm
      refine lv_iload_n hx hb dX6_areTwo_16 rfl (lv_at hl 1 rfl) ?_
      refine lv_iload_n hx hb dX6_areTwo_17 rfl (lv_at hl 2 rfl) ?_
      refine lv_icmp_eq (tgt := 25) hx hb dX6_areTwo_18 (by decide) (fun hc7 => ?_) (fun hc7 => ?_)
      · rw [if_pos hc7] at hm
        refine lv_iconst (v := 0) hx hb dX6_areTwo_25 (by decide) ?_
        obtain rfl := Option.some.inj hm
        exact en_z C hr hlk rfl hW dX6_areTwo_26
      · rw [if_neg hc7] at hm
        refine lv_iconst (v := 1) hx hb dX6_areTwo_21 (by decide) ?_
        refine lv_goto (tgt := 26) hx hb dX6_areTwo_22 (by decide) ?_
        obtain rfl := Option.some.inj hm
        exact en_z C hr hlk rfl hW dX6_areTwo_26
theorem kX6_areTwo : KM yX6_areTwo cX6_areTwo 3 (some .boolean) 2 := ⟨q937, q31, q72, q938, by decide +kernel, by decide +kernel, by decide +kernel⟩
def X6_isSomebody (σ : MS) : Option (Int32) := if (σ 0 5) < (0 : Int32) then (some (0 : Int32)) else (some (1 : Int32))
set_option maxHeartbeats 4000000 in
set_option maxRecDepth 100000 in
theorem c_X6_isSomebody {l : Launch} {D : va_G} {cy cz : ClassId} {G : GT} {a : Nat → Nat} {σ : MS} {r : Int32} (hm : X6_isSomebody σ = some r) : CtI l D cy cz G yX6_isSomebody cX6_isSomebody 1 (some .boolean) 0 0 [.ref (a 0)] (cM a cy σ) (cM a cy σ) r := by
  refine ct_i (own := "PumpTalkModel") (by decide) rfl (Nat.le_of_ble_eq_true rfl) ?_
  intro p e s m below meth c ls A C hr hlk hW hl
  have hx := C.1
  have hb := C.2.1
  have hl : lv_has ls 1 [(0, .ref (a 0))] := hl
  unfold X6_isSomebody at hm
  refine lv_aload_n hx hb dX6_isSomebody_0 rfl (lv_at hl 0 rfl) ?_
  refine gM_s C hW q787 dX6_isSomebody_1 ?_
  refine lv_iconst (v := 5) hx hb dX6_isSomebody_4 (by decide) ?_
  refine lM_s_k (k := 5) C hW (by decide) (by decide) dX6_isSomebody_5 ?_
  refine lv_if_lt (tgt := 13) hx hb dX6_isSomebody_6 (by decide) (fun hc1 => ?_) (fun hc1 => ?_)
  · rw [if_pos hc1] at hm
    refine lv_iconst (v := 0) hx hb dX6_isSomebody_13 (by decide) ?_
    obtain rfl := Option.some.inj hm
    exact en_z C hr hlk rfl hW dX6_isSomebody_14
  · rw [if_neg hc1] at hm
    refine lv_iconst (v := 1) hx hb dX6_isSomebody_9 (by decide) ?_
    refine lv_goto (tgt := 14) hx hb dX6_isSomebody_10 (by decide) ?_
    obtain rfl := Option.some.inj hm
    exact en_z C hr hlk rfl hW dX6_isSomebody_14
theorem kX6_isSomebody : KM yX6_isSomebody cX6_isSomebody 1 (some .boolean) 0 := ⟨q945, q33, q72, q946, by decide +kernel, by decide +kernel, by decide +kernel⟩
def X6_disputed_b46 (σ : MS) (k4 : Int32 → Int32 → Option (Int32)) (x2 : Int32) (y0 : Int32) (y1 : Int32) : Option (Int32) := k4 (y0 ||| y1) ((x2 + (1 : Int32)))
set_option maxHeartbeats 4000000 in
set_option maxRecDepth 100000 in
theorem wX6_disputed_b46 {p : Program} {l : Launch} {e : Env} {s : State} {m : MethodId} {below : List Frame} {meth : Method} {c : Code} {D : va_G} {cy cz : ClassId} {G : GT} {A : Nat → Prop} {args : Array Value} {a : Nat → Nat} {r : Int32} {σ : MS} (C : Cx p s m args c cX6_disputed 3 "PumpTalkModel" D cy cz G A) (hr : meth.sig.returnType = some .int) (hlk : meth.locks = false) {k4 : Int32 → Int32 → Option (Int32)} (hk4 : ∀ (x1 : Int32) (x2 : Int32) (H : Heap) (locs : List Loc) (ls : Array Slot), k4 x1 x2 = some r → Wd D A s.heap H locs (cM a cy σ) → lv_has ls 3 [(0, .ref (a 0)), (1, .int x1), (2, .int x2)] → W p l e (rmz 3 67) s m args below meth c H locs 0 0 (MQ below (QI D cy cz A (cM a cy σ) r) args s 0 0 A) (F0 m 4 ls [])) : ∀ (x2 : Int32) (y0 : Int32) (y1 : Int32) (H : Heap) (locs : List Loc) (ls : Array Slot), X6_disputed_b46 σ k4 x2 y0 y1 = some r → Wd D A s.heap H locs (cM a cy σ) → lv_has ls 3 [(0, .ref (a 0)), (2, .int x2)] → W p l e (rmz 3 67) s m args below meth c H locs 0 0 (MQ below (QI D cy cz A (cM a cy σ) r) args s 0 0 A) (F0 m 46 ls [.int y1, .int y0]) := by
  have hx := C.1
  have hb := C.2.1
  intro x2 y0 y1 H locs ls hm hW hl
  unfold X6_disputed_b46 at hm
  refine lv_ior hx hb dX6_disputed_46 ?_
  refine lv_istore_n (lv' := [(1, .int (y0 ||| y1)), (0, .ref (a 0)), (2, .int x2)]) hx hb dX6_disputed_47 rfl hl (by decide) rfl (fun ls hl => ?_)
  refine lv_iinc (v := (x2 + (1 : Int32))) (lv' := [(2, .int (x2 + (1 : Int32))), (1, .int (y0 ||| y1)), (0, .ref (a 0))]) hx hb dX6_disputed_48 hl (k := 2) rfl (congrArg (fun z : Int32 => x2 + z) (by decide)) (by decide) rfl (fun ls hl => ?_)
  refine lv_goto (tgt := 4) hx hb dX6_disputed_51 (by decide) ?_
  exact hk4 (y0 ||| y1) ((x2 + (1 : Int32))) _ _ _ hm hW (lv_sub hl [2, 1, 0] rfl)
def X6_disputed_b4 (σ : MS) : Nat → Int32 → Int32 → Option (Int32)
  | 0, _, _ => none
  | n + 1, x1, x2 => if (6 : Int32) ≤ x2 then (some x1) else ((X6_isSomebody σ).bind fun v3 => if v3 = (0 : Int32) then (some x1) else ((X6_apartOn σ (σ 0 5) (σ 0 6) x2).bind fun v6 => if v6 ≤ (0 : Int32) then (X6_disputed_b46 σ (X6_disputed_b4 σ n) x2 x1 (0 : Int32)) else (X6_disputed_b46 σ (X6_disputed_b4 σ n) x2 x1 (((1 : Int32) <<< (x2 &&& 31))))))
set_option maxHeartbeats 4000000 in
set_option maxRecDepth 100000 in
theorem wX6_disputed_b4 {p : Program} {l : Launch} {e : Env} {s : State} {m : MethodId} {below : List Frame} {meth : Method} {c : Code} {D : va_G} {cy cz : ClassId} {G : GT} {A : Nat → Prop} {args : Array Value} {a : Nat → Nat} {r : Int32} {σ : MS} (C : Cx p s m args c cX6_disputed 3 "PumpTalkModel" D cy cz G A) (hr : meth.sig.returnType = some .int) (hlk : meth.locks = false) : ∀ (n : Nat) (x1 : Int32) (x2 : Int32) (H : Heap) (locs : List Loc) (ls : Array Slot), X6_disputed_b4 σ n x1 x2 = some r → Wd D A s.heap H locs (cM a cy σ) → lv_has ls 3 [(0, .ref (a 0)), (1, .int x1), (2, .int x2)] → W p l e (rmz 3 67) s m args below meth c H locs 0 0 (MQ below (QI D cy cz A (cM a cy σ) r) args s 0 0 A) (F0 m 4 ls []) := by
  have hx := C.1
  have hb := C.2.1
  intro n
  induction n with
  | zero =>
    intro x1 x2 H locs ls hm
    rw [X6_disputed_b4] at hm
    cases hm
  | succ n ih =>
    intro x1 x2 H locs ls hm hW hl
    rw [X6_disputed_b4] at hm
    refine lv_iload_n hx hb dX6_disputed_4 rfl (lv_at hl 2 rfl) ?_
    refine lv_bipush (v := 6) hx hb dX6_disputed_5 (by decide) ?_
    refine lv_icmp_ge (tgt := 54) hx hb dX6_disputed_7 (by decide) (fun hc1 => ?_) (fun hc1 => ?_)
    · rw [if_pos hc1] at hm
      refine lv_iload_n hx hb dX6_disputed_54 rfl (lv_at hl 1 rfl) ?_
      obtain rfl := Option.some.inj hm
      exact en_i C hr hlk hW dX6_disputed_55
    · rw [if_neg hc1] at hm
      refine lv_aload_n hx hb dX6_disputed_10 rfl (lv_at hl 0 rfl) ?_
      obtain ⟨v3, e2, hm⟩ := mi_bind hm
      refine cs_i (q0 := 0) (As := []) (rest := []) C hW (c_X6_isSomebody e2) kX6_isSomebody q943 rfl rfl rfl rfl rfl hl.1 ⟨Nat.le_of_ble_eq_true rfl, Nat.le_of_ble_eq_true rfl⟩ ⟨Nat.le_refl 0, Nat.le_refl 0⟩ (Nat.le_of_ble_eq_true rfl) dX6_disputed_11 (fun H locs hW => ?_)
      refine lv_if_eq (tgt := 54) hx hb dX6_disputed_14 (by decide) (fun hc4 => ?_) (fun hc4 => ?_)
      · rw [if_pos hc4] at hm
        refine lv_iload_n hx hb dX6_disputed_54 rfl (lv_at hl 1 rfl) ?_
        obtain rfl := Option.some.inj hm
        exact en_i C hr hlk hW dX6_disputed_55
      · rw [if_neg hc4] at hm
        refine lv_iload_n hx hb dX6_disputed_17 rfl (lv_at hl 1 rfl) ?_
        refine lv_aload_n hx hb dX6_disputed_18 rfl (lv_at hl 0 rfl) ?_
        refine lv_aload_n hx hb dX6_disputed_19 rfl (lv_at hl 0 rfl) ?_
        refine gM_s C hW q787 dX6_disputed_20 ?_
        refine lv_iconst (v := 5) hx hb dX6_disputed_23 (by decide) ?_
        refine lM_s_k (k := 5) C hW (by decide) (by decide) dX6_disputed_24 ?_
        refine lv_aload_n hx hb dX6_disputed_25 rfl (lv_at hl 0 rfl) ?_
        refine gM_s C hW q787 dX6_disputed_26 ?_
        refine lv_bipush (v := 6) hx hb dX6_disputed_29 (by decide) ?_
        refine lM_s_k (k := 6) C hW (by decide) (by decide) dX6_disputed_31 ?_
        refine lv_iload_n hx hb dX6_disputed_32 rfl (lv_at hl 2 rfl) ?_
        obtain ⟨v6, e5, hm⟩ := mi_bind hm
        refine cs_i (q0 := 0) (As := [.int (σ 0 5), .int (σ 0 6), .int x2]) (rest := [.int x1]) C hW (c_X6_apartOn e5) kX6_apartOn q927 rfl rfl rfl rfl rfl hl.1 ⟨Nat.le_of_ble_eq_true rfl, Nat.le_of_ble_eq_true rfl⟩ ⟨Nat.le_refl 0, Nat.le_refl 0⟩ (Nat.le_of_ble_eq_true rfl) dX6_disputed_33 (fun H locs hW => ?_)
        refine lv_if_le (tgt := 45) hx hb dX6_disputed_36 (by decide) (fun hc7 => ?_) (fun hc7 => ?_)
        · rw [if_pos hc7] at hm
          refine lv_iconst (v := 0) hx hb dX6_disputed_45 (by decide) ?_
          exact wX6_disputed_b46 C hr hlk ih x2 x1 (0 : Int32) _ _ _ hm hW (lv_sub hl [0, 2] rfl)
        · rw [if_neg hc7] at hm
          refine lv_iconst (v := 1) hx hb dX6_disputed_39 (by decide) ?_
          refine lv_iload_n hx hb dX6_disputed_40 rfl (lv_at hl 2 rfl) ?_
          refine lv_ishl hx hb dX6_disputed_41 ?_
          refine lv_goto (tgt := 46) hx hb dX6_disputed_42 (by decide) ?_
          exact wX6_disputed_b46 C hr hlk ih x2 x1 (((1 : Int32) <<< (x2 &&& 31))) _ _ _ hm hW (lv_sub hl [0, 2] rfl)
def X6_disputed (σ : MS) : Option (Int32) := X6_disputed_b4 σ FU (0 : Int32) (0 : Int32)
set_option maxHeartbeats 4000000 in
set_option maxRecDepth 100000 in
theorem c_X6_disputed {l : Launch} {D : va_G} {cy cz : ClassId} {G : GT} {a : Nat → Nat} {σ : MS} {r : Int32} (hm : X6_disputed σ = some r) : CtI l D cy cz G yX6_disputed cX6_disputed 3 (some .int) 3 67 [.ref (a 0)] (cM a cy σ) (cM a cy σ) r := by
  refine ct_i (own := "PumpTalkModel") (by decide) rfl (Nat.le_of_ble_eq_true rfl) ?_
  intro p e s m below meth c ls A C hr hlk hW hl
  have hx := C.1
  have hb := C.2.1
  have hl : lv_has ls 3 [(0, .ref (a 0))] := hl
  unfold X6_disputed at hm
  refine lv_iconst (v := 0) hx hb dX6_disputed_0 (by decide) ?_
  refine lv_istore_n (lv' := [(1, .int (0 : Int32)), (0, .ref (a 0))]) hx hb dX6_disputed_1 rfl hl (by decide) rfl (fun ls hl => ?_)
  refine lv_iconst (v := 0) hx hb dX6_disputed_2 (by decide) ?_
  refine lv_istore_n (lv' := [(2, .int (0 : Int32)), (1, .int (0 : Int32)), (0, .ref (a 0))]) hx hb dX6_disputed_3 rfl hl (by decide) rfl (fun ls hl => ?_)
  exact wX6_disputed_b4 C hr hlk FU (0 : Int32) (0 : Int32) _ _ _ hm hW (lv_sub hl [2, 1, 0] rfl)
theorem kX6_disputed : KM yX6_disputed cX6_disputed 3 (some .int) 0 := ⟨q941, q32, q72, q942, by decide +kernel, by decide +kernel, by decide +kernel⟩
def X6_ones_b4 : Nat → Int32 → Int32 → Option (Int32)
  | 0, _, _ => none
  | n + 1, x1, x2 => if x2 = (0 : Int32) then (some x1) else (X6_ones_b4 n ((x1 + (1 : Int32))) ((x2 &&& (x2 - (1 : Int32)))))
set_option maxHeartbeats 4000000 in
set_option maxRecDepth 100000 in
theorem wX6_ones_b4 {p : Program} {l : Launch} {e : Env} {s : State} {m : MethodId} {below : List Frame} {meth : Method} {c : Code} {D : va_G} {cy cz : ClassId} {G : GT} {A : Nat → Prop} {args : Array Value} {r : Int32} (C : Cx p s m args c cX6_ones 3 "PumpTalkModel" D cy cz G A) (hr : meth.sig.returnType = some .int) (hlk : meth.locks = false) : ∀ (n : Nat) (x1 : Int32) (x2 : Int32) (H : Heap) (locs : List Loc) (ls : Array Slot), X6_ones_b4 n x1 x2 = some r → Wd D A s.heap H locs ([] : va_W) → lv_has ls 3 [(1, .int x1), (2, .int x2)] → W p l e (rmz 0 0) s m args below meth c H locs 0 0 (MQ below (QI D cy cz A ([] : va_W) r) args s 0 0 A) (F0 m 4 ls []) := by
  have hx := C.1
  have hb := C.2.1
  intro n
  induction n with
  | zero =>
    intro x1 x2 H locs ls hm
    rw [X6_ones_b4] at hm
    cases hm
  | succ n ih =>
    intro x1 x2 H locs ls hm hW hl
    rw [X6_ones_b4] at hm
    refine lv_iload_n hx hb dX6_ones_4 rfl (lv_at hl 1 rfl) ?_
    refine lv_if_eq (tgt := 20) hx hb dX6_ones_5 (by decide) (fun hc1 => ?_) (fun hc1 => ?_)
    · rw [if_pos hc1] at hm
      refine lv_iload_n hx hb dX6_ones_20 rfl (lv_at hl 0 rfl) ?_
      obtain rfl := Option.some.inj hm
      exact en_i C hr hlk hW dX6_ones_21
    · rw [if_neg hc1] at hm
      refine lv_iinc (v := (x1 + (1 : Int32))) (lv' := [(1, .int (x1 + (1 : Int32))), (2, .int x2)]) hx hb dX6_ones_8 hl (k := 0) rfl (congrArg (fun z : Int32 => x1 + z) (by decide)) (by decide) rfl (fun ls hl => ?_)
      refine lv_iload_n hx hb dX6_ones_11 rfl (lv_at hl 1 rfl) ?_
      refine lv_iload_n hx hb dX6_ones_12 rfl (lv_at hl 1 rfl) ?_
      refine lv_iconst (v := 1) hx hb dX6_ones_13 (by decide) ?_
      refine lv_isub hx hb dX6_ones_14 ?_
      refine lv_iand hx hb dX6_ones_15 ?_
      refine lv_istore_n (lv' := [(2, .int (x2 &&& (x2 - (1 : Int32)))), (1, .int (x1 + (1 : Int32)))]) hx hb dX6_ones_16 rfl hl (by decide) rfl (fun ls hl => ?_)
      refine lv_goto (tgt := 4) hx hb dX6_ones_17 (by decide) ?_
      exact ih ((x1 + (1 : Int32))) ((x2 &&& (x2 - (1 : Int32)))) _ _ _ hm hW (lv_sub hl [1, 0] rfl)
def X6_ones (p1 : Int32) : Option (Int32) := X6_ones_b4 FU (0 : Int32) p1
set_option maxHeartbeats 4000000 in
set_option maxRecDepth 100000 in
theorem c_X6_ones {l : Launch} {D : va_G} {cy cz : ClassId} {G : GT} {p1 : Int32} {r : Int32} (hm : X6_ones p1 = some r) : CtI l D cy cz G yX6_ones cX6_ones 3 (some .int) 0 0 [.int p1] ([] : va_W) ([] : va_W) r := by
  refine ct_i (own := "PumpTalkModel") (by decide) rfl (Nat.le_of_ble_eq_true rfl) ?_
  intro p e s m below meth c ls A C hr hlk hW hl
  have hx := C.1
  have hb := C.2.1
  have hl : lv_has ls 3 [(0, .int p1)] := hl
  unfold X6_ones at hm
  refine lv_iconst (v := 0) hx hb dX6_ones_0 (by decide) ?_
  refine lv_istore_n (lv' := [(1, .int (0 : Int32)), (0, .int p1)]) hx hb dX6_ones_1 rfl hl (by decide) rfl (fun ls hl => ?_)
  refine lv_iload_n hx hb dX6_ones_2 rfl (lv_at hl 1 rfl) ?_
  refine lv_istore_n (lv' := [(2, .int p1), (1, .int (0 : Int32)), (0, .int p1)]) hx hb dX6_ones_3 rfl hl (by decide) rfl (fun ls hl => ?_)
  exact wX6_ones_b4 C hr hlk FU (0 : Int32) p1 _ _ _ hm hW (lv_sub hl [1, 0] rfl)
theorem kX6_ones : KS yX6_ones cX6_ones 3 (some .int) 1 := ⟨q948, q72, q949, by decide +kernel, by decide +kernel, by decide +kernel⟩
def X6_pair (σ : MS) (p1 : Int32) (p2 : Int32) : Option (Int32 × MS) := (X6_areTwo σ p1 p2).bind fun v2 => if v2 = (0 : Int32) then ((X6_finds σ (-1000001 : Int32)).bind fun q9 => some (q9.1, q9.2)) else ((X6_disputed (su (su σ 0 5 p1) 0 6 p2)).bind fun v5 => (X6_ones v5).bind fun v7 => some (v7, su (su σ 0 5 p1) 0 6 p2))
set_option maxHeartbeats 4000000 in
set_option maxRecDepth 100000 in
theorem c_X6_pair {l : Launch} {D : va_G} {cy cz : ClassId} {G : GT} {a : Nat → Nat} {σ : MS} {p1 : Int32} {p2 : Int32} {r : Int32} {σr : MS} (hm : X6_pair σ p1 p2 = some (r, σr)) : CtI l D cy cz G yX6_pair cX6_pair 3 (some .int) 4 89 [.ref (a 0), .int p1, .int p2] (cM a cy σ) (cM a cy σr) r := by
  refine ct_i (own := "PumpTalkModel") (by decide) rfl (Nat.le_of_ble_eq_true rfl) ?_
  intro p e s m below meth c ls A C hr hlk hW hl
  have hx := C.1
  have hb := C.2.1
  have hl : lv_has ls 3 [(0, .ref (a 0)), (1, .int p1), (2, .int p2)] := hl
  unfold X6_pair at hm
  refine lv_aload_n hx hb dX6_pair_0 rfl (lv_at hl 0 rfl) ?_
  refine lv_iload_n hx hb dX6_pair_1 rfl (lv_at hl 1 rfl) ?_
  refine lv_iload_n hx hb dX6_pair_2 rfl (lv_at hl 2 rfl) ?_
  obtain ⟨v2, e1, hm⟩ := mi_bind hm
  refine cs_i (q0 := 0) (As := [.int p1, .int p2]) (rest := []) C hW (c_X6_areTwo e1) kX6_areTwo q935 rfl rfl rfl rfl rfl hl.1 ⟨Nat.le_of_ble_eq_true rfl, Nat.le_of_ble_eq_true rfl⟩ ⟨Nat.le_refl 0, Nat.le_refl 0⟩ (Nat.le_of_ble_eq_true rfl) dX6_pair_3 (fun H locs hW => ?_)
  refine lv_if_ne (tgt := 16) hx hb dX6_pair_6 (by decide) (fun hc3 => ?_) (fun hc3 => ?_)
  · rw [if_neg hc3] at hm
    refine lv_aload_n hx hb dX6_pair_16 rfl (lv_at hl 0 rfl) ?_
    refine gM_s C hW q787 dX6_pair_17 ?_
    refine lv_iconst (v := 5) hx hb dX6_pair_20 (by decide) ?_
    refine lv_iload_n hx hb dX6_pair_21 rfl (lv_at hl 1 rfl) ?_
    refine tM_s_k (k := 5) C hW (by decide) (by decide) dX6_pair_22 (fun H locs hW => ?_)
    refine lv_aload_n hx hb dX6_pair_23 rfl (lv_at hl 0 rfl) ?_
    refine gM_s C hW q787 dX6_pair_24 ?_
    refine lv_bipush (v := 6) hx hb dX6_pair_27 (by decide) ?_
    refine lv_iload_n hx hb dX6_pair_29 rfl (lv_at hl 2 rfl) ?_
    refine tM_s_k (k := 6) C hW (by decide) (by decide) dX6_pair_30 (fun H locs hW => ?_)
    refine lv_aload_n hx hb dX6_pair_31 rfl (lv_at hl 0 rfl) ?_
    obtain ⟨v5, e4, hm⟩ := mi_bind hm
    refine cs_i (q0 := 0) (As := []) (rest := []) C hW (c_X6_disputed e4) kX6_disputed q939 rfl rfl rfl rfl rfl hl.1 ⟨Nat.le_of_ble_eq_true rfl, Nat.le_of_ble_eq_true rfl⟩ ⟨Nat.le_refl 0, Nat.le_refl 0⟩ (Nat.le_of_ble_eq_true rfl) dX6_pair_32 (fun H locs hW => ?_)
    obtain ⟨v7, e6, hm⟩ := mi_bind hm
    refine cS_i (As := [.int v5]) (rest := []) C hW (c_X6_ones e6) kX6_ones q947 rfl rfl hl.1 ⟨Nat.le_of_ble_eq_true rfl, Nat.le_of_ble_eq_true rfl⟩ ⟨Nat.le_refl 0, Nat.le_refl 0⟩ (Nat.le_of_ble_eq_true rfl) dX6_pair_35 (fun H locs hW => ?_)
    obtain ⟨rfl, rfl⟩ := Prod.mk.inj (Option.some.inj hm)
    exact en_i C hr hlk hW dX6_pair_38
  · rw [if_pos hc3] at hm
    refine lv_aload_n hx hb dX6_pair_9 rfl (lv_at hl 0 rfl) ?_
    refine lv_ldc hx hb C.2.2.2.1 (C.2.2.2.2.1 _ q865) dX6_pair_10 ?_
    obtain ⟨q9, e8, hm⟩ := mi_bind hm
    refine cs_i (q0 := 0) (As := [.int (-1000001 : Int32)]) (rest := []) C hW (c_X6_finds e8) kX6_finds q866 rfl rfl rfl rfl rfl hl.1 ⟨Nat.le_of_ble_eq_true rfl, Nat.le_of_ble_eq_true rfl⟩ ⟨Nat.le_refl 0, Nat.le_refl 0⟩ (Nat.le_of_ble_eq_true rfl) dX6_pair_12 (fun H locs hW => ?_)
    obtain ⟨rfl, rfl⟩ := Prod.mk.inj (Option.some.inj hm)
    exact en_i C hr hlk hW dX6_pair_15
theorem kX6_pair : KM yX6_pair cX6_pair 3 (some .int) 2 := ⟨q932, q933, q72, q934, by decide +kernel, by decide +kernel, by decide +kernel⟩
def X6_rest_b12 (σ : MS) (y0 : Int32) : Option (Int32 × MS) := some (y0, su (su σ 0 5 (-1 : Int32)) 0 6 (-1 : Int32))
set_option maxHeartbeats 4000000 in
set_option maxRecDepth 100000 in
theorem wX6_rest_b12 {p : Program} {l : Launch} {e : Env} {s : State} {m : MethodId} {below : List Frame} {meth : Method} {c : Code} {D : va_G} {cy cz : ClassId} {G : GT} {A : Nat → Prop} {args : Array Value} {a : Nat → Nat} {r : Int32} {σr : MS} (C : Cx p s m args c cX6_rest 2 "PumpTalkModel" D cy cz G A) (hr : meth.sig.returnType = some .int) (hlk : meth.locks = false) : ∀ (σ : MS) (y0 : Int32) (H : Heap) (locs : List Loc) (ls : Array Slot), X6_rest_b12 σ y0 = some (r, σr) → Wd D A s.heap H locs (cM a cy σ) → lv_has ls 2 [(0, .ref (a 0))] → W p l e (rmz 1 20) s m args below meth c H locs 0 0 (MQ below (QI D cy cz A (cM a cy σr) r) args s 0 0 A) (F0 m 12 ls [.int y0]) := by
  have hx := C.1
  have hb := C.2.1
  intro σ y0 H locs ls hm hW hl
  unfold X6_rest_b12 at hm
  refine lv_istore_n (lv' := [(1, .int y0), (0, .ref (a 0))]) hx hb dX6_rest_12 rfl hl (by decide) rfl (fun ls hl => ?_)
  refine lv_aload_n hx hb dX6_rest_13 rfl (lv_at hl 1 rfl) ?_
  refine gM_s C hW q787 dX6_rest_14 ?_
  refine lv_iconst (v := 5) hx hb dX6_rest_17 (by decide) ?_
  refine lv_iconst (v := -1) hx hb dX6_rest_18 (by decide) ?_
  refine tM_s_k (k := 5) C hW (by decide) (by decide) dX6_rest_19 (fun H locs hW => ?_)
  refine lv_aload_n hx hb dX6_rest_20 rfl (lv_at hl 1 rfl) ?_
  refine gM_s C hW q787 dX6_rest_21 ?_
  refine lv_bipush (v := 6) hx hb dX6_rest_24 (by decide) ?_
  refine lv_iconst (v := -1) hx hb dX6_rest_26 (by decide) ?_
  refine tM_s_k (k := 6) C hW (by decide) (by decide) dX6_rest_27 (fun H locs hW => ?_)
  refine lv_iload_n hx hb dX6_rest_28 rfl (lv_at hl 0 rfl) ?_
  obtain ⟨rfl, rfl⟩ := Prod.mk.inj (Option.some.inj hm)
  exact en_i C hr hlk hW dX6_rest_29
def X6_rest (σ : MS) : Option (Int32 × MS) := (X6_isSomebody σ).bind fun v2 => if v2 = (0 : Int32) then (X6_rest_b12 σ (0 : Int32)) else (X6_rest_b12 σ (1 : Int32))
set_option maxHeartbeats 4000000 in
set_option maxRecDepth 100000 in
theorem c_X6_rest {l : Launch} {D : va_G} {cy cz : ClassId} {G : GT} {a : Nat → Nat} {σ : MS} {r : Int32} {σr : MS} (hm : X6_rest σ = some (r, σr)) : CtI l D cy cz G yX6_rest cX6_rest 2 (some .int) 1 20 [.ref (a 0)] (cM a cy σ) (cM a cy σr) r := by
  refine ct_i (own := "PumpTalkModel") (by decide) rfl (Nat.le_of_ble_eq_true rfl) ?_
  intro p e s m below meth c ls A C hr hlk hW hl
  have hx := C.1
  have hb := C.2.1
  have hl : lv_has ls 2 [(0, .ref (a 0))] := hl
  unfold X6_rest at hm
  refine lv_aload_n hx hb dX6_rest_0 rfl (lv_at hl 0 rfl) ?_
  obtain ⟨v2, e1, hm⟩ := mi_bind hm
  refine cs_i (q0 := 0) (As := []) (rest := []) C hW (c_X6_isSomebody e1) kX6_isSomebody q943 rfl rfl rfl rfl rfl hl.1 ⟨Nat.le_of_ble_eq_true rfl, Nat.le_of_ble_eq_true rfl⟩ ⟨Nat.le_refl 0, Nat.le_refl 0⟩ (Nat.le_of_ble_eq_true rfl) dX6_rest_1 (fun H locs hW => ?_)
  refine lv_if_eq (tgt := 11) hx hb dX6_rest_4 (by decide) (fun hc3 => ?_) (fun hc3 => ?_)
  · rw [if_pos hc3] at hm
    refine lv_iconst (v := 0) hx hb dX6_rest_11 (by decide) ?_
    exact wX6_rest_b12 C hr hlk σ (0 : Int32) _ _ _ hm hW (lv_sub hl [0] rfl)
  · rw [if_neg hc3] at hm
    refine lv_iconst (v := 1) hx hb dX6_rest_7 (by decide) ?_
    refine lv_goto (tgt := 12) hx hb dX6_rest_8 (by decide) ?_
    exact wX6_rest_b12 C hr hlk σ (1 : Int32) _ _ _ hm hW (lv_sub hl [0] rfl)
theorem kX6_rest : KM yX6_rest cX6_rest 2 (some .int) 0 := ⟨q951, q952, q72, q953, by decide +kernel, by decide +kernel, by decide +kernel⟩
def X6_subject (σ : MS) (p1 : Int32) : Option (Int32 × MS) := (X6_isSubject p1).bind fun v2 => if v2 = (0 : Int32) then ((X6_finds σ (-1000001 : Int32)).bind fun q5 => some (q5.1, q5.2)) else ((X6_becomes σ (3 : Int32) p1).bind fun q7 => some (q7.1, q7.2))
set_option maxHeartbeats 4000000 in
set_option maxRecDepth 100000 in
theorem c_X6_subject {l : Launch} {D : va_G} {cy cz : ClassId} {G : GT} {a : Nat → Nat} {σ : MS} {p1 : Int32} {r : Int32} {σr : MS} (hm : X6_subject σ p1 = some (r, σr)) : CtI l D cy cz G yX6_subject cX6_subject 2 (some .int) 2 45 [.ref (a 0), .int p1] (cM a cy σ) (cM a cy σr) r := by
  refine ct_i (own := "PumpTalkModel") (by decide) rfl (Nat.le_of_ble_eq_true rfl) ?_
  intro p e s m below meth c ls A C hr hlk hW hl
  have hx := C.1
  have hb := C.2.1
  have hl : lv_has ls 2 [(0, .ref (a 0)), (1, .int p1)] := hl
  unfold X6_subject at hm
  refine lv_iload_n hx hb dX6_subject_0 rfl (lv_at hl 1 rfl) ?_
  obtain ⟨v2, e1, hm⟩ := mi_bind hm
  refine cS_i (As := [.int p1]) (rest := []) C hW (c_X6_isSubject e1) kX6_isSubject q923 rfl rfl hl.1 ⟨Nat.le_of_ble_eq_true rfl, Nat.le_of_ble_eq_true rfl⟩ ⟨Nat.le_refl 0, Nat.le_refl 0⟩ (Nat.le_of_ble_eq_true rfl) dX6_subject_1 (fun H locs hW => ?_)
  refine lv_if_eq (tgt := 16) hx hb dX6_subject_4 (by decide) (fun hc3 => ?_) (fun hc3 => ?_)
  · rw [if_pos hc3] at hm
    refine lv_aload_n hx hb dX6_subject_16 rfl (lv_at hl 0 rfl) ?_
    refine lv_ldc hx hb C.2.2.2.1 (C.2.2.2.2.1 _ q865) dX6_subject_17 ?_
    obtain ⟨q5, e4, hm⟩ := mi_bind hm
    refine cs_i (q0 := 0) (As := [.int (-1000001 : Int32)]) (rest := []) C hW (c_X6_finds e4) kX6_finds q866 rfl rfl rfl rfl rfl hl.1 ⟨Nat.le_of_ble_eq_true rfl, Nat.le_of_ble_eq_true rfl⟩ ⟨Nat.le_refl 0, Nat.le_refl 0⟩ (Nat.le_of_ble_eq_true rfl) dX6_subject_19 (fun H locs hW => ?_)
    obtain ⟨rfl, rfl⟩ := Prod.mk.inj (Option.some.inj hm)
    exact en_i C hr hlk hW dX6_subject_22
  · rw [if_neg hc3] at hm
    refine lv_aload_n hx hb dX6_subject_7 rfl (lv_at hl 0 rfl) ?_
    refine lv_iconst (v := 3) hx hb dX6_subject_8 (by decide) ?_
    refine lv_iload_n hx hb dX6_subject_9 rfl (lv_at hl 1 rfl) ?_
    obtain ⟨q7, e6, hm⟩ := mi_bind hm
    refine cs_i (q0 := 0) (As := [.int (3 : Int32), .int p1]) (rest := []) C hW (c_X6_becomes e6) kX6_becomes q902 rfl rfl rfl rfl rfl hl.1 ⟨Nat.le_of_ble_eq_true rfl, Nat.le_of_ble_eq_true rfl⟩ ⟨Nat.le_refl 0, Nat.le_refl 0⟩ (Nat.le_of_ble_eq_true rfl) dX6_subject_10 (fun H locs hW => ?_)
    refine lv_goto (tgt := 22) hx hb dX6_subject_13 (by decide) ?_
    obtain ⟨rfl, rfl⟩ := Prod.mk.inj (Option.some.inj hm)
    exact en_i C hr hlk hW dX6_subject_22
theorem kX6_subject : KM yX6_subject cX6_subject 2 (some .int) 1 := ⟨q955, q956, q72, q957, by decide +kernel, by decide +kernel, by decide +kernel⟩
def X6_heldView (p1 : Int32) : Option (Int32) := if (-9 : Int32) ≤ p1 then (if p1 ≤ (9 : Int32) then (some p1) else (some (9 : Int32))) else (some (-9 : Int32))
set_option maxHeartbeats 4000000 in
set_option maxRecDepth 100000 in
theorem c_X6_heldView {l : Launch} {D : va_G} {cy cz : ClassId} {G : GT} {p1 : Int32} {r : Int32} (hm : X6_heldView p1 = some r) : CtI l D cy cz G yX6_heldView cX6_heldView 1 (some .int) 0 0 [.int p1] ([] : va_W) ([] : va_W) r := by
  refine ct_i (own := "PumpTalkModel") (by decide) rfl (Nat.le_of_ble_eq_true rfl) ?_
  intro p e s m below meth c ls A C hr hlk hW hl
  have hx := C.1
  have hb := C.2.1
  have hl : lv_has ls 1 [(0, .int p1)] := hl
  unfold X6_heldView at hm
  refine lv_iload_n hx hb dX6_heldView_0 rfl (lv_at hl 0 rfl) ?_
  refine lv_bipush (v := -9) hx hb dX6_heldView_1 (by decide) ?_
  refine lv_icmp_ge (tgt := 11) hx hb dX6_heldView_3 (by decide) (fun hc1 => ?_) (fun hc1 => ?_)
  · rw [if_pos hc1] at hm
    refine lv_iload_n hx hb dX6_heldView_11 rfl (lv_at hl 0 rfl) ?_
    refine lv_bipush (v := 9) hx hb dX6_heldView_12 (by decide) ?_
    refine lv_icmp_le (tgt := 22) hx hb dX6_heldView_14 (by decide) (fun hc2 => ?_) (fun hc2 => ?_)
    · rw [if_pos hc2] at hm
      refine lv_iload_n hx hb dX6_heldView_22 rfl (lv_at hl 0 rfl) ?_
      obtain rfl := Option.some.inj hm
      exact en_i C hr hlk hW dX6_heldView_23
    · rw [if_neg hc2] at hm
      refine lv_bipush (v := 9) hx hb dX6_heldView_17 (by decide) ?_
      refine lv_goto (tgt := 23) hx hb dX6_heldView_19 (by decide) ?_
      obtain rfl := Option.some.inj hm
      exact en_i C hr hlk hW dX6_heldView_23
  · rw [if_neg hc1] at hm
    refine lv_bipush (v := -9) hx hb dX6_heldView_6 (by decide) ?_
    refine lv_goto (tgt := 23) hx hb dX6_heldView_8 (by decide) ?_
    obtain rfl := Option.some.inj hm
    exact en_i C hr hlk hW dX6_heldView_23
theorem kX6_heldView : KS yX6_heldView cX6_heldView 1 (some .int) 1 := ⟨q979, q72, q980, by decide +kernel, by decide +kernel, by decide +kernel⟩
def X6_replies_b126 (σ : MS) (x1 : Int32) (x2 : Int32) (x3 : Int32) (x4 : Int32) (y1 : Int32) (y2 : Int32) : Option (MS) := ai y1 81 (ai x2 81 ((X6_moves (su σ 0 (Int32.toNatClampNeg y1) y2) ((su σ 0 (Int32.toNatClampNeg y1) y2) 0 5) x1).bind fun v4 => (X6_heldView (((su σ 0 (Int32.toNatClampNeg y1) y2) 0 (Int32.toNatClampNeg x2)) + (x4 * v4))).bind fun v6 => ai x2 81 (ai x3 81 ((X6_moves (su (su σ 0 (Int32.toNatClampNeg y1) y2) 0 (Int32.toNatClampNeg x2) v6) ((su (su σ 0 (Int32.toNatClampNeg y1) y2) 0 (Int32.toNatClampNeg x2) v6) 0 6) x1).bind fun v10 => (X6_heldView (((su (su σ 0 (Int32.toNatClampNeg y1) y2) 0 (Int32.toNatClampNeg x2) v6) 0 (Int32.toNatClampNeg x3)) - (x4 * v10))).bind fun v12 => ai x3 81 (some (su (su (su σ 0 (Int32.toNatClampNeg y1) y2) 0 (Int32.toNatClampNeg x2) v6) 0 (Int32.toNatClampNeg x3) v12))))))
set_option maxHeartbeats 4000000 in
set_option maxRecDepth 100000 in
theorem wX6_replies_b126 {p : Program} {l : Launch} {e : Env} {s : State} {m : MethodId} {below : List Frame} {meth : Method} {c : Code} {D : va_G} {cy cz : ClassId} {G : GT} {A : Nat → Prop} {args : Array Value} {a : Nat → Nat} {σr : MS} (C : Cx p s m args c cX6_replies 7 "PumpTalkModel" D cy cz G A) (hr : meth.sig.returnType = none) (hlk : meth.locks = false) : ∀ (σ : MS) (x1 : Int32) (x2 : Int32) (x3 : Int32) (x4 : Int32) (y1 : Int32) (y2 : Int32) (H : Heap) (locs : List Loc) (ls : Array Slot), X6_replies_b126 σ x1 x2 x3 x4 y1 y2 = some σr → Wd D A s.heap H locs (cM a cy σ) → lv_has ls 7 [(0, .ref (a 0)), (1, .int x1), (2, .int x2), (3, .int x3), (4, .int x4)] → W p l e (rmz 3 67) s m args below meth c H locs 0 0 (MQ below (QV D cy cz A (cM a cy σr) ()) args s 0 0 A) (F0 m 126 ls [.int y2, .int y1, .ref (a 1)]) := by
  have hx := C.1
  have hb := C.2.1
  intro σ x1 x2 x3 x4 y1 y2 H locs ls hm hW hl
  unfold X6_replies_b126 at hm
  obtain ⟨hi1, hm⟩ := mi_ai hm
  refine tM_s C hW hi1 dX6_replies_126 (fun H locs hW => ?_)
  refine lv_aload_n hx hb dX6_replies_127 rfl (lv_at hl 0 rfl) ?_
  refine gM_s C hW q787 dX6_replies_128 ?_
  refine lv_iload_n hx hb dX6_replies_131 rfl (lv_at hl 2 rfl) ?_
  refine lv_aload_n hx hb dX6_replies_132 rfl (lv_at hl 0 rfl) ?_
  refine gM_s C hW q787 dX6_replies_133 ?_
  refine lv_iload_n hx hb dX6_replies_136 rfl (lv_at hl 2 rfl) ?_
  obtain ⟨hi2, hm⟩ := mi_ai hm
  refine lM_s C hW hi2 dX6_replies_137 ?_
  refine lv_iload hx hb dX6_replies_138 (lv_at hl 4 rfl) ?_
  refine lv_aload_n hx hb dX6_replies_140 rfl (lv_at hl 0 rfl) ?_
  refine lv_aload_n hx hb dX6_replies_141 rfl (lv_at hl 0 rfl) ?_
  refine gM_s C hW q787 dX6_replies_142 ?_
  refine lv_iconst (v := 5) hx hb dX6_replies_145 (by decide) ?_
  refine lM_s_k (k := 5) C hW (by decide) (by decide) dX6_replies_146 ?_
  refine lv_iload_n hx hb dX6_replies_147 rfl (lv_at hl 1 rfl) ?_
  obtain ⟨v4, e3, hm⟩ := mi_bind hm
  refine cs_i (q0 := 0) (As := [.int ((su σ 0 (Int32.toNatClampNeg y1) y2) 0 5), .int x1]) (rest := [.int x4, .int ((su σ 0 (Int32.toNatClampNeg y1) y2) 0 (Int32.toNatClampNeg x2)), .int x2, .ref (a 1)]) C hW (c_X6_moves e3) kX6_moves q911 rfl rfl rfl rfl rfl hl.1 ⟨Nat.le_of_ble_eq_true rfl, Nat.le_of_ble_eq_true rfl⟩ ⟨Nat.le_refl 0, Nat.le_refl 0⟩ (Nat.le_of_ble_eq_true rfl) dX6_replies_148 (fun H locs hW => ?_)
  refine lv_imul hx hb dX6_replies_151 ?_
  refine lv_iadd hx hb dX6_replies_152 ?_
  obtain ⟨v6, e5, hm⟩ := mi_bind hm
  refine cS_i (As := [.int (((su σ 0 (Int32.toNatClampNeg y1) y2) 0 (Int32.toNatClampNeg x2)) + (x4 * v4))]) (rest := [.int x2, .ref (a 1)]) C hW (c_X6_heldView e5) kX6_heldView q978 rfl rfl hl.1 ⟨Nat.le_of_ble_eq_true rfl, Nat.le_of_ble_eq_true rfl⟩ ⟨Nat.le_refl 0, Nat.le_refl 0⟩ (Nat.le_of_ble_eq_true rfl) dX6_replies_153 (fun H locs hW => ?_)
  obtain ⟨hi7, hm⟩ := mi_ai hm
  refine tM_s C hW hi7 dX6_replies_156 (fun H locs hW => ?_)
  refine lv_aload_n hx hb dX6_replies_157 rfl (lv_at hl 0 rfl) ?_
  refine gM_s C hW q787 dX6_replies_158 ?_
  refine lv_iload_n hx hb dX6_replies_161 rfl (lv_at hl 3 rfl) ?_
  refine lv_aload_n hx hb dX6_replies_162 rfl (lv_at hl 0 rfl) ?_
  refine gM_s C hW q787 dX6_replies_163 ?_
  refine lv_iload_n hx hb dX6_replies_166 rfl (lv_at hl 3 rfl) ?_
  obtain ⟨hi8, hm⟩ := mi_ai hm
  refine lM_s C hW hi8 dX6_replies_167 ?_
  refine lv_iload hx hb dX6_replies_168 (lv_at hl 4 rfl) ?_
  refine lv_aload_n hx hb dX6_replies_170 rfl (lv_at hl 0 rfl) ?_
  refine lv_aload_n hx hb dX6_replies_171 rfl (lv_at hl 0 rfl) ?_
  refine gM_s C hW q787 dX6_replies_172 ?_
  refine lv_bipush (v := 6) hx hb dX6_replies_175 (by decide) ?_
  refine lM_s_k (k := 6) C hW (by decide) (by decide) dX6_replies_177 ?_
  refine lv_iload_n hx hb dX6_replies_178 rfl (lv_at hl 1 rfl) ?_
  obtain ⟨v10, e9, hm⟩ := mi_bind hm
  refine cs_i (q0 := 0) (As := [.int ((su (su σ 0 (Int32.toNatClampNeg y1) y2) 0 (Int32.toNatClampNeg x2) v6) 0 6), .int x1]) (rest := [.int x4, .int ((su (su σ 0 (Int32.toNatClampNeg y1) y2) 0 (Int32.toNatClampNeg x2) v6) 0 (Int32.toNatClampNeg x3)), .int x3, .ref (a 1)]) C hW (c_X6_moves e9) kX6_moves q911 rfl rfl rfl rfl rfl hl.1 ⟨Nat.le_of_ble_eq_true rfl, Nat.le_of_ble_eq_true rfl⟩ ⟨Nat.le_refl 0, Nat.le_refl 0⟩ (Nat.le_of_ble_eq_true rfl) dX6_replies_179 (fun H locs hW => ?_)
  refine lv_imul hx hb dX6_replies_182 ?_
  refine lv_isub hx hb dX6_replies_183 ?_
  obtain ⟨v12, e11, hm⟩ := mi_bind hm
  refine cS_i (As := [.int (((su (su σ 0 (Int32.toNatClampNeg y1) y2) 0 (Int32.toNatClampNeg x2) v6) 0 (Int32.toNatClampNeg x3)) - (x4 * v10))]) (rest := [.int x3, .ref (a 1)]) C hW (c_X6_heldView e11) kX6_heldView q978 rfl rfl hl.1 ⟨Nat.le_of_ble_eq_true rfl, Nat.le_of_ble_eq_true rfl⟩ ⟨Nat.le_refl 0, Nat.le_refl 0⟩ (Nat.le_of_ble_eq_true rfl) dX6_replies_184 (fun H locs hW => ?_)
  obtain ⟨hi13, hm⟩ := mi_ai hm
  refine tM_s C hW hi13 dX6_replies_187 (fun H locs hW => ?_)
  obtain rfl := Option.some.inj hm
  exact en_v C hr hlk hW dX6_replies_188
def X6_replies_b57 (σ : MS) (x1 : Int32) (x2 : Int32) (x3 : Int32) (y0 : Int32) : Option (MS) := (X6_strokes σ (σ 0 5) x1).bind fun v15 => (X6_strokes σ (σ 0 6) x1).bind fun v17 => if ((σ 0 2) + (v15 + v17)) ≤ (999999 : Int32) then (X6_replies_b126 (su σ 22 6 ((σ 22 6) + (v15 + v17))) x1 x2 x3 y0 (2 : Int32) (((σ 0 2) + (v15 + v17)))) else (X6_replies_b126 (su σ 22 6 ((σ 22 6) + (v15 + v17))) x1 x2 x3 y0 (2 : Int32) (999999 : Int32))
set_option maxHeartbeats 4000000 in
set_option maxRecDepth 100000 in
theorem wX6_replies_b57 {p : Program} {l : Launch} {e : Env} {s : State} {m : MethodId} {below : List Frame} {meth : Method} {c : Code} {D : va_G} {cy cz : ClassId} {G : GT} {A : Nat → Prop} {args : Array Value} {a : Nat → Nat} {σr : MS} (C : Cx p s m args c cX6_replies 7 "PumpTalkModel" D cy cz G A) (hr : meth.sig.returnType = none) (hlk : meth.locks = false) : ∀ (σ : MS) (x1 : Int32) (x2 : Int32) (x3 : Int32) (y0 : Int32) (H : Heap) (locs : List Loc) (ls : Array Slot), X6_replies_b57 σ x1 x2 x3 y0 = some σr → Wd D A s.heap H locs (cM a cy σ) → lv_has ls 7 [(0, .ref (a 0)), (1, .int x1), (2, .int x2), (3, .int x3)] → W p l e (rmz 3 67) s m args below meth c H locs 0 0 (MQ below (QV D cy cz A (cM a cy σr) ()) args s 0 0 A) (F0 m 57 ls [.int y0]) := by
  have hx := C.1
  have hb := C.2.1
  intro σ x1 x2 x3 y0 H locs ls hm hW hl
  unfold X6_replies_b57 at hm
  refine lv_istore (lv' := [(4, .int y0), (0, .ref (a 0)), (1, .int x1), (2, .int x2), (3, .int x3)]) hx hb dX6_replies_57 hl (by decide) rfl (fun ls hl => ?_)
  refine lv_aload_n hx hb dX6_replies_59 rfl (lv_at hl 1 rfl) ?_
  refine lv_aload_n hx hb dX6_replies_60 rfl (lv_at hl 1 rfl) ?_
  refine gM_s C hW q787 dX6_replies_61 ?_
  refine lv_iconst (v := 5) hx hb dX6_replies_64 (by decide) ?_
  refine lM_s_k (k := 5) C hW (by decide) (by decide) dX6_replies_65 ?_
  refine lv_iload_n hx hb dX6_replies_66 rfl (lv_at hl 2 rfl) ?_
  obtain ⟨v15, e14, hm⟩ := mi_bind hm
  refine cs_i (q0 := 0) (As := [.int (σ 0 5), .int x1]) (rest := []) C hW (c_X6_strokes e14) kX6_strokes q915 rfl rfl rfl rfl rfl hl.1 ⟨Nat.le_of_ble_eq_true rfl, Nat.le_of_ble_eq_true rfl⟩ ⟨Nat.le_refl 0, Nat.le_refl 0⟩ (Nat.le_of_ble_eq_true rfl) dX6_replies_67 (fun H locs hW => ?_)
  refine lv_aload_n hx hb dX6_replies_70 rfl (lv_at hl 1 rfl) ?_
  refine lv_aload_n hx hb dX6_replies_71 rfl (lv_at hl 1 rfl) ?_
  refine gM_s C hW q787 dX6_replies_72 ?_
  refine lv_bipush (v := 6) hx hb dX6_replies_75 (by decide) ?_
  refine lM_s_k (k := 6) C hW (by decide) (by decide) dX6_replies_77 ?_
  refine lv_iload_n hx hb dX6_replies_78 rfl (lv_at hl 2 rfl) ?_
  obtain ⟨v17, e16, hm⟩ := mi_bind hm
  refine cs_i (q0 := 0) (As := [.int (σ 0 6), .int x1]) (rest := [.int v15]) C hW (c_X6_strokes e16) kX6_strokes q915 rfl rfl rfl rfl rfl hl.1 ⟨Nat.le_of_ble_eq_true rfl, Nat.le_of_ble_eq_true rfl⟩ ⟨Nat.le_refl 0, Nat.le_refl 0⟩ (Nat.le_of_ble_eq_true rfl) dX6_replies_79 (fun H locs hW => ?_)
  refine lv_iadd hx hb dX6_replies_82 ?_
  refine lv_istore (lv' := [(5, .int (v15 + v17)), (4, .int y0), (0, .ref (a 0)), (1, .int x1), (2, .int x2), (3, .int x3)]) hx hb dX6_replies_83 hl (by decide) rfl (fun ls hl => ?_)
  refine lv_aload_n hx hb dX6_replies_85 rfl (lv_at hl 2 rfl) ?_
  refine gM_s C hW q787 dX6_replies_86 ?_
  refine lv_iconst (v := 2) hx hb dX6_replies_89 (by decide) ?_
  refine lM_s_k (k := 2) C hW (by decide) (by decide) dX6_replies_90 ?_
  refine lv_iload hx hb dX6_replies_91 (lv_at hl 0 rfl) ?_
  refine lv_iadd hx hb dX6_replies_93 ?_
  refine lv_istore (lv' := [(6, .int ((σ 0 2) + (v15 + v17))), (5, .int (v15 + v17)), (4, .int y0), (0, .ref (a 0)), (1, .int x1), (2, .int x2), (3, .int x3)]) hx hb dX6_replies_94 hl (by decide) rfl (fun ls hl => ?_)
  refine lv_aload_n hx hb dX6_replies_96 rfl (lv_at hl 3 rfl) ?_
  refine lv_dup hx hb dX6_replies_97 rfl ?_
  refine gM_came C hW q793 dX6_replies_98 ?_
  refine lv_iload hx hb dX6_replies_101 (lv_at hl 1 rfl) ?_
  refine lv_iadd hx hb dX6_replies_103 ?_
  refine pM_came C hW q793 dX6_replies_104 (fun H locs hW => ?_)
  refine lv_aload_n hx hb dX6_replies_107 rfl (lv_at hl 3 rfl) ?_
  refine gM_s C hW q787 dX6_replies_108 ?_
  refine lv_iconst (v := 2) hx hb dX6_replies_111 (by decide) ?_
  refine lv_iload hx hb dX6_replies_112 (lv_at hl 0 rfl) ?_
  refine lv_ldc hx hb C.2.2.2.1 (C.2.2.2.2.1 _ q977) dX6_replies_114 ?_
  refine lv_icmp_le (tgt := 124) hx hb dX6_replies_116 (by decide) (fun hc18 => ?_) (fun hc18 => ?_)
  · rw [if_pos hc18] at hm
    refine lv_iload hx hb dX6_replies_124 (lv_at hl 0 rfl) ?_
    exact wX6_replies_b126 C hr hlk (su σ 22 6 ((σ 22 6) + (v15 + v17))) x1 x2 x3 y0 (2 : Int32) (((σ 0 2) + (v15 + v17))) _ _ _ hm hW (lv_sub hl [3, 4, 5, 6, 2] rfl)
  · rw [if_neg hc18] at hm
    refine lv_ldc hx hb C.2.2.2.1 (C.2.2.2.2.1 _ q977) dX6_replies_119 ?_
    refine lv_goto (tgt := 126) hx hb dX6_replies_121 (by decide) ?_
    exact wX6_replies_b126 C hr hlk (su σ 22 6 ((σ 22 6) + (v15 + v17))) x1 x2 x3 y0 (2 : Int32) (999999 : Int32) _ _ _ hm hW (lv_sub hl [3, 4, 5, 6, 2] rfl)
def X6_replies (σ : MS) (p1 : Int32) : Option (MS) := (X6_place (σ 0 5) ((2 : Int32) + (σ 0 3))).bind fun v20 => (X6_place (σ 0 6) ((2 : Int32) + (σ 0 3))).bind fun v22 => ai v20 81 (ai v22 81 (if (σ 0 (Int32.toNatClampNeg v22)) ≤ (σ 0 (Int32.toNatClampNeg v20)) then (X6_replies_b57 σ p1 v20 v22 (-1 : Int32)) else (X6_replies_b57 σ p1 v20 v22 (1 : Int32))))
set_option maxHeartbeats 4000000 in
set_option maxRecDepth 100000 in
theorem c_X6_replies {l : Launch} {D : va_G} {cy cz : ClassId} {G : GT} {a : Nat → Nat} {σ : MS} {p1 : Int32} {σr : MS} (hm : X6_replies σ p1 = some σr) : CtV l D cy cz G yX6_replies cX6_replies 7 none 3 67 [.ref (a 0), .int p1] (cM a cy σ) (cM a cy σr) () := by
  refine ct_v (own := "PumpTalkModel") (by decide) rfl (Nat.le_of_ble_eq_true rfl) ?_
  intro p e s m below meth c ls A C hr hlk hW hl
  have hx := C.1
  have hb := C.2.1
  have hl : lv_has ls 7 [(0, .ref (a 0)), (1, .int p1)] := hl
  unfold X6_replies at hm
  refine lv_aload_n hx hb dX6_replies_0 rfl (lv_at hl 0 rfl) ?_
  refine gM_s C hW q787 dX6_replies_1 ?_
  refine lv_iconst (v := 5) hx hb dX6_replies_4 (by decide) ?_
  refine lM_s_k (k := 5) C hW (by decide) (by decide) dX6_replies_5 ?_
  refine lv_iconst (v := 2) hx hb dX6_replies_6 (by decide) ?_
  refine lv_aload_n hx hb dX6_replies_7 rfl (lv_at hl 0 rfl) ?_
  refine gM_s C hW q787 dX6_replies_8 ?_
  refine lv_iconst (v := 3) hx hb dX6_replies_11 (by decide) ?_
  refine lM_s_k (k := 3) C hW (by decide) (by decide) dX6_replies_12 ?_
  refine lv_iadd hx hb dX6_replies_13 ?_
  obtain ⟨v20, e19, hm⟩ := mi_bind hm
  refine cS_i (As := [.int (σ 0 5), .int ((2 : Int32) + (σ 0 3))]) (rest := []) C hW (c_X6_place e19) kX6_place q875 rfl rfl hl.1 ⟨Nat.le_of_ble_eq_true rfl, Nat.le_of_ble_eq_true rfl⟩ ⟨Nat.le_refl 0, Nat.le_refl 0⟩ (Nat.le_of_ble_eq_true rfl) dX6_replies_14 (fun H locs hW => ?_)
  refine lv_istore_n (lv' := [(2, .int v20), (0, .ref (a 0)), (1, .int p1)]) hx hb dX6_replies_17 rfl hl (by decide) rfl (fun ls hl => ?_)
  refine lv_aload_n hx hb dX6_replies_18 rfl (lv_at hl 1 rfl) ?_
  refine gM_s C hW q787 dX6_replies_19 ?_
  refine lv_bipush (v := 6) hx hb dX6_replies_22 (by decide) ?_
  refine lM_s_k (k := 6) C hW (by decide) (by decide) dX6_replies_24 ?_
  refine lv_iconst (v := 2) hx hb dX6_replies_25 (by decide) ?_
  refine lv_aload_n hx hb dX6_replies_26 rfl (lv_at hl 1 rfl) ?_
  refine gM_s C hW q787 dX6_replies_27 ?_
  refine lv_iconst (v := 3) hx hb dX6_replies_30 (by decide) ?_
  refine lM_s_k (k := 3) C hW (by decide) (by decide) dX6_replies_31 ?_
  refine lv_iadd hx hb dX6_replies_32 ?_
  obtain ⟨v22, e21, hm⟩ := mi_bind hm
  refine cS_i (As := [.int (σ 0 6), .int ((2 : Int32) + (σ 0 3))]) (rest := []) C hW (c_X6_place e21) kX6_place q875 rfl rfl hl.1 ⟨Nat.le_of_ble_eq_true rfl, Nat.le_of_ble_eq_true rfl⟩ ⟨Nat.le_refl 0, Nat.le_refl 0⟩ (Nat.le_of_ble_eq_true rfl) dX6_replies_33 (fun H locs hW => ?_)
  refine lv_istore_n (lv' := [(3, .int v22), (2, .int v20), (0, .ref (a 0)), (1, .int p1)]) hx hb dX6_replies_36 rfl hl (by decide) rfl (fun ls hl => ?_)
  refine lv_aload_n hx hb dX6_replies_37 rfl (lv_at hl 2 rfl) ?_
  refine gM_s C hW q787 dX6_replies_38 ?_
  refine lv_iload_n hx hb dX6_replies_41 rfl (lv_at hl 1 rfl) ?_
  obtain ⟨hi23, hm⟩ := mi_ai hm
  refine lM_s C hW hi23 dX6_replies_42 ?_
  refine lv_aload_n hx hb dX6_replies_43 rfl (lv_at hl 2 rfl) ?_
  refine gM_s C hW q787 dX6_replies_44 ?_
  refine lv_iload_n hx hb dX6_replies_47 rfl (lv_at hl 0 rfl) ?_
  obtain ⟨hi24, hm⟩ := mi_ai hm
  refine lM_s C hW hi24 dX6_replies_48 ?_
  refine lv_icmp_ge (tgt := 56) hx hb dX6_replies_49 (by decide) (fun hc25 => ?_) (fun hc25 => ?_)
  · rw [if_pos hc25] at hm
    refine lv_iconst (v := -1) hx hb dX6_replies_56 (by decide) ?_
    exact wX6_replies_b57 C hr hlk σ p1 v20 v22 (-1 : Int32) _ _ _ hm hW (lv_sub hl [2, 3, 1, 0] rfl)
  · rw [if_neg hc25] at hm
    refine lv_iconst (v := 1) hx hb dX6_replies_52 (by decide) ?_
    refine lv_goto (tgt := 57) hx hb dX6_replies_53 (by decide) ?_
    exact wX6_replies_b57 C hr hlk σ p1 v20 v22 (1 : Int32) _ _ _ hm hW (lv_sub hl [2, 3, 1, 0] rfl)
theorem kX6_replies : KM yX6_replies cX6_replies 7 none 1 := ⟨q975, q36, q72, q976, by decide +kernel, by decide +kernel, by decide +kernel⟩
def X6_minute_b60 (σ : MS) : Option (MS) := some (su σ 0 0 ((σ 0 0) + (1 : Int32)))
set_option maxHeartbeats 4000000 in
set_option maxRecDepth 100000 in
theorem wX6_minute_b60 {p : Program} {l : Launch} {e : Env} {s : State} {m : MethodId} {below : List Frame} {meth : Method} {c : Code} {D : va_G} {cy cz : ClassId} {G : GT} {A : Nat → Prop} {args : Array Value} {a : Nat → Nat} {σr : MS} (C : Cx p s m args c cX6_minute 2 "PumpTalkModel" D cy cz G A) (hr : meth.sig.returnType = none) (hlk : meth.locks = false) : ∀ (σ : MS) (H : Heap) (locs : List Loc) (ls : Array Slot), X6_minute_b60 σ = some σr → Wd D A s.heap H locs (cM a cy σ) → lv_has ls 2 [(0, .ref (a 0))] → W p l e (rmz 4 93) s m args below meth c H locs 0 0 (MQ below (QV D cy cz A (cM a cy σr) ()) args s 0 0 A) (F0 m 60 ls []) := by
  have hx := C.1
  have hb := C.2.1
  intro σ H locs ls hm hW hl
  unfold X6_minute_b60 at hm
  refine lv_aload_n hx hb dX6_minute_60 rfl (lv_at hl 0 rfl) ?_
  refine gM_s C hW q787 dX6_minute_61 ?_
  refine lv_iconst (v := 0) hx hb dX6_minute_64 (by decide) ?_
  refine lv_dup2_11 hx hb dX6_minute_65 rfl rfl ?_
  refine lM_s_k (k := 0) C hW (by decide) (by decide) dX6_minute_66 ?_
  refine lv_iconst (v := 1) hx hb dX6_minute_67 (by decide) ?_
  refine lv_iadd hx hb dX6_minute_68 ?_
  refine tM_s_k (k := 0) C hW (by decide) (by decide) dX6_minute_69 (fun H locs hW => ?_)
  obtain rfl := Option.some.inj hm
  exact en_v C hr hlk hW dX6_minute_70
def X6_minute (σ : MS) : Option (MS) := (X6_isSomebody σ).bind fun v2 => if v2 = (0 : Int32) then (X6_minute_b60 σ) else ((X6_apartOn σ (σ 0 5) (σ 0 6) (σ 0 3)).bind fun v5 => if v5 = (0 : Int32) then (X6_minute_b60 (su σ 0 3 (((σ 0 3) + (1 : Int32)) - ((σ 0 3) + (1 : Int32)) / (6 : Int32) * (6 : Int32)))) else ((X6_replies σ v5).bind fun s8 => X6_minute_b60 s8))
set_option maxHeartbeats 4000000 in
set_option maxRecDepth 100000 in
theorem c_X6_minute {l : Launch} {D : va_G} {cy cz : ClassId} {G : GT} {a : Nat → Nat} {σ : MS} {σr : MS} (hm : X6_minute σ = some σr) : CtV l D cy cz G yX6_minute cX6_minute 2 none 4 93 [.ref (a 0)] (cM a cy σ) (cM a cy σr) () := by
  refine ct_v (own := "PumpTalkModel") (by decide) rfl (Nat.le_of_ble_eq_true rfl) ?_
  intro p e s m below meth c ls A C hr hlk hW hl
  have hx := C.1
  have hb := C.2.1
  have hl : lv_has ls 2 [(0, .ref (a 0))] := hl
  unfold X6_minute at hm
  refine lv_aload_n hx hb dX6_minute_0 rfl (lv_at hl 0 rfl) ?_
  obtain ⟨v2, e1, hm⟩ := mi_bind hm
  refine cs_i (q0 := 0) (As := []) (rest := []) C hW (c_X6_isSomebody e1) kX6_isSomebody q943 rfl rfl rfl rfl rfl hl.1 ⟨Nat.le_of_ble_eq_true rfl, Nat.le_of_ble_eq_true rfl⟩ ⟨Nat.le_refl 0, Nat.le_refl 0⟩ (Nat.le_of_ble_eq_true rfl) dX6_minute_1 (fun H locs hW => ?_)
  refine lv_if_eq (tgt := 60) hx hb dX6_minute_4 (by decide) (fun hc3 => ?_) (fun hc3 => ?_)
  · rw [if_pos hc3] at hm
    exact wX6_minute_b60 C hr hlk σ _ _ _ hm hW (lv_sub hl [0] rfl)
  · rw [if_neg hc3] at hm
    refine lv_aload_n hx hb dX6_minute_7 rfl (lv_at hl 0 rfl) ?_
    refine lv_aload_n hx hb dX6_minute_8 rfl (lv_at hl 0 rfl) ?_
    refine gM_s C hW q787 dX6_minute_9 ?_
    refine lv_iconst (v := 5) hx hb dX6_minute_12 (by decide) ?_
    refine lM_s_k (k := 5) C hW (by decide) (by decide) dX6_minute_13 ?_
    refine lv_aload_n hx hb dX6_minute_14 rfl (lv_at hl 0 rfl) ?_
    refine gM_s C hW q787 dX6_minute_15 ?_
    refine lv_bipush (v := 6) hx hb dX6_minute_18 (by decide) ?_
    refine lM_s_k (k := 6) C hW (by decide) (by decide) dX6_minute_20 ?_
    refine lv_aload_n hx hb dX6_minute_21 rfl (lv_at hl 0 rfl) ?_
    refine gM_s C hW q787 dX6_minute_22 ?_
    refine lv_iconst (v := 3) hx hb dX6_minute_25 (by decide) ?_
    refine lM_s_k (k := 3) C hW (by decide) (by decide) dX6_minute_26 ?_
    obtain ⟨v5, e4, hm⟩ := mi_bind hm
    refine cs_i (q0 := 0) (As := [.int (σ 0 5), .int (σ 0 6), .int (σ 0 3)]) (rest := []) C hW (c_X6_apartOn e4) kX6_apartOn q927 rfl rfl rfl rfl rfl hl.1 ⟨Nat.le_of_ble_eq_true rfl, Nat.le_of_ble_eq_true rfl⟩ ⟨Nat.le_refl 0, Nat.le_refl 0⟩ (Nat.le_of_ble_eq_true rfl) dX6_minute_27 (fun H locs hW => ?_)
    refine lv_istore_n (lv' := [(1, .int v5), (0, .ref (a 0))]) hx hb dX6_minute_30 rfl hl (by decide) rfl (fun ls hl => ?_)
    refine lv_iload_n hx hb dX6_minute_31 rfl (lv_at hl 0 rfl) ?_
    refine lv_if_ne (tgt := 55) hx hb dX6_minute_32 (by decide) (fun hc6 => ?_) (fun hc6 => ?_)
    · rw [if_neg hc6] at hm
      refine lv_aload_n hx hb dX6_minute_55 rfl (lv_at hl 1 rfl) ?_
      refine lv_iload_n hx hb dX6_minute_56 rfl (lv_at hl 0 rfl) ?_
      obtain ⟨s8, e7, hm⟩ := mi_bind hm
      refine cs_v (q0 := 0) (As := [.int v5]) (rest := []) C hW (c_X6_replies e7) kX6_replies q973 rfl rfl rfl rfl rfl hl.1 ⟨Nat.le_of_ble_eq_true rfl, Nat.le_of_ble_eq_true rfl⟩ ⟨Nat.le_refl 0, Nat.le_refl 0⟩ (Nat.le_of_ble_eq_true rfl) dX6_minute_57 (fun H locs hW => ?_)
      exact wX6_minute_b60 C hr hlk s8 _ _ _ hm hW (lv_sub hl [1] rfl)
    · rw [if_pos hc6] at hm
      refine lv_aload_n hx hb dX6_minute_35 rfl (lv_at hl 1 rfl) ?_
      refine gM_s C hW q787 dX6_minute_36 ?_
      refine lv_iconst (v := 3) hx hb dX6_minute_39 (by decide) ?_
      refine lv_aload_n hx hb dX6_minute_40 rfl (lv_at hl 1 rfl) ?_
      refine gM_s C hW q787 dX6_minute_41 ?_
      refine lv_iconst (v := 3) hx hb dX6_minute_44 (by decide) ?_
      refine lM_s_k (k := 3) C hW (by decide) (by decide) dX6_minute_45 ?_
      refine lv_iconst (v := 1) hx hb dX6_minute_46 (by decide) ?_
      refine lv_iadd hx hb dX6_minute_47 ?_
      refine lv_bipush (v := 6) hx hb dX6_minute_48 (by decide) ?_
      refine lv_irem hx hb dX6_minute_50 (by decide) ?_
      refine tM_s_k (k := 3) C hW (by decide) (by decide) dX6_minute_51 (fun H locs hW => ?_)
      refine lv_goto (tgt := 60) hx hb dX6_minute_52 (by decide) ?_
      exact wX6_minute_b60 C hr hlk (su σ 0 3 (((σ 0 3) + (1 : Int32)) - ((σ 0 3) + (1 : Int32)) / (6 : Int32) * (6 : Int32))) _ _ _ hm hW (lv_sub hl [1] rfl)
theorem kX6_minute : KM yX6_minute cX6_minute 2 none 0 := ⟨q971, q35, q72, q972, by decide +kernel, by decide +kernel, by decide +kernel⟩
def X6_goesOn_b2 : Nat → MS → Int32 → Int32 → Option (MS)
  | 0, _, _, _ => none
  | n + 1, σ, x1, x2 => if x1 ≤ x2 then (some σ) else ((X6_minute σ).bind fun s3 => X6_goesOn_b2 n s3 x1 ((x2 + (1 : Int32))))
set_option maxHeartbeats 4000000 in
set_option maxRecDepth 100000 in
theorem wX6_goesOn_b2 {p : Program} {l : Launch} {e : Env} {s : State} {m : MethodId} {below : List Frame} {meth : Method} {c : Code} {D : va_G} {cy cz : ClassId} {G : GT} {A : Nat → Prop} {args : Array Value} {a : Nat → Nat} {σr : MS} (C : Cx p s m args c cX6_goesOn 3 "PumpTalkModel" D cy cz G A) (hr : meth.sig.returnType = none) (hlk : meth.locks = false) : ∀ (n : Nat) (σ : MS) (x1 : Int32) (x2 : Int32) (H : Heap) (locs : List Loc) (ls : Array Slot), X6_goesOn_b2 n σ x1 x2 = some σr → Wd D A s.heap H locs (cM a cy σ) → lv_has ls 3 [(0, .ref (a 0)), (1, .int x1), (2, .int x2)] → W p l e (rmz 5 114) s m args below meth c H locs 0 0 (MQ below (QV D cy cz A (cM a cy σr) ()) args s 0 0 A) (F0 m 2 ls []) := by
  have hx := C.1
  have hb := C.2.1
  intro n
  induction n with
  | zero =>
    intro σ x1 x2 H locs ls hm
    rw [X6_goesOn_b2] at hm
    cases hm
  | succ n ih =>
    intro σ x1 x2 H locs ls hm hW hl
    rw [X6_goesOn_b2] at hm
    refine lv_iload_n hx hb dX6_goesOn_2 rfl (lv_at hl 2 rfl) ?_
    refine lv_iload_n hx hb dX6_goesOn_3 rfl (lv_at hl 1 rfl) ?_
    refine lv_icmp_ge (tgt := 17) hx hb dX6_goesOn_4 (by decide) (fun hc1 => ?_) (fun hc1 => ?_)
    · rw [if_pos hc1] at hm
      obtain rfl := Option.some.inj hm
      exact en_v C hr hlk hW dX6_goesOn_17
    · rw [if_neg hc1] at hm
      refine lv_aload_n hx hb dX6_goesOn_7 rfl (lv_at hl 0 rfl) ?_
      obtain ⟨s3, e2, hm⟩ := mi_bind hm
      refine cs_v (q0 := 0) (As := []) (rest := []) C hW (c_X6_minute e2) kX6_minute q969 rfl rfl rfl rfl rfl hl.1 ⟨Nat.le_of_ble_eq_true rfl, Nat.le_of_ble_eq_true rfl⟩ ⟨Nat.le_refl 0, Nat.le_refl 0⟩ (Nat.le_of_ble_eq_true rfl) dX6_goesOn_8 (fun H locs hW => ?_)
      refine lv_iinc (v := (x2 + (1 : Int32))) (lv' := [(2, .int (x2 + (1 : Int32))), (0, .ref (a 0)), (1, .int x1)]) hx hb dX6_goesOn_11 hl (k := 2) rfl (congrArg (fun z : Int32 => x2 + z) (by decide)) (by decide) rfl (fun ls hl => ?_)
      refine lv_goto (tgt := 2) hx hb dX6_goesOn_14 (by decide) ?_
      exact ih s3 x1 ((x2 + (1 : Int32))) _ _ _ hm hW (lv_sub hl [1, 2, 0] rfl)
def X6_goesOn (σ : MS) (p1 : Int32) : Option (MS) := X6_goesOn_b2 FU σ p1 (0 : Int32)
set_option maxHeartbeats 4000000 in
set_option maxRecDepth 100000 in
theorem c_X6_goesOn {l : Launch} {D : va_G} {cy cz : ClassId} {G : GT} {a : Nat → Nat} {σ : MS} {p1 : Int32} {σr : MS} (hm : X6_goesOn σ p1 = some σr) : CtV l D cy cz G yX6_goesOn cX6_goesOn 3 none 5 114 [.ref (a 0), .int p1] (cM a cy σ) (cM a cy σr) () := by
  refine ct_v (own := "PumpTalkModel") (by decide) rfl (Nat.le_of_ble_eq_true rfl) ?_
  intro p e s m below meth c ls A C hr hlk hW hl
  have hx := C.1
  have hb := C.2.1
  have hl : lv_has ls 3 [(0, .ref (a 0)), (1, .int p1)] := hl
  unfold X6_goesOn at hm
  refine lv_iconst (v := 0) hx hb dX6_goesOn_0 (by decide) ?_
  refine lv_istore_n (lv' := [(2, .int (0 : Int32)), (0, .ref (a 0)), (1, .int p1)]) hx hb dX6_goesOn_1 rfl hl (by decide) rfl (fun ls hl => ?_)
  exact wX6_goesOn_b2 C hr hlk FU σ p1 (0 : Int32) _ _ _ hm hW (lv_sub hl [1, 2, 0] rfl)
theorem kX6_goesOn : KM yX6_goesOn cX6_goesOn 3 none 1 := ⟨q967, q34, q72, q968, by decide +kernel, by decide +kernel, by decide +kernel⟩
def X6_go (σ : MS) (p1 : Int32) : Option (Int32 × MS) := (X6_in (Int32.toInt64 p1) (1 : Int64) (100 : Int64)).bind fun v2 => if v2 = (0 : Int32) then ((X6_finds σ (-1000001 : Int32)).bind fun q10 => some (q10.1, q10.2)) else (if ((σ 0 0) + p1) ≤ (99999 : Int32) then ((X6_goesOn σ p1).bind fun s6 => some ((s6 0 2), s6)) else ((X6_finds σ (-1000005 : Int32)).bind fun q8 => some (q8.1, q8.2)))
set_option maxHeartbeats 4000000 in
set_option maxRecDepth 100000 in
theorem c_X6_go {l : Launch} {D : va_G} {cy cz : ClassId} {G : GT} {a : Nat → Nat} {σ : MS} {p1 : Int32} {r : Int32} {σr : MS} (hm : X6_go σ p1 = some (r, σr)) : CtI l D cy cz G yX6_go cX6_go 2 (some .int) 6 136 [.ref (a 0), .int p1] (cM a cy σ) (cM a cy σr) r := by
  refine ct_i (own := "PumpTalkModel") (by decide) rfl (Nat.le_of_ble_eq_true rfl) ?_
  intro p e s m below meth c ls A C hr hlk hW hl
  have hx := C.1
  have hb := C.2.1
  have hl : lv_has ls 2 [(0, .ref (a 0)), (1, .int p1)] := hl
  unfold X6_go at hm
  refine lv_iload_n hx hb dX6_go_0 rfl (lv_at hl 1 rfl) ?_
  refine lv_i2l hx hb dX6_go_1 rfl ?_
  refine lv_lconst (v := 1) hx hb dX6_go_2 (by decide) ?_
  refine lv_ldc2 hx hb C.2.2.2.1 (C.2.2.2.2.1 _ q962) dX6_go_3 ?_
  obtain ⟨v2, e1, hm⟩ := mi_bind hm
  refine cS_i (As := [.long (Int32.toInt64 p1), .long (1 : Int64), .long (100 : Int64)]) (rest := []) C hW (c_X6_in e1) kX6_in q862 rfl rfl hl.1 ⟨Nat.le_of_ble_eq_true rfl, Nat.le_of_ble_eq_true rfl⟩ ⟨Nat.le_refl 0, Nat.le_refl 0⟩ (Nat.le_of_ble_eq_true rfl) dX6_go_6 (fun H locs hW => ?_)
  refine lv_if_ne (tgt := 19) hx hb dX6_go_9 (by decide) (fun hc3 => ?_) (fun hc3 => ?_)
  · rw [if_neg hc3] at hm
    refine lv_aload_n hx hb dX6_go_19 rfl (lv_at hl 0 rfl) ?_
    refine gM_s C hW q787 dX6_go_20 ?_
    refine lv_iconst (v := 0) hx hb dX6_go_23 (by decide) ?_
    refine lM_s_k (k := 0) C hW (by decide) (by decide) dX6_go_24 ?_
    refine lv_iload_n hx hb dX6_go_25 rfl (lv_at hl 1 rfl) ?_
    refine lv_iadd hx hb dX6_go_26 ?_
    refine lv_ldc hx hb C.2.2.2.1 (C.2.2.2.2.1 _ q963) dX6_go_27 ?_
    refine lv_icmp_le (tgt := 39) hx hb dX6_go_29 (by decide) (fun hc4 => ?_) (fun hc4 => ?_)
    · rw [if_pos hc4] at hm
      refine lv_aload_n hx hb dX6_go_39 rfl (lv_at hl 0 rfl) ?_
      refine lv_iload_n hx hb dX6_go_40 rfl (lv_at hl 1 rfl) ?_
      obtain ⟨s6, e5, hm⟩ := mi_bind hm
      refine cs_v (q0 := 0) (As := [.int p1]) (rest := []) C hW (c_X6_goesOn e5) kX6_goesOn q965 rfl rfl rfl rfl rfl hl.1 ⟨Nat.le_of_ble_eq_true rfl, Nat.le_of_ble_eq_true rfl⟩ ⟨Nat.le_refl 0, Nat.le_refl 0⟩ (Nat.le_of_ble_eq_true rfl) dX6_go_41 (fun H locs hW => ?_)
      refine lv_aload_n hx hb dX6_go_44 rfl (lv_at hl 0 rfl) ?_
      refine gM_s C hW q787 dX6_go_45 ?_
      refine lv_iconst (v := 2) hx hb dX6_go_48 (by decide) ?_
      refine lM_s_k (k := 2) C hW (by decide) (by decide) dX6_go_49 ?_
      obtain ⟨rfl, rfl⟩ := Prod.mk.inj (Option.some.inj hm)
      exact en_i C hr hlk hW dX6_go_50
    · rw [if_neg hc4] at hm
      refine lv_aload_n hx hb dX6_go_32 rfl (lv_at hl 0 rfl) ?_
      refine lv_ldc hx hb C.2.2.2.1 (C.2.2.2.2.1 _ q964) dX6_go_33 ?_
      obtain ⟨q8, e7, hm⟩ := mi_bind hm
      refine cs_i (q0 := 0) (As := [.int (-1000005 : Int32)]) (rest := []) C hW (c_X6_finds e7) kX6_finds q866 rfl rfl rfl rfl rfl hl.1 ⟨Nat.le_of_ble_eq_true rfl, Nat.le_of_ble_eq_true rfl⟩ ⟨Nat.le_refl 0, Nat.le_refl 0⟩ (Nat.le_of_ble_eq_true rfl) dX6_go_35 (fun H locs hW => ?_)
      obtain ⟨rfl, rfl⟩ := Prod.mk.inj (Option.some.inj hm)
      exact en_i C hr hlk hW dX6_go_38
  · rw [if_pos hc3] at hm
    refine lv_aload_n hx hb dX6_go_12 rfl (lv_at hl 0 rfl) ?_
    refine lv_ldc hx hb C.2.2.2.1 (C.2.2.2.2.1 _ q865) dX6_go_13 ?_
    obtain ⟨q10, e9, hm⟩ := mi_bind hm
    refine cs_i (q0 := 0) (As := [.int (-1000001 : Int32)]) (rest := []) C hW (c_X6_finds e9) kX6_finds q866 rfl rfl rfl rfl rfl hl.1 ⟨Nat.le_of_ble_eq_true rfl, Nat.le_of_ble_eq_true rfl⟩ ⟨Nat.le_refl 0, Nat.le_refl 0⟩ (Nat.le_of_ble_eq_true rfl) dX6_go_15 (fun H locs hW => ?_)
    obtain ⟨rfl, rfl⟩ := Prod.mk.inj (Option.some.inj hm)
    exact en_i C hr hlk hW dX6_go_18
theorem kX6_go : KM yX6_go cX6_go 2 (some .int) 1 := ⟨q959, q960, q72, q961, by decide +kernel, by decide +kernel, by decide +kernel⟩
def X6_voices_b4 (σ : MS) : Nat → Int32 → Int32 → Option (Int32)
  | 0, _, _ => none
  | n + 1, x1, x2 => if (σ 0 1) ≤ x2 then (some x1) else ((X6_its σ x2 (1 : Int32)).bind fun v3 => X6_voices_b4 σ n (x1 + v3) ((x2 + (1 : Int32))))
set_option maxHeartbeats 4000000 in
set_option maxRecDepth 100000 in
theorem wX6_voices_b4 {p : Program} {l : Launch} {e : Env} {s : State} {m : MethodId} {below : List Frame} {meth : Method} {c : Code} {D : va_G} {cy cz : ClassId} {G : GT} {A : Nat → Prop} {args : Array Value} {a : Nat → Nat} {r : Int32} {σ : MS} (C : Cx p s m args c cX6_voices 3 "PumpTalkModel" D cy cz G A) (hr : meth.sig.returnType = some .int) (hlk : meth.locks = false) : ∀ (n : Nat) (x1 : Int32) (x2 : Int32) (H : Heap) (locs : List Loc) (ls : Array Slot), X6_voices_b4 σ n x1 x2 = some r → Wd D A s.heap H locs (cM a cy σ) → lv_has ls 3 [(0, .ref (a 0)), (1, .int x1), (2, .int x2)] → W p l e (rmz 2 43) s m args below meth c H locs 0 0 (MQ below (QI D cy cz A (cM a cy σ) r) args s 0 0 A) (F0 m 4 ls []) := by
  have hx := C.1
  have hb := C.2.1
  intro n
  induction n with
  | zero =>
    intro x1 x2 H locs ls hm
    rw [X6_voices_b4] at hm
    cases hm
  | succ n ih =>
    intro x1 x2 H locs ls hm hW hl
    rw [X6_voices_b4] at hm
    refine lv_iload_n hx hb dX6_voices_4 rfl (lv_at hl 2 rfl) ?_
    refine lv_aload_n hx hb dX6_voices_5 rfl (lv_at hl 0 rfl) ?_
    refine gM_s C hW q787 dX6_voices_6 ?_
    refine lv_iconst (v := 1) hx hb dX6_voices_9 (by decide) ?_
    refine lM_s_k (k := 1) C hW (by decide) (by decide) dX6_voices_10 ?_
    refine lv_icmp_ge (tgt := 29) hx hb dX6_voices_11 (by decide) (fun hc1 => ?_) (fun hc1 => ?_)
    · rw [if_pos hc1] at hm
      refine lv_iload_n hx hb dX6_voices_29 rfl (lv_at hl 1 rfl) ?_
      obtain rfl := Option.some.inj hm
      exact en_i C hr hlk hW dX6_voices_30
    · rw [if_neg hc1] at hm
      refine lv_iload_n hx hb dX6_voices_14 rfl (lv_at hl 1 rfl) ?_
      refine lv_aload_n hx hb dX6_voices_15 rfl (lv_at hl 0 rfl) ?_
      refine lv_iload_n hx hb dX6_voices_16 rfl (lv_at hl 2 rfl) ?_
      refine lv_iconst (v := 1) hx hb dX6_voices_17 (by decide) ?_
      obtain ⟨v3, e2, hm⟩ := mi_bind hm
      refine cs_i (q0 := 0) (As := [.int x2, .int (1 : Int32)]) (rest := [.int x1]) C hW (c_X6_its e2) kX6_its q887 rfl rfl rfl rfl rfl hl.1 ⟨Nat.le_of_ble_eq_true rfl, Nat.le_of_ble_eq_true rfl⟩ ⟨Nat.le_refl 0, Nat.le_refl 0⟩ (Nat.le_of_ble_eq_true rfl) dX6_voices_18 (fun H locs hW => ?_)
      refine lv_iadd hx hb dX6_voices_21 ?_
      refine lv_istore_n (lv' := [(1, .int (x1 + v3)), (0, .ref (a 0)), (2, .int x2)]) hx hb dX6_voices_22 rfl hl (by decide) rfl (fun ls hl => ?_)
      refine lv_iinc (v := (x2 + (1 : Int32))) (lv' := [(2, .int (x2 + (1 : Int32))), (1, .int (x1 + v3)), (0, .ref (a 0))]) hx hb dX6_voices_23 hl (k := 2) rfl (congrArg (fun z : Int32 => x2 + z) (by decide)) (by decide) rfl (fun ls hl => ?_)
      refine lv_goto (tgt := 4) hx hb dX6_voices_26 (by decide) ?_
      exact ih (x1 + v3) ((x2 + (1 : Int32))) _ _ _ hm hW (lv_sub hl [2, 1, 0] rfl)
def X6_voices (σ : MS) : Option (Int32) := X6_voices_b4 σ FU (0 : Int32) (0 : Int32)
set_option maxHeartbeats 4000000 in
set_option maxRecDepth 100000 in
theorem c_X6_voices {l : Launch} {D : va_G} {cy cz : ClassId} {G : GT} {a : Nat → Nat} {σ : MS} {r : Int32} (hm : X6_voices σ = some r) : CtI l D cy cz G yX6_voices cX6_voices 3 (some .int) 2 43 [.ref (a 0)] (cM a cy σ) (cM a cy σ) r := by
  refine ct_i (own := "PumpTalkModel") (by decide) rfl (Nat.le_of_ble_eq_true rfl) ?_
  intro p e s m below meth c ls A C hr hlk hW hl
  have hx := C.1
  have hb := C.2.1
  have hl : lv_has ls 3 [(0, .ref (a 0))] := hl
  unfold X6_voices at hm
  refine lv_iconst (v := 0) hx hb dX6_voices_0 (by decide) ?_
  refine lv_istore_n (lv' := [(1, .int (0 : Int32)), (0, .ref (a 0))]) hx hb dX6_voices_1 rfl hl (by decide) rfl (fun ls hl => ?_)
  refine lv_iconst (v := 0) hx hb dX6_voices_2 (by decide) ?_
  refine lv_istore_n (lv' := [(2, .int (0 : Int32)), (1, .int (0 : Int32)), (0, .ref (a 0))]) hx hb dX6_voices_3 rfl hl (by decide) rfl (fun ls hl => ?_)
  exact wX6_voices_b4 C hr hlk FU (0 : Int32) (0 : Int32) _ _ _ hm hW (lv_sub hl [2, 1, 0] rfl)
theorem kX6_voices : KM yX6_voices cX6_voices 3 (some .int) 0 := ⟨q987, q37, q72, q988, by decide +kernel, by decide +kernel, by decide +kernel⟩
def X6_now (σ : MS) (p1 : Int32) : Option (Int32 × MS) := if p1 = (0 : Int32) then (some ((σ 0 0), σ)) else (if p1 = (1 : Int32) then (some ((σ 0 2), σ)) else (if p1 = (2 : Int32) then (some ((σ 0 3), σ)) else (if p1 = (3 : Int32) then ((X6_isSomebody σ).bind fun v6 => if v6 = (0 : Int32) then (some ((-1 : Int32), σ)) else (some ((((8 : Int32) * (σ 0 5)) + (σ 0 6)), σ))) else (if p1 = (4 : Int32) then ((X6_disputed σ).bind fun v10 => some (v10, σ)) else (if p1 = (5 : Int32) then ((X6_voices σ).bind fun v13 => some (v13, σ)) else ((X6_finds σ (-1000001 : Int32)).bind fun q15 => some (q15.1, q15.2)))))))
set_option maxHeartbeats 4000000 in
set_option maxRecDepth 100000 in
theorem c_X6_now {l : Launch} {D : va_G} {cy cz : ClassId} {G : GT} {a : Nat → Nat} {σ : MS} {p1 : Int32} {r : Int32} {σr : MS} (hm : X6_now σ p1 = some (r, σr)) : CtI l D cy cz G yX6_now cX6_now 2 (some .int) 4 89 [.ref (a 0), .int p1] (cM a cy σ) (cM a cy σr) r := by
  refine ct_i (own := "PumpTalkModel") (by decide) rfl (Nat.le_of_ble_eq_true rfl) ?_
  intro p e s m below meth c ls A C hr hlk hW hl
  have hx := C.1
  have hb := C.2.1
  have hl : lv_has ls 2 [(0, .ref (a 0)), (1, .int p1)] := hl
  unfold X6_now at hm
  refine lv_iload_n hx hb dX6_now_0 rfl (lv_at hl 1 rfl) ?_
  by_cases ht1 : p1 = (0 : Int32)
  · rw [if_pos ht1] at hm
    refine lv_tableIn (tgt := 40) (off := 39) hx hb dX6_now_1 (by rw [ht1]; decide) (by rw [ht1]; decide) (by rw [ht1]; rfl) (by decide) ?_
    refine lv_aload_n hx hb dX6_now_40 rfl (lv_at hl 0 rfl) ?_
    refine gM_s C hW q787 dX6_now_41 ?_
    refine lv_iconst (v := 0) hx hb dX6_now_44 (by decide) ?_
    refine lM_s_k (k := 0) C hW (by decide) (by decide) dX6_now_45 ?_
    obtain ⟨rfl, rfl⟩ := Prod.mk.inj (Option.some.inj hm)
    exact en_i C hr hlk hW dX6_now_46
  · rw [if_neg ht1] at hm
    by_cases ht2 : p1 = (1 : Int32)
    · rw [if_pos ht2] at hm
      refine lv_tableIn (tgt := 47) (off := 46) hx hb dX6_now_1 (by rw [ht2]; decide) (by rw [ht2]; decide) (by rw [ht2]; rfl) (by decide) ?_
      refine lv_aload_n hx hb dX6_now_47 rfl (lv_at hl 0 rfl) ?_
      refine gM_s C hW q787 dX6_now_48 ?_
      refine lv_iconst (v := 2) hx hb dX6_now_51 (by decide) ?_
      refine lM_s_k (k := 2) C hW (by decide) (by decide) dX6_now_52 ?_
      obtain ⟨rfl, rfl⟩ := Prod.mk.inj (Option.some.inj hm)
      exact en_i C hr hlk hW dX6_now_53
    · rw [if_neg ht2] at hm
      by_cases ht3 : p1 = (2 : Int32)
      · rw [if_pos ht3] at hm
        refine lv_tableIn (tgt := 54) (off := 53) hx hb dX6_now_1 (by rw [ht3]; decide) (by rw [ht3]; decide) (by rw [ht3]; rfl) (by decide) ?_
        refine lv_aload_n hx hb dX6_now_54 rfl (lv_at hl 0 rfl) ?_
        refine gM_s C hW q787 dX6_now_55 ?_
        refine lv_iconst (v := 3) hx hb dX6_now_58 (by decide) ?_
        refine lM_s_k (k := 3) C hW (by decide) (by decide) dX6_now_59 ?_
        obtain ⟨rfl, rfl⟩ := Prod.mk.inj (Option.some.inj hm)
        exact en_i C hr hlk hW dX6_now_60
      · rw [if_neg ht3] at hm
        by_cases ht4 : p1 = (3 : Int32)
        · rw [if_pos ht4] at hm
          refine lv_tableIn (tgt := 61) (off := 60) hx hb dX6_now_1 (by rw [ht4]; decide) (by rw [ht4]; decide) (by rw [ht4]; rfl) (by decide) ?_
          refine lv_aload_n hx hb dX6_now_61 rfl (lv_at hl 0 rfl) ?_
          obtain ⟨v6, e5, hm⟩ := mi_bind hm
          refine cs_i (q0 := 0) (As := []) (rest := []) C hW (c_X6_isSomebody e5) kX6_isSomebody q943 rfl rfl rfl rfl rfl hl.1 ⟨Nat.le_of_ble_eq_true rfl, Nat.le_of_ble_eq_true rfl⟩ ⟨Nat.le_refl 0, Nat.le_refl 0⟩ (Nat.le_of_ble_eq_true rfl) dX6_now_62 (fun H locs hW => ?_)
          refine lv_if_eq (tgt := 88) hx hb dX6_now_65 (by decide) (fun hc7 => ?_) (fun hc7 => ?_)
          · rw [if_pos hc7] at hm
            refine lv_iconst (v := -1) hx hb dX6_now_88 (by decide) ?_
            obtain ⟨rfl, rfl⟩ := Prod.mk.inj (Option.some.inj hm)
            exact en_i C hr hlk hW dX6_now_89
          · rw [if_neg hc7] at hm
            refine lv_bipush (v := 8) hx hb dX6_now_68 (by decide) ?_
            refine lv_aload_n hx hb dX6_now_70 rfl (lv_at hl 0 rfl) ?_
            refine gM_s C hW q787 dX6_now_71 ?_
            refine lv_iconst (v := 5) hx hb dX6_now_74 (by decide) ?_
            refine lM_s_k (k := 5) C hW (by decide) (by decide) dX6_now_75 ?_
            refine lv_imul hx hb dX6_now_76 ?_
            refine lv_aload_n hx hb dX6_now_77 rfl (lv_at hl 0 rfl) ?_
            refine gM_s C hW q787 dX6_now_78 ?_
            refine lv_bipush (v := 6) hx hb dX6_now_81 (by decide) ?_
            refine lM_s_k (k := 6) C hW (by decide) (by decide) dX6_now_83 ?_
            refine lv_iadd hx hb dX6_now_84 ?_
            refine lv_goto (tgt := 89) hx hb dX6_now_85 (by decide) ?_
            obtain ⟨rfl, rfl⟩ := Prod.mk.inj (Option.some.inj hm)
            exact en_i C hr hlk hW dX6_now_89
        · rw [if_neg ht4] at hm
          by_cases ht8 : p1 = (4 : Int32)
          · rw [if_pos ht8] at hm
            refine lv_tableIn (tgt := 90) (off := 89) hx hb dX6_now_1 (by rw [ht8]; decide) (by rw [ht8]; decide) (by rw [ht8]; rfl) (by decide) ?_
            refine lv_aload_n hx hb dX6_now_90 rfl (lv_at hl 0 rfl) ?_
            obtain ⟨v10, e9, hm⟩ := mi_bind hm
            refine cs_i (q0 := 0) (As := []) (rest := []) C hW (c_X6_disputed e9) kX6_disputed q939 rfl rfl rfl rfl rfl hl.1 ⟨Nat.le_of_ble_eq_true rfl, Nat.le_of_ble_eq_true rfl⟩ ⟨Nat.le_refl 0, Nat.le_refl 0⟩ (Nat.le_of_ble_eq_true rfl) dX6_now_91 (fun H locs hW => ?_)
            obtain ⟨rfl, rfl⟩ := Prod.mk.inj (Option.some.inj hm)
            exact en_i C hr hlk hW dX6_now_94
          · rw [if_neg ht8] at hm
            by_cases ht11 : p1 = (5 : Int32)
            · rw [if_pos ht11] at hm
              refine lv_tableIn (tgt := 95) (off := 94) hx hb dX6_now_1 (by rw [ht11]; decide) (by rw [ht11]; decide) (by rw [ht11]; rfl) (by decide) ?_
              refine lv_aload_n hx hb dX6_now_95 rfl (lv_at hl 0 rfl) ?_
              obtain ⟨v13, e12, hm⟩ := mi_bind hm
              refine cs_i (q0 := 0) (As := []) (rest := []) C hW (c_X6_voices e12) kX6_voices q985 rfl rfl rfl rfl rfl hl.1 ⟨Nat.le_of_ble_eq_true rfl, Nat.le_of_ble_eq_true rfl⟩ ⟨Nat.le_refl 0, Nat.le_refl 0⟩ (Nat.le_of_ble_eq_true rfl) dX6_now_96 (fun H locs hW => ?_)
              obtain ⟨rfl, rfl⟩ := Prod.mk.inj (Option.some.inj hm)
              exact en_i C hr hlk hW dX6_now_99
            · rw [if_neg ht11] at hm
              refine lv_tableOut (tgt := 100) hx hb dX6_now_1 (by have ht := tab_out (x := p1) 0 6 (by decide) (fun k hk => by rcases (show k = 0 ∨ k = 1 ∨ k = 2 ∨ k = 3 ∨ k = 4 ∨ k = 5 by omega) with rfl | rfl | rfl | rfl | rfl | rfl <;> first | exact ht1 | exact ht2 | exact ht3 | exact ht4 | exact ht8 | exact ht11); omega) (by decide) ?_
              refine lv_aload_n hx hb dX6_now_100 rfl (lv_at hl 0 rfl) ?_
              refine lv_ldc hx hb C.2.2.2.1 (C.2.2.2.2.1 _ q865) dX6_now_101 ?_
              obtain ⟨q15, e14, hm⟩ := mi_bind hm
              refine cs_i (q0 := 0) (As := [.int (-1000001 : Int32)]) (rest := []) C hW (c_X6_finds e14) kX6_finds q866 rfl rfl rfl rfl rfl hl.1 ⟨Nat.le_of_ble_eq_true rfl, Nat.le_of_ble_eq_true rfl⟩ ⟨Nat.le_refl 0, Nat.le_refl 0⟩ (Nat.le_of_ble_eq_true rfl) dX6_now_103 (fun H locs hW => ?_)
              obtain ⟨rfl, rfl⟩ := Prod.mk.inj (Option.some.inj hm)
              exact en_i C hr hlk hW dX6_now_106
theorem kX6_now : KM yX6_now cX6_now 2 (some .int) 1 := ⟨q982, q983, q72, q984, by decide +kernel, by decide +kernel, by decide +kernel⟩
def X6_laysAside_b2 : Nat → MS → Int32 → Option (MS)
  | 0, _, _ => none
  | n + 1, σ, x1 => if (81 : Int32) ≤ x1 then (some σ) else (ai x1 81 (ai x1 81 (X6_laysAside_b2 n (su σ 3 (Int32.toNatClampNeg x1) (σ 0 (Int32.toNatClampNeg x1))) ((x1 + (1 : Int32))))))
set_option maxHeartbeats 4000000 in
set_option maxRecDepth 100000 in
theorem wX6_laysAside_b2 {p : Program} {l : Launch} {e : Env} {s : State} {m : MethodId} {below : List Frame} {meth : Method} {c : Code} {D : va_G} {cy cz : ClassId} {G : GT} {A : Nat → Prop} {args : Array Value} {a : Nat → Nat} {σr : MS} (C : Cx p s m args c cX6_laysAside 2 "PumpTalkModel" D cy cz G A) (hr : meth.sig.returnType = none) (hlk : meth.locks = false) : ∀ (n : Nat) (σ : MS) (x1 : Int32) (H : Heap) (locs : List Loc) (ls : Array Slot), X6_laysAside_b2 n σ x1 = some σr → Wd D A s.heap H locs (cM a cy σ) → lv_has ls 2 [(0, .ref (a 0)), (1, .int x1)] → W p l e (rmz 0 0) s m args below meth c H locs 0 0 (MQ below (QV D cy cz A (cM a cy σr) ()) args s 0 0 A) (F0 m 2 ls []) := by
  have hx := C.1
  have hb := C.2.1
  intro n
  induction n with
  | zero =>
    intro σ x1 H locs ls hm
    rw [X6_laysAside_b2] at hm
    cases hm
  | succ n ih =>
    intro σ x1 H locs ls hm hW hl
    rw [X6_laysAside_b2] at hm
    refine lv_iload_n hx hb dX6_laysAside_2 rfl (lv_at hl 1 rfl) ?_
    refine lv_bipush (v := 81) hx hb dX6_laysAside_3 (by decide) ?_
    refine lv_icmp_ge (tgt := 26) hx hb dX6_laysAside_5 (by decide) (fun hc1 => ?_) (fun hc1 => ?_)
    · rw [if_pos hc1] at hm
      obtain rfl := Option.some.inj hm
      exact en_v C hr hlk hW dX6_laysAside_26
    · rw [if_neg hc1] at hm
      refine lv_aload_n hx hb dX6_laysAside_8 rfl (lv_at hl 0 rfl) ?_
      refine gM_aside C hW q790 dX6_laysAside_9 ?_
      refine lv_iload_n hx hb dX6_laysAside_12 rfl (lv_at hl 1 rfl) ?_
      refine lv_aload_n hx hb dX6_laysAside_13 rfl (lv_at hl 0 rfl) ?_
      refine gM_s C hW q787 dX6_laysAside_14 ?_
      refine lv_iload_n hx hb dX6_laysAside_17 rfl (lv_at hl 1 rfl) ?_
      obtain ⟨hi2, hm⟩ := mi_ai hm
      refine lM_s C hW hi2 dX6_laysAside_18 ?_
      obtain ⟨hi3, hm⟩ := mi_ai hm
      refine tM_aside C hW hi3 dX6_laysAside_19 (fun H locs hW => ?_)
      refine lv_iinc (v := (x1 + (1 : Int32))) (lv' := [(1, .int (x1 + (1 : Int32))), (0, .ref (a 0))]) hx hb dX6_laysAside_20 hl (k := 1) rfl (congrArg (fun z : Int32 => x1 + z) (by decide)) (by decide) rfl (fun ls hl => ?_)
      refine lv_goto (tgt := 2) hx hb dX6_laysAside_23 (by decide) ?_
      exact ih (su σ 3 (Int32.toNatClampNeg x1) (σ 0 (Int32.toNatClampNeg x1))) ((x1 + (1 : Int32))) _ _ _ hm hW (lv_sub hl [1, 0] rfl)
def X6_laysAside (σ : MS) : Option (MS) := X6_laysAside_b2 FU σ (0 : Int32)
set_option maxHeartbeats 4000000 in
set_option maxRecDepth 100000 in
theorem c_X6_laysAside {l : Launch} {D : va_G} {cy cz : ClassId} {G : GT} {a : Nat → Nat} {σ : MS} {σr : MS} (hm : X6_laysAside σ = some σr) : CtV l D cy cz G yX6_laysAside cX6_laysAside 2 none 0 0 [.ref (a 0)] (cM a cy σ) (cM a cy σr) () := by
  refine ct_v (own := "PumpTalkModel") (by decide) rfl (Nat.le_of_ble_eq_true rfl) ?_
  intro p e s m below meth c ls A C hr hlk hW hl
  have hx := C.1
  have hb := C.2.1
  have hl : lv_has ls 2 [(0, .ref (a 0))] := hl
  unfold X6_laysAside at hm
  refine lv_iconst (v := 0) hx hb dX6_laysAside_0 (by decide) ?_
  refine lv_istore_n (lv' := [(1, .int (0 : Int32)), (0, .ref (a 0))]) hx hb dX6_laysAside_1 rfl hl (by decide) rfl (fun ls hl => ?_)
  exact wX6_laysAside_b2 C hr hlk FU σ (0 : Int32) _ _ _ hm hW (lv_sub hl [1, 0] rfl)
theorem kX6_laysAside : KM yX6_laysAside cX6_laysAside 2 none 0 := ⟨q1000, q39, q72, q1001, by decide +kernel, by decide +kernel, by decide +kernel⟩
def X6_takesBack_b2 : Nat → MS → Int32 → Int32 → Option (Int32 × MS)
  | 0, _, _, _ => none
  | n + 1, σ, x1, x2 => if (81 : Int32) ≤ x2 then (some (x1, σ)) else (ai x2 81 (ai x2 81 (X6_takesBack_b2 n (su σ 0 (Int32.toNatClampNeg x2) (σ 3 (Int32.toNatClampNeg x2))) x1 ((x2 + (1 : Int32))))))
set_option maxHeartbeats 4000000 in
set_option maxRecDepth 100000 in
theorem wX6_takesBack_b2 {p : Program} {l : Launch} {e : Env} {s : State} {m : MethodId} {below : List Frame} {meth : Method} {c : Code} {D : va_G} {cy cz : ClassId} {G : GT} {A : Nat → Prop} {args : Array Value} {a : Nat → Nat} {r : Int32} {σr : MS} (C : Cx p s m args c cX6_takesBack 3 "PumpTalkModel" D cy cz G A) (hr : meth.sig.returnType = some .int) (hlk : meth.locks = false) : ∀ (n : Nat) (σ : MS) (x1 : Int32) (x2 : Int32) (H : Heap) (locs : List Loc) (ls : Array Slot), X6_takesBack_b2 n σ x1 x2 = some (r, σr) → Wd D A s.heap H locs (cM a cy σ) → lv_has ls 3 [(0, .ref (a 0)), (1, .int x1), (2, .int x2)] → W p l e (rmz 0 0) s m args below meth c H locs 0 0 (MQ below (QI D cy cz A (cM a cy σr) r) args s 0 0 A) (F0 m 2 ls []) := by
  have hx := C.1
  have hb := C.2.1
  intro n
  induction n with
  | zero =>
    intro σ x1 x2 H locs ls hm
    rw [X6_takesBack_b2] at hm
    cases hm
  | succ n ih =>
    intro σ x1 x2 H locs ls hm hW hl
    rw [X6_takesBack_b2] at hm
    refine lv_iload_n hx hb dX6_takesBack_2 rfl (lv_at hl 2 rfl) ?_
    refine lv_bipush (v := 81) hx hb dX6_takesBack_3 (by decide) ?_
    refine lv_icmp_ge (tgt := 26) hx hb dX6_takesBack_5 (by decide) (fun hc1 => ?_) (fun hc1 => ?_)
    · rw [if_pos hc1] at hm
      refine lv_iload_n hx hb dX6_takesBack_26 rfl (lv_at hl 1 rfl) ?_
      obtain ⟨rfl, rfl⟩ := Prod.mk.inj (Option.some.inj hm)
      exact en_i C hr hlk hW dX6_takesBack_27
    · rw [if_neg hc1] at hm
      refine lv_aload_n hx hb dX6_takesBack_8 rfl (lv_at hl 0 rfl) ?_
      refine gM_s C hW q787 dX6_takesBack_9 ?_
      refine lv_iload_n hx hb dX6_takesBack_12 rfl (lv_at hl 2 rfl) ?_
      refine lv_aload_n hx hb dX6_takesBack_13 rfl (lv_at hl 0 rfl) ?_
      refine gM_aside C hW q790 dX6_takesBack_14 ?_
      refine lv_iload_n hx hb dX6_takesBack_17 rfl (lv_at hl 2 rfl) ?_
      obtain ⟨hi2, hm⟩ := mi_ai hm
      refine lM_aside C hW hi2 dX6_takesBack_18 ?_
      obtain ⟨hi3, hm⟩ := mi_ai hm
      refine tM_s C hW hi3 dX6_takesBack_19 (fun H locs hW => ?_)
      refine lv_iinc (v := (x2 + (1 : Int32))) (lv' := [(2, .int (x2 + (1 : Int32))), (0, .ref (a 0)), (1, .int x1)]) hx hb dX6_takesBack_20 hl (k := 2) rfl (congrArg (fun z : Int32 => x2 + z) (by decide)) (by decide) rfl (fun ls hl => ?_)
      refine lv_goto (tgt := 2) hx hb dX6_takesBack_23 (by decide) ?_
      exact ih (su σ 0 (Int32.toNatClampNeg x2) (σ 3 (Int32.toNatClampNeg x2))) x1 ((x2 + (1 : Int32))) _ _ _ hm hW (lv_sub hl [1, 2, 0] rfl)
def X6_takesBack (σ : MS) (p1 : Int32) : Option (Int32 × MS) := X6_takesBack_b2 FU σ p1 (0 : Int32)
set_option maxHeartbeats 4000000 in
set_option maxRecDepth 100000 in
theorem c_X6_takesBack {l : Launch} {D : va_G} {cy cz : ClassId} {G : GT} {a : Nat → Nat} {σ : MS} {p1 : Int32} {r : Int32} {σr : MS} (hm : X6_takesBack σ p1 = some (r, σr)) : CtI l D cy cz G yX6_takesBack cX6_takesBack 3 (some .int) 0 0 [.ref (a 0), .int p1] (cM a cy σ) (cM a cy σr) r := by
  refine ct_i (own := "PumpTalkModel") (by decide) rfl (Nat.le_of_ble_eq_true rfl) ?_
  intro p e s m below meth c ls A C hr hlk hW hl
  have hx := C.1
  have hb := C.2.1
  have hl : lv_has ls 3 [(0, .ref (a 0)), (1, .int p1)] := hl
  unfold X6_takesBack at hm
  refine lv_iconst (v := 0) hx hb dX6_takesBack_0 (by decide) ?_
  refine lv_istore_n (lv' := [(2, .int (0 : Int32)), (0, .ref (a 0)), (1, .int p1)]) hx hb dX6_takesBack_1 rfl hl (by decide) rfl (fun ls hl => ?_)
  exact wX6_takesBack_b2 C hr hlk FU σ p1 (0 : Int32) _ _ _ hm hW (lv_sub hl [1, 2, 0] rfl)
theorem kX6_takesBack : KM yX6_takesBack cX6_takesBack 3 (some .int) 1 := ⟨q1004, q40, q72, q1005, by decide +kernel, by decide +kernel, by decide +kernel⟩
def X6_behind (σ : MS) (p1 : Int32) (p2 : Int32) : Option (Int32 × MS) := (X6_laysAside σ).bind fun s2 => (X6_goesOn s2 p2).bind fun s4 => ai p1 81 ((X6_takesBack s4 (s4 0 (Int32.toNatClampNeg p1))).bind fun q7 => some (q7.1, q7.2))
set_option maxHeartbeats 4000000 in
set_option maxRecDepth 100000 in
theorem c_X6_behind {l : Launch} {D : va_G} {cy cz : ClassId} {G : GT} {a : Nat → Nat} {σ : MS} {p1 : Int32} {p2 : Int32} {r : Int32} {σr : MS} (hm : X6_behind σ p1 p2 = some (r, σr)) : CtI l D cy cz G yX6_behind cX6_behind 3 (some .int) 6 136 [.ref (a 0), .int p1, .int p2] (cM a cy σ) (cM a cy σr) r := by
  refine ct_i (own := "PumpTalkModel") (by decide) rfl (Nat.le_of_ble_eq_true rfl) ?_
  intro p e s m below meth c ls A C hr hlk hW hl
  have hx := C.1
  have hb := C.2.1
  have hl : lv_has ls 3 [(0, .ref (a 0)), (1, .int p1), (2, .int p2)] := hl
  unfold X6_behind at hm
  refine lv_aload_n hx hb dX6_behind_0 rfl (lv_at hl 0 rfl) ?_
  obtain ⟨s2, e1, hm⟩ := mi_bind hm
  refine cs_v (q0 := 0) (As := []) (rest := []) C hW (c_X6_laysAside e1) kX6_laysAside q998 rfl rfl rfl rfl rfl hl.1 ⟨Nat.le_of_ble_eq_true rfl, Nat.le_of_ble_eq_true rfl⟩ ⟨Nat.le_refl 0, Nat.le_refl 0⟩ (Nat.le_of_ble_eq_true rfl) dX6_behind_1 (fun H locs hW => ?_)
  refine lv_aload_n hx hb dX6_behind_4 rfl (lv_at hl 0 rfl) ?_
  refine lv_iload_n hx hb dX6_behind_5 rfl (lv_at hl 2 rfl) ?_
  obtain ⟨s4, e3, hm⟩ := mi_bind hm
  refine cs_v (q0 := 0) (As := [.int p2]) (rest := []) C hW (c_X6_goesOn e3) kX6_goesOn q965 rfl rfl rfl rfl rfl hl.1 ⟨Nat.le_of_ble_eq_true rfl, Nat.le_of_ble_eq_true rfl⟩ ⟨Nat.le_refl 0, Nat.le_refl 0⟩ (Nat.le_of_ble_eq_true rfl) dX6_behind_6 (fun H locs hW => ?_)
  refine lv_aload_n hx hb dX6_behind_9 rfl (lv_at hl 0 rfl) ?_
  refine lv_aload_n hx hb dX6_behind_10 rfl (lv_at hl 0 rfl) ?_
  refine gM_s C hW q787 dX6_behind_11 ?_
  refine lv_iload_n hx hb dX6_behind_14 rfl (lv_at hl 1 rfl) ?_
  obtain ⟨hi5, hm⟩ := mi_ai hm
  refine lM_s C hW hi5 dX6_behind_15 ?_
  obtain ⟨q7, e6, hm⟩ := mi_bind hm
  refine cs_i (q0 := 0) (As := [.int (s4 0 (Int32.toNatClampNeg p1))]) (rest := []) C hW (c_X6_takesBack e6) kX6_takesBack q1002 rfl rfl rfl rfl rfl hl.1 ⟨Nat.le_of_ble_eq_true rfl, Nat.le_of_ble_eq_true rfl⟩ ⟨Nat.le_refl 0, Nat.le_refl 0⟩ (Nat.le_of_ble_eq_true rfl) dX6_behind_16 (fun H locs hW => ?_)
  obtain ⟨rfl, rfl⟩ := Prod.mk.inj (Option.some.inj hm)
  exact en_i C hr hlk hW dX6_behind_19
theorem kX6_behind : KM yX6_behind cX6_behind 3 (some .int) 2 := ⟨q996, q38, q72, q997, by decide +kernel, by decide +kernel, by decide +kernel⟩
def X6_ahead (σ : MS) (p1 : Int32) : Option (Int32 × MS) := (X6_in (Int32.toInt64 p1) (0 : Int64) (200 : Int64)).bind fun v2 => if v2 = (0 : Int32) then ((X6_finds σ (-1000001 : Int32)).bind fun q5 => some (q5.1, q5.2)) else ((X6_behind σ (2 : Int32) p1).bind fun q7 => some (q7.1, q7.2))
set_option maxHeartbeats 4000000 in
set_option maxRecDepth 100000 in
theorem c_X6_ahead {l : Launch} {D : va_G} {cy cz : ClassId} {G : GT} {a : Nat → Nat} {σ : MS} {p1 : Int32} {r : Int32} {σr : MS} (hm : X6_ahead σ p1 = some (r, σr)) : CtI l D cy cz G yX6_ahead cX6_ahead 2 (some .int) 7 158 [.ref (a 0), .int p1] (cM a cy σ) (cM a cy σr) r := by
  refine ct_i (own := "PumpTalkModel") (by decide) rfl (Nat.le_of_ble_eq_true rfl) ?_
  intro p e s m below meth c ls A C hr hlk hW hl
  have hx := C.1
  have hb := C.2.1
  have hl : lv_has ls 2 [(0, .ref (a 0)), (1, .int p1)] := hl
  unfold X6_ahead at hm
  refine lv_iload_n hx hb dX6_ahead_0 rfl (lv_at hl 1 rfl) ?_
  refine lv_i2l hx hb dX6_ahead_1 rfl ?_
  refine lv_lconst (v := 0) hx hb dX6_ahead_2 (by decide) ?_
  refine lv_ldc2 hx hb C.2.2.2.1 (C.2.2.2.2.1 _ q993) dX6_ahead_3 ?_
  obtain ⟨v2, e1, hm⟩ := mi_bind hm
  refine cS_i (As := [.long (Int32.toInt64 p1), .long (0 : Int64), .long (200 : Int64)]) (rest := []) C hW (c_X6_in e1) kX6_in q862 rfl rfl hl.1 ⟨Nat.le_of_ble_eq_true rfl, Nat.le_of_ble_eq_true rfl⟩ ⟨Nat.le_refl 0, Nat.le_refl 0⟩ (Nat.le_of_ble_eq_true rfl) dX6_ahead_6 (fun H locs hW => ?_)
  refine lv_if_eq (tgt := 21) hx hb dX6_ahead_9 (by decide) (fun hc3 => ?_) (fun hc3 => ?_)
  · rw [if_pos hc3] at hm
    refine lv_aload_n hx hb dX6_ahead_21 rfl (lv_at hl 0 rfl) ?_
    refine lv_ldc hx hb C.2.2.2.1 (C.2.2.2.2.1 _ q865) dX6_ahead_22 ?_
    obtain ⟨q5, e4, hm⟩ := mi_bind hm
    refine cs_i (q0 := 0) (As := [.int (-1000001 : Int32)]) (rest := []) C hW (c_X6_finds e4) kX6_finds q866 rfl rfl rfl rfl rfl hl.1 ⟨Nat.le_of_ble_eq_true rfl, Nat.le_of_ble_eq_true rfl⟩ ⟨Nat.le_refl 0, Nat.le_refl 0⟩ (Nat.le_of_ble_eq_true rfl) dX6_ahead_24 (fun H locs hW => ?_)
    obtain ⟨rfl, rfl⟩ := Prod.mk.inj (Option.some.inj hm)
    exact en_i C hr hlk hW dX6_ahead_27
  · rw [if_neg hc3] at hm
    refine lv_aload_n hx hb dX6_ahead_12 rfl (lv_at hl 0 rfl) ?_
    refine lv_iconst (v := 2) hx hb dX6_ahead_13 (by decide) ?_
    refine lv_iload_n hx hb dX6_ahead_14 rfl (lv_at hl 1 rfl) ?_
    obtain ⟨q7, e6, hm⟩ := mi_bind hm
    refine cs_i (q0 := 0) (As := [.int (2 : Int32), .int p1]) (rest := []) C hW (c_X6_behind e6) kX6_behind q994 rfl rfl rfl rfl rfl hl.1 ⟨Nat.le_of_ble_eq_true rfl, Nat.le_of_ble_eq_true rfl⟩ ⟨Nat.le_refl 0, Nat.le_refl 0⟩ (Nat.le_of_ble_eq_true rfl) dX6_ahead_15 (fun H locs hW => ?_)
    refine lv_goto (tgt := 27) hx hb dX6_ahead_18 (by decide) ?_
    obtain ⟨rfl, rfl⟩ := Prod.mk.inj (Option.some.inj hm)
    exact en_i C hr hlk hW dX6_ahead_27
theorem kX6_ahead : KM yX6_ahead cX6_ahead 2 (some .int) 1 := ⟨q990, q991, q72, q992, by decide +kernel, by decide +kernel, by decide +kernel⟩
def X6_view_b42 (σ : MS) : Option (Int32 × MS) := (X6_finds σ (-1000001 : Int32)).bind fun q2 => some (q2.1, q2.2)
set_option maxHeartbeats 4000000 in
set_option maxRecDepth 100000 in
theorem wX6_view_b42 {p : Program} {l : Launch} {e : Env} {s : State} {m : MethodId} {below : List Frame} {meth : Method} {c : Code} {D : va_G} {cy cz : ClassId} {G : GT} {A : Nat → Prop} {args : Array Value} {a : Nat → Nat} {r : Int32} {σr : MS} (C : Cx p s m args c cX6_view 4 "PumpTalkModel" D cy cz G A) (hr : meth.sig.returnType = some .int) (hlk : meth.locks = false) : ∀ (σ : MS) (H : Heap) (locs : List Loc) (ls : Array Slot), X6_view_b42 σ = some (r, σr) → Wd D A s.heap H locs (cM a cy σ) → lv_has ls 4 [(0, .ref (a 0))] → W p l e (rmz 7 158) s m args below meth c H locs 0 0 (MQ below (QI D cy cz A (cM a cy σr) r) args s 0 0 A) (F0 m 42 ls []) := by
  have hx := C.1
  have hb := C.2.1
  intro σ H locs ls hm hW hl
  unfold X6_view_b42 at hm
  refine lv_aload_n hx hb dX6_view_42 rfl (lv_at hl 0 rfl) ?_
  refine lv_ldc hx hb C.2.2.2.1 (C.2.2.2.2.1 _ q865) dX6_view_43 ?_
  obtain ⟨q2, e1, hm⟩ := mi_bind hm
  refine cs_i (q0 := 0) (As := [.int (-1000001 : Int32)]) (rest := []) C hW (c_X6_finds e1) kX6_finds q866 rfl rfl rfl rfl rfl hl.1 ⟨Nat.le_of_ble_eq_true rfl, Nat.le_of_ble_eq_true rfl⟩ ⟨Nat.le_refl 0, Nat.le_refl 0⟩ (Nat.le_of_ble_eq_true rfl) dX6_view_45 (fun H locs hW => ?_)
  obtain ⟨rfl, rfl⟩ := Prod.mk.inj (Option.some.inj hm)
  exact en_i C hr hlk hW dX6_view_48
def X6_view (σ : MS) (p1 : Int32) (p2 : Int32) (p3 : Int32) : Option (Int32 × MS) := (X6_isPerson σ p1).bind fun v4 => if v4 = (0 : Int32) then (X6_view_b42 σ) else ((X6_isSubject p2).bind fun v7 => if v7 = (0 : Int32) then (X6_view_b42 σ) else ((X6_in (Int32.toInt64 p3) (0 : Int64) (200 : Int64)).bind fun v10 => if v10 = (0 : Int32) then (X6_view_b42 σ) else ((X6_place p1 ((2 : Int32) + p2)).bind fun v13 => (X6_behind σ v13 p3).bind fun q15 => some (q15.1, q15.2))))
set_option maxHeartbeats 4000000 in
set_option maxRecDepth 100000 in
theorem c_X6_view {l : Launch} {D : va_G} {cy cz : ClassId} {G : GT} {a : Nat → Nat} {σ : MS} {p1 : Int32} {p2 : Int32} {p3 : Int32} {r : Int32} {σr : MS} (hm : X6_view σ p1 p2 p3 = some (r, σr)) : CtI l D cy cz G yX6_view cX6_view 4 (some .int) 7 158 [.ref (a 0), .int p1, .int p2, .int p3] (cM a cy σ) (cM a cy σr) r := by
  refine ct_i (own := "PumpTalkModel") (by decide) rfl (Nat.le_of_ble_eq_true rfl) ?_
  intro p e s m below meth c ls A C hr hlk hW hl
  have hx := C.1
  have hb := C.2.1
  have hl : lv_has ls 4 [(0, .ref (a 0)), (1, .int p1), (2, .int p2), (3, .int p3)] := hl
  unfold X6_view at hm
  refine lv_aload_n hx hb dX6_view_0 rfl (lv_at hl 0 rfl) ?_
  refine lv_iload_n hx hb dX6_view_1 rfl (lv_at hl 1 rfl) ?_
  obtain ⟨v4, e3, hm⟩ := mi_bind hm
  refine cs_i (q0 := 0) (As := [.int p1]) (rest := []) C hW (c_X6_isPerson e3) kX6_isPerson q882 rfl rfl rfl rfl rfl hl.1 ⟨Nat.le_of_ble_eq_true rfl, Nat.le_of_ble_eq_true rfl⟩ ⟨Nat.le_refl 0, Nat.le_refl 0⟩ (Nat.le_of_ble_eq_true rfl) dX6_view_2 (fun H locs hW => ?_)
  refine lv_if_eq (tgt := 42) hx hb dX6_view_5 (by decide) (fun hc5 => ?_) (fun hc5 => ?_)
  · rw [if_pos hc5] at hm
    exact wX6_view_b42 C hr hlk σ _ _ _ hm hW (lv_sub hl [0] rfl)
  · rw [if_neg hc5] at hm
    refine lv_iload_n hx hb dX6_view_8 rfl (lv_at hl 2 rfl) ?_
    obtain ⟨v7, e6, hm⟩ := mi_bind hm
    refine cS_i (As := [.int p2]) (rest := []) C hW (c_X6_isSubject e6) kX6_isSubject q923 rfl rfl hl.1 ⟨Nat.le_of_ble_eq_true rfl, Nat.le_of_ble_eq_true rfl⟩ ⟨Nat.le_refl 0, Nat.le_refl 0⟩ (Nat.le_of_ble_eq_true rfl) dX6_view_9 (fun H locs hW => ?_)
    refine lv_if_eq (tgt := 42) hx hb dX6_view_12 (by decide) (fun hc8 => ?_) (fun hc8 => ?_)
    · rw [if_pos hc8] at hm
      exact wX6_view_b42 C hr hlk σ _ _ _ hm hW (lv_sub hl [0] rfl)
    · rw [if_neg hc8] at hm
      refine lv_iload_n hx hb dX6_view_15 rfl (lv_at hl 3 rfl) ?_
      refine lv_i2l hx hb dX6_view_16 rfl ?_
      refine lv_lconst (v := 0) hx hb dX6_view_17 (by decide) ?_
      refine lv_ldc2 hx hb C.2.2.2.1 (C.2.2.2.2.1 _ q993) dX6_view_18 ?_
      obtain ⟨v10, e9, hm⟩ := mi_bind hm
      refine cS_i (As := [.long (Int32.toInt64 p3), .long (0 : Int64), .long (200 : Int64)]) (rest := []) C hW (c_X6_in e9) kX6_in q862 rfl rfl hl.1 ⟨Nat.le_of_ble_eq_true rfl, Nat.le_of_ble_eq_true rfl⟩ ⟨Nat.le_refl 0, Nat.le_refl 0⟩ (Nat.le_of_ble_eq_true rfl) dX6_view_21 (fun H locs hW => ?_)
      refine lv_if_eq (tgt := 42) hx hb dX6_view_24 (by decide) (fun hc11 => ?_) (fun hc11 => ?_)
      · rw [if_pos hc11] at hm
        exact wX6_view_b42 C hr hlk σ _ _ _ hm hW (lv_sub hl [0] rfl)
      · rw [if_neg hc11] at hm
        refine lv_aload_n hx hb dX6_view_27 rfl (lv_at hl 0 rfl) ?_
        refine lv_iload_n hx hb dX6_view_28 rfl (lv_at hl 1 rfl) ?_
        refine lv_iconst (v := 2) hx hb dX6_view_29 (by decide) ?_
        refine lv_iload_n hx hb dX6_view_30 rfl (lv_at hl 2 rfl) ?_
        refine lv_iadd hx hb dX6_view_31 ?_
        obtain ⟨v13, e12, hm⟩ := mi_bind hm
        refine cS_i (As := [.int p1, .int ((2 : Int32) + p2)]) (rest := [.ref (a 0)]) C hW (c_X6_place e12) kX6_place q875 rfl rfl hl.1 ⟨Nat.le_of_ble_eq_true rfl, Nat.le_of_ble_eq_true rfl⟩ ⟨Nat.le_refl 0, Nat.le_refl 0⟩ (Nat.le_of_ble_eq_true rfl) dX6_view_32 (fun H locs hW => ?_)
        refine lv_iload_n hx hb dX6_view_35 rfl (lv_at hl 3 rfl) ?_
        obtain ⟨q15, e14, hm⟩ := mi_bind hm
        refine cs_i (q0 := 0) (As := [.int v13, .int p3]) (rest := []) C hW (c_X6_behind e14) kX6_behind q994 rfl rfl rfl rfl rfl hl.1 ⟨Nat.le_of_ble_eq_true rfl, Nat.le_of_ble_eq_true rfl⟩ ⟨Nat.le_refl 0, Nat.le_refl 0⟩ (Nat.le_of_ble_eq_true rfl) dX6_view_36 (fun H locs hW => ?_)
        refine lv_goto (tgt := 48) hx hb dX6_view_39 (by decide) ?_
        obtain ⟨rfl, rfl⟩ := Prod.mk.inj (Option.some.inj hm)
        exact en_i C hr hlk hW dX6_view_48
theorem kX6_view : KM yX6_view cX6_view 4 (some .int) 3 := ⟨q1007, q1008, q72, q1009, by decide +kernel, by decide +kernel, by decide +kernel⟩
def X6_orNone (σ : MS) (p1 : Int32) : Option (Int32 × MS) := if p1 ≤ (300 : Int32) then (some (p1, σ)) else ((X6_finds σ (-1000004 : Int32)).bind fun q3 => some (q3.1, q3.2))
set_option maxHeartbeats 4000000 in
set_option maxRecDepth 100000 in
theorem c_X6_orNone {l : Launch} {D : va_G} {cy cz : ClassId} {G : GT} {a : Nat → Nat} {σ : MS} {p1 : Int32} {r : Int32} {σr : MS} (hm : X6_orNone σ p1 = some (r, σr)) : CtI l D cy cz G yX6_orNone cX6_orNone 2 (some .int) 1 21 [.ref (a 0), .int p1] (cM a cy σ) (cM a cy σr) r := by
  refine ct_i (own := "PumpTalkModel") (by decide) rfl (Nat.le_of_ble_eq_true rfl) ?_
  intro p e s m below meth c ls A C hr hlk hW hl
  have hx := C.1
  have hb := C.2.1
  have hl : lv_has ls 2 [(0, .ref (a 0)), (1, .int p1)] := hl
  unfold X6_orNone at hm
  refine lv_iload_n hx hb dX6_orNone_0 rfl (lv_at hl 1 rfl) ?_
  refine lv_sipush (v := 300) hx hb dX6_orNone_1 (by decide) ?_
  refine lv_icmp_le (tgt := 16) hx hb dX6_orNone_4 (by decide) (fun hc1 => ?_) (fun hc1 => ?_)
  · rw [if_pos hc1] at hm
    refine lv_iload_n hx hb dX6_orNone_16 rfl (lv_at hl 1 rfl) ?_
    obtain ⟨rfl, rfl⟩ := Prod.mk.inj (Option.some.inj hm)
    exact en_i C hr hlk hW dX6_orNone_17
  · rw [if_neg hc1] at hm
    refine lv_aload_n hx hb dX6_orNone_7 rfl (lv_at hl 0 rfl) ?_
    refine lv_ldc hx hb C.2.2.2.1 (C.2.2.2.2.1 _ q1018) dX6_orNone_8 ?_
    obtain ⟨q3, e2, hm⟩ := mi_bind hm
    refine cs_i (q0 := 0) (As := [.int (-1000004 : Int32)]) (rest := []) C hW (c_X6_finds e2) kX6_finds q866 rfl rfl rfl rfl rfl hl.1 ⟨Nat.le_of_ble_eq_true rfl, Nat.le_of_ble_eq_true rfl⟩ ⟨Nat.le_refl 0, Nat.le_refl 0⟩ (Nat.le_of_ble_eq_true rfl) dX6_orNone_10 (fun H locs hW => ?_)
    refine lv_goto (tgt := 17) hx hb dX6_orNone_13 (by decide) ?_
    obtain ⟨rfl, rfl⟩ := Prod.mk.inj (Option.some.inj hm)
    exact en_i C hr hlk hW dX6_orNone_17
theorem kX6_orNone : KM yX6_orNone cX6_orNone 2 (some .int) 1 := ⟨q1016, q41, q72, q1017, by decide +kernel, by decide +kernel, by decide +kernel⟩
def X6_dry_b30 (σ : MS) (x1 : Int32) : Option (Int32 × MS) := (X6_takesBack σ x1).bind fun q2 => (X6_orNone q2.2 q2.1).bind fun q4 => some (q4.1, q4.2)
set_option maxHeartbeats 4000000 in
set_option maxRecDepth 100000 in
theorem wX6_dry_b30 {p : Program} {l : Launch} {e : Env} {s : State} {m : MethodId} {below : List Frame} {meth : Method} {c : Code} {D : va_G} {cy cz : ClassId} {G : GT} {A : Nat → Prop} {args : Array Value} {a : Nat → Nat} {r : Int32} {σr : MS} (C : Cx p s m args c cX6_dry 2 "PumpTalkModel" D cy cz G A) (hr : meth.sig.returnType = some .int) (hlk : meth.locks = false) : ∀ (σ : MS) (x1 : Int32) (H : Heap) (locs : List Loc) (ls : Array Slot), X6_dry_b30 σ x1 = some (r, σr) → Wd D A s.heap H locs (cM a cy σ) → lv_has ls 2 [(0, .ref (a 0)), (1, .int x1)] → W p l e (rmz 5 114) s m args below meth c H locs 0 0 (MQ below (QI D cy cz A (cM a cy σr) r) args s 0 0 A) (F0 m 30 ls []) := by
  have hx := C.1
  have hb := C.2.1
  intro σ x1 H locs ls hm hW hl
  unfold X6_dry_b30 at hm
  refine lv_aload_n hx hb dX6_dry_30 rfl (lv_at hl 0 rfl) ?_
  refine lv_aload_n hx hb dX6_dry_31 rfl (lv_at hl 0 rfl) ?_
  refine lv_iload_n hx hb dX6_dry_32 rfl (lv_at hl 1 rfl) ?_
  obtain ⟨q2, e1, hm⟩ := mi_bind hm
  refine cs_i (q0 := 0) (As := [.int x1]) (rest := [.ref (a 0)]) C hW (c_X6_takesBack e1) kX6_takesBack q1002 rfl rfl rfl rfl rfl hl.1 ⟨Nat.le_of_ble_eq_true rfl, Nat.le_of_ble_eq_true rfl⟩ ⟨Nat.le_refl 0, Nat.le_refl 0⟩ (Nat.le_of_ble_eq_true rfl) dX6_dry_33 (fun H locs hW => ?_)
  obtain ⟨q4, e3, hm⟩ := mi_bind hm
  refine cs_i (q0 := 0) (As := [.int q2.1]) (rest := []) C hW (c_X6_orNone e3) kX6_orNone q1014 rfl rfl rfl rfl rfl hl.1 ⟨Nat.le_of_ble_eq_true rfl, Nat.le_of_ble_eq_true rfl⟩ ⟨Nat.le_refl 0, Nat.le_refl 0⟩ (Nat.le_of_ble_eq_true rfl) dX6_dry_36 (fun H locs hW => ?_)
  obtain ⟨rfl, rfl⟩ := Prod.mk.inj (Option.some.inj hm)
  exact en_i C hr hlk hW dX6_dry_39
def X6_dry_b6 : Nat → MS → Int32 → Option (Int32 × MS)
  | 0, _, _ => none
  | n + 1, σ, x1 => if (300 : Int32) < x1 then (X6_dry_b30 σ x1) else ((X6_disputed σ).bind fun v7 => if v7 = (0 : Int32) then (X6_dry_b30 σ x1) else ((X6_minute σ).bind fun s10 => X6_dry_b6 n s10 ((x1 + (1 : Int32)))))
set_option maxHeartbeats 4000000 in
set_option maxRecDepth 100000 in
theorem wX6_dry_b6 {p : Program} {l : Launch} {e : Env} {s : State} {m : MethodId} {below : List Frame} {meth : Method} {c : Code} {D : va_G} {cy cz : ClassId} {G : GT} {A : Nat → Prop} {args : Array Value} {a : Nat → Nat} {r : Int32} {σr : MS} (C : Cx p s m args c cX6_dry 2 "PumpTalkModel" D cy cz G A) (hr : meth.sig.returnType = some .int) (hlk : meth.locks = false) : ∀ (n : Nat) (σ : MS) (x1 : Int32) (H : Heap) (locs : List Loc) (ls : Array Slot), X6_dry_b6 n σ x1 = some (r, σr) → Wd D A s.heap H locs (cM a cy σ) → lv_has ls 2 [(0, .ref (a 0)), (1, .int x1)] → W p l e (rmz 5 114) s m args below meth c H locs 0 0 (MQ below (QI D cy cz A (cM a cy σr) r) args s 0 0 A) (F0 m 6 ls []) := by
  have hx := C.1
  have hb := C.2.1
  intro n
  induction n with
  | zero =>
    intro σ x1 H locs ls hm
    rw [X6_dry_b6] at hm
    cases hm
  | succ n ih =>
    intro σ x1 H locs ls hm hW hl
    rw [X6_dry_b6] at hm
    refine lv_iload_n hx hb dX6_dry_6 rfl (lv_at hl 1 rfl) ?_
    refine lv_sipush (v := 300) hx hb dX6_dry_7 (by decide) ?_
    refine lv_icmp_gt (tgt := 30) hx hb dX6_dry_10 (by decide) (fun hc5 => ?_) (fun hc5 => ?_)
    · rw [if_pos hc5] at hm
      exact wX6_dry_b30 C hr hlk σ x1 _ _ _ hm hW (lv_sub hl [0, 1] rfl)
    · rw [if_neg hc5] at hm
      refine lv_aload_n hx hb dX6_dry_13 rfl (lv_at hl 0 rfl) ?_
      obtain ⟨v7, e6, hm⟩ := mi_bind hm
      refine cs_i (q0 := 0) (As := []) (rest := []) C hW (c_X6_disputed e6) kX6_disputed q939 rfl rfl rfl rfl rfl hl.1 ⟨Nat.le_of_ble_eq_true rfl, Nat.le_of_ble_eq_true rfl⟩ ⟨Nat.le_refl 0, Nat.le_refl 0⟩ (Nat.le_of_ble_eq_true rfl) dX6_dry_14 (fun H locs hW => ?_)
      refine lv_if_eq (tgt := 30) hx hb dX6_dry_17 (by decide) (fun hc8 => ?_) (fun hc8 => ?_)
      · rw [if_pos hc8] at hm
        exact wX6_dry_b30 C hr hlk σ x1 _ _ _ hm hW (lv_sub hl [0, 1] rfl)
      · rw [if_neg hc8] at hm
        refine lv_aload_n hx hb dX6_dry_20 rfl (lv_at hl 0 rfl) ?_
        obtain ⟨s10, e9, hm⟩ := mi_bind hm
        refine cs_v (q0 := 0) (As := []) (rest := []) C hW (c_X6_minute e9) kX6_minute q969 rfl rfl rfl rfl rfl hl.1 ⟨Nat.le_of_ble_eq_true rfl, Nat.le_of_ble_eq_true rfl⟩ ⟨Nat.le_refl 0, Nat.le_refl 0⟩ (Nat.le_of_ble_eq_true rfl) dX6_dry_21 (fun H locs hW => ?_)
        refine lv_iinc (v := (x1 + (1 : Int32))) (lv' := [(1, .int (x1 + (1 : Int32))), (0, .ref (a 0))]) hx hb dX6_dry_24 hl (k := 1) rfl (congrArg (fun z : Int32 => x1 + z) (by decide)) (by decide) rfl (fun ls hl => ?_)
        refine lv_goto (tgt := 6) hx hb dX6_dry_27 (by decide) ?_
        exact ih s10 ((x1 + (1 : Int32))) _ _ _ hm hW (lv_sub hl [1, 0] rfl)
def X6_dry (σ : MS) : Option (Int32 × MS) := (X6_laysAside σ).bind fun s12 => X6_dry_b6 FU s12 (0 : Int32)
set_option maxHeartbeats 4000000 in
set_option maxRecDepth 100000 in
theorem c_X6_dry {l : Launch} {D : va_G} {cy cz : ClassId} {G : GT} {a : Nat → Nat} {σ : MS} {r : Int32} {σr : MS} (hm : X6_dry σ = some (r, σr)) : CtI l D cy cz G yX6_dry cX6_dry 2 (some .int) 5 114 [.ref (a 0)] (cM a cy σ) (cM a cy σr) r := by
  refine ct_i (own := "PumpTalkModel") (by decide) rfl (Nat.le_of_ble_eq_true rfl) ?_
  intro p e s m below meth c ls A C hr hlk hW hl
  have hx := C.1
  have hb := C.2.1
  have hl : lv_has ls 2 [(0, .ref (a 0))] := hl
  unfold X6_dry at hm
  refine lv_aload_n hx hb dX6_dry_0 rfl (lv_at hl 0 rfl) ?_
  obtain ⟨s12, e11, hm⟩ := mi_bind hm
  refine cs_v (q0 := 0) (As := []) (rest := []) C hW (c_X6_laysAside e11) kX6_laysAside q998 rfl rfl rfl rfl rfl hl.1 ⟨Nat.le_of_ble_eq_true rfl, Nat.le_of_ble_eq_true rfl⟩ ⟨Nat.le_refl 0, Nat.le_refl 0⟩ (Nat.le_of_ble_eq_true rfl) dX6_dry_1 (fun H locs hW => ?_)
  refine lv_iconst (v := 0) hx hb dX6_dry_4 (by decide) ?_
  refine lv_istore_n (lv' := [(1, .int (0 : Int32)), (0, .ref (a 0))]) hx hb dX6_dry_5 rfl hl (by decide) rfl (fun ls hl => ?_)
  exact wX6_dry_b6 C hr hlk FU s12 (0 : Int32) _ _ _ hm hW (lv_sub hl [1, 0] rfl)
theorem kX6_dry : KM yX6_dry cX6_dry 2 (some .int) 0 := ⟨q1011, q1012, q72, q1013, by decide +kernel, by decide +kernel, by decide +kernel⟩
def X6_filled_b52 (σ : MS) (x2 : Int32) : Option (Int32 × MS) := (X6_takesBack σ x2).bind fun q2 => (X6_orNone q2.2 q2.1).bind fun q4 => some (q4.1, q4.2)
set_option maxHeartbeats 4000000 in
set_option maxRecDepth 100000 in
theorem wX6_filled_b52 {p : Program} {l : Launch} {e : Env} {s : State} {m : MethodId} {below : List Frame} {meth : Method} {c : Code} {D : va_G} {cy cz : ClassId} {G : GT} {A : Nat → Prop} {args : Array Value} {a : Nat → Nat} {r : Int32} {σr : MS} (C : Cx p s m args c cX6_filled 3 "PumpTalkModel" D cy cz G A) (hr : meth.sig.returnType = some .int) (hlk : meth.locks = false) : ∀ (σ : MS) (x2 : Int32) (H : Heap) (locs : List Loc) (ls : Array Slot), X6_filled_b52 σ x2 = some (r, σr) → Wd D A s.heap H locs (cM a cy σ) → lv_has ls 3 [(0, .ref (a 0)), (2, .int x2)] → W p l e (rmz 5 114) s m args below meth c H locs 0 0 (MQ below (QI D cy cz A (cM a cy σr) r) args s 0 0 A) (F0 m 52 ls []) := by
  have hx := C.1
  have hb := C.2.1
  intro σ x2 H locs ls hm hW hl
  unfold X6_filled_b52 at hm
  refine lv_aload_n hx hb dX6_filled_52 rfl (lv_at hl 0 rfl) ?_
  refine lv_aload_n hx hb dX6_filled_53 rfl (lv_at hl 0 rfl) ?_
  refine lv_iload_n hx hb dX6_filled_54 rfl (lv_at hl 1 rfl) ?_
  obtain ⟨q2, e1, hm⟩ := mi_bind hm
  refine cs_i (q0 := 0) (As := [.int x2]) (rest := [.ref (a 0)]) C hW (c_X6_takesBack e1) kX6_takesBack q1002 rfl rfl rfl rfl rfl hl.1 ⟨Nat.le_of_ble_eq_true rfl, Nat.le_of_ble_eq_true rfl⟩ ⟨Nat.le_refl 0, Nat.le_refl 0⟩ (Nat.le_of_ble_eq_true rfl) dX6_filled_55 (fun H locs hW => ?_)
  obtain ⟨q4, e3, hm⟩ := mi_bind hm
  refine cs_i (q0 := 0) (As := [.int q2.1]) (rest := []) C hW (c_X6_orNone e3) kX6_orNone q1014 rfl rfl rfl rfl rfl hl.1 ⟨Nat.le_of_ble_eq_true rfl, Nat.le_of_ble_eq_true rfl⟩ ⟨Nat.le_refl 0, Nat.le_refl 0⟩ (Nat.le_of_ble_eq_true rfl) dX6_filled_58 (fun H locs hW => ?_)
  obtain ⟨rfl, rfl⟩ := Prod.mk.inj (Option.some.inj hm)
  exact en_i C hr hlk hW dX6_filled_61
def X6_filled_b25 : Nat → MS → Int32 → Int32 → Option (Int32 × MS)
  | 0, _, _, _ => none
  | n + 1, σ, x1, x2 => if (300 : Int32) < x2 then (X6_filled_b52 σ x2) else (if x1 ≤ (σ 0 2) then (X6_filled_b52 σ x2) else ((X6_minute σ).bind fun s8 => X6_filled_b25 n s8 x1 ((x2 + (1 : Int32)))))
set_option maxHeartbeats 4000000 in
set_option maxRecDepth 100000 in
theorem wX6_filled_b25 {p : Program} {l : Launch} {e : Env} {s : State} {m : MethodId} {below : List Frame} {meth : Method} {c : Code} {D : va_G} {cy cz : ClassId} {G : GT} {A : Nat → Prop} {args : Array Value} {a : Nat → Nat} {r : Int32} {σr : MS} (C : Cx p s m args c cX6_filled 3 "PumpTalkModel" D cy cz G A) (hr : meth.sig.returnType = some .int) (hlk : meth.locks = false) : ∀ (n : Nat) (σ : MS) (x1 : Int32) (x2 : Int32) (H : Heap) (locs : List Loc) (ls : Array Slot), X6_filled_b25 n σ x1 x2 = some (r, σr) → Wd D A s.heap H locs (cM a cy σ) → lv_has ls 3 [(0, .ref (a 0)), (1, .int x1), (2, .int x2)] → W p l e (rmz 5 114) s m args below meth c H locs 0 0 (MQ below (QI D cy cz A (cM a cy σr) r) args s 0 0 A) (F0 m 25 ls []) := by
  have hx := C.1
  have hb := C.2.1
  intro n
  induction n with
  | zero =>
    intro σ x1 x2 H locs ls hm
    rw [X6_filled_b25] at hm
    cases hm
  | succ n ih =>
    intro σ x1 x2 H locs ls hm hW hl
    rw [X6_filled_b25] at hm
    refine lv_iload_n hx hb dX6_filled_25 rfl (lv_at hl 2 rfl) ?_
    refine lv_sipush (v := 300) hx hb dX6_filled_26 (by decide) ?_
    refine lv_icmp_gt (tgt := 52) hx hb dX6_filled_29 (by decide) (fun hc5 => ?_) (fun hc5 => ?_)
    · rw [if_pos hc5] at hm
      exact wX6_filled_b52 C hr hlk σ x2 _ _ _ hm hW (lv_sub hl [0, 2] rfl)
    · rw [if_neg hc5] at hm
      refine lv_aload_n hx hb dX6_filled_32 rfl (lv_at hl 0 rfl) ?_
      refine gM_s C hW q787 dX6_filled_33 ?_
      refine lv_iconst (v := 2) hx hb dX6_filled_36 (by decide) ?_
      refine lM_s_k (k := 2) C hW (by decide) (by decide) dX6_filled_37 ?_
      refine lv_iload_n hx hb dX6_filled_38 rfl (lv_at hl 1 rfl) ?_
      refine lv_icmp_ge (tgt := 52) hx hb dX6_filled_39 (by decide) (fun hc6 => ?_) (fun hc6 => ?_)
      · rw [if_pos hc6] at hm
        exact wX6_filled_b52 C hr hlk σ x2 _ _ _ hm hW (lv_sub hl [0, 2] rfl)
      · rw [if_neg hc6] at hm
        refine lv_aload_n hx hb dX6_filled_42 rfl (lv_at hl 0 rfl) ?_
        obtain ⟨s8, e7, hm⟩ := mi_bind hm
        refine cs_v (q0 := 0) (As := []) (rest := []) C hW (c_X6_minute e7) kX6_minute q969 rfl rfl rfl rfl rfl hl.1 ⟨Nat.le_of_ble_eq_true rfl, Nat.le_of_ble_eq_true rfl⟩ ⟨Nat.le_refl 0, Nat.le_refl 0⟩ (Nat.le_of_ble_eq_true rfl) dX6_filled_43 (fun H locs hW => ?_)
        refine lv_iinc (v := (x2 + (1 : Int32))) (lv' := [(2, .int (x2 + (1 : Int32))), (0, .ref (a 0)), (1, .int x1)]) hx hb dX6_filled_46 hl (k := 2) rfl (congrArg (fun z : Int32 => x2 + z) (by decide)) (by decide) rfl (fun ls hl => ?_)
        refine lv_goto (tgt := 25) hx hb dX6_filled_49 (by decide) ?_
        exact ih s8 x1 ((x2 + (1 : Int32))) _ _ _ hm hW (lv_sub hl [1, 2, 0] rfl)
def X6_filled (σ : MS) (p1 : Int32) : Option (Int32 × MS) := (X6_in (Int32.toInt64 p1) (0 : Int64) (999999 : Int64)).bind fun v10 => if v10 = (0 : Int32) then ((X6_finds σ (-1000001 : Int32)).bind fun q15 => some (q15.1, q15.2)) else ((X6_laysAside σ).bind fun s13 => X6_filled_b25 FU s13 p1 (0 : Int32))
set_option maxHeartbeats 4000000 in
set_option maxRecDepth 100000 in
theorem c_X6_filled {l : Launch} {D : va_G} {cy cz : ClassId} {G : GT} {a : Nat → Nat} {σ : MS} {p1 : Int32} {r : Int32} {σr : MS} (hm : X6_filled σ p1 = some (r, σr)) : CtI l D cy cz G yX6_filled cX6_filled 3 (some .int) 5 114 [.ref (a 0), .int p1] (cM a cy σ) (cM a cy σr) r := by
  refine ct_i (own := "PumpTalkModel") (by decide) rfl (Nat.le_of_ble_eq_true rfl) ?_
  intro p e s m below meth c ls A C hr hlk hW hl
  have hx := C.1
  have hb := C.2.1
  have hl : lv_has ls 3 [(0, .ref (a 0)), (1, .int p1)] := hl
  unfold X6_filled at hm
  refine lv_iload_n hx hb dX6_filled_0 rfl (lv_at hl 1 rfl) ?_
  refine lv_i2l hx hb dX6_filled_1 rfl ?_
  refine lv_lconst (v := 0) hx hb dX6_filled_2 (by decide) ?_
  refine lv_ldc2 hx hb C.2.2.2.1 (C.2.2.2.2.1 _ q1023) dX6_filled_3 ?_
  obtain ⟨v10, e9, hm⟩ := mi_bind hm
  refine cS_i (As := [.long (Int32.toInt64 p1), .long (0 : Int64), .long (999999 : Int64)]) (rest := []) C hW (c_X6_in e9) kX6_in q862 rfl rfl hl.1 ⟨Nat.le_of_ble_eq_true rfl, Nat.le_of_ble_eq_true rfl⟩ ⟨Nat.le_refl 0, Nat.le_refl 0⟩ (Nat.le_of_ble_eq_true rfl) dX6_filled_6 (fun H locs hW => ?_)
  refine lv_if_ne (tgt := 19) hx hb dX6_filled_9 (by decide) (fun hc11 => ?_) (fun hc11 => ?_)
  · rw [if_neg hc11] at hm
    refine lv_aload_n hx hb dX6_filled_19 rfl (lv_at hl 0 rfl) ?_
    obtain ⟨s13, e12, hm⟩ := mi_bind hm
    refine cs_v (q0 := 0) (As := []) (rest := []) C hW (c_X6_laysAside e12) kX6_laysAside q998 rfl rfl rfl rfl rfl hl.1 ⟨Nat.le_of_ble_eq_true rfl, Nat.le_of_ble_eq_true rfl⟩ ⟨Nat.le_refl 0, Nat.le_refl 0⟩ (Nat.le_of_ble_eq_true rfl) dX6_filled_20 (fun H locs hW => ?_)
    refine lv_iconst (v := 0) hx hb dX6_filled_23 (by decide) ?_
    refine lv_istore_n (lv' := [(2, .int (0 : Int32)), (0, .ref (a 0)), (1, .int p1)]) hx hb dX6_filled_24 rfl hl (by decide) rfl (fun ls hl => ?_)
    exact wX6_filled_b25 C hr hlk FU s13 p1 (0 : Int32) _ _ _ hm hW (lv_sub hl [1, 2, 0] rfl)
  · rw [if_pos hc11] at hm
    refine lv_aload_n hx hb dX6_filled_12 rfl (lv_at hl 0 rfl) ?_
    refine lv_ldc hx hb C.2.2.2.1 (C.2.2.2.2.1 _ q865) dX6_filled_13 ?_
    obtain ⟨q15, e14, hm⟩ := mi_bind hm
    refine cs_i (q0 := 0) (As := [.int (-1000001 : Int32)]) (rest := []) C hW (c_X6_finds e14) kX6_finds q866 rfl rfl rfl rfl rfl hl.1 ⟨Nat.le_of_ble_eq_true rfl, Nat.le_of_ble_eq_true rfl⟩ ⟨Nat.le_refl 0, Nat.le_refl 0⟩ (Nat.le_of_ble_eq_true rfl) dX6_filled_15 (fun H locs hW => ?_)
    obtain ⟨rfl, rfl⟩ := Prod.mk.inj (Option.some.inj hm)
    exact en_i C hr hlk hW dX6_filled_18
theorem kX6_filled : KM yX6_filled cX6_filled 3 (some .int) 1 := ⟨q1020, q1021, q72, q1022, by decide +kernel, by decide +kernel, by decide +kernel⟩
def X6_isAsAside_b24 (σ : MS) : Nat → Int32 → Int32 → Option (Int32)
  | 0, _, _ => none
  | n + 1, x1, x2 => if (71 : Int32) ≤ x2 then (zb x1 (some x1)) else (if x1 = (0 : Int32) then (zb x1 (some x1)) else (ai x2 81 (ai x2 81 (if (σ 0 (Int32.toNatClampNeg x2)) = (σ 3 (Int32.toNatClampNeg x2)) then (X6_isAsAside_b24 σ n (1 : Int32) ((x2 + (1 : Int32)))) else (X6_isAsAside_b24 σ n (0 : Int32) ((x2 + (1 : Int32))))))))
set_option maxHeartbeats 4000000 in
set_option maxRecDepth 100000 in
theorem wX6_isAsAside_b24 {p : Program} {l : Launch} {e : Env} {s : State} {m : MethodId} {below : List Frame} {meth : Method} {c : Code} {D : va_G} {cy cz : ClassId} {G : GT} {A : Nat → Prop} {args : Array Value} {a : Nat → Nat} {r : Int32} {σ : MS} (C : Cx p s m args c cX6_isAsAside 3 "PumpTalkModel" D cy cz G A) (hr : meth.sig.returnType = some .boolean) (hlk : meth.locks = false) : ∀ (n : Nat) (x1 : Int32) (x2 : Int32) (H : Heap) (locs : List Loc) (ls : Array Slot), X6_isAsAside_b24 σ n x1 x2 = some r → Wd D A s.heap H locs (cM a cy σ) → lv_has ls 3 [(0, .ref (a 0)), (1, .int x1), (2, .int x2)] → W p l e (rmz 0 0) s m args below meth c H locs 0 0 (MQ below (QI D cy cz A (cM a cy σ) r) args s 0 0 A) (F0 m 24 ls []) := by
  have hx := C.1
  have hb := C.2.1
  intro n
  induction n with
  | zero =>
    intro x1 x2 H locs ls hm
    rw [X6_isAsAside_b24] at hm
    cases hm
  | succ n ih =>
    intro x1 x2 H locs ls hm hW hl
    rw [X6_isAsAside_b24] at hm
    refine lv_iload_n hx hb dX6_isAsAside_24 rfl (lv_at hl 2 rfl) ?_
    refine lv_bipush (v := 71) hx hb dX6_isAsAside_25 (by decide) ?_
    refine lv_icmp_ge (tgt := 61) hx hb dX6_isAsAside_27 (by decide) (fun hc1 => ?_) (fun hc1 => ?_)
    · rw [if_pos hc1] at hm
      refine lv_iload_n hx hb dX6_isAsAside_61 rfl (lv_at hl 1 rfl) ?_
      obtain ⟨hz2, hm⟩ := mi_zb hm
      obtain rfl := Option.some.inj hm
      exact en_z C hr hlk hz2.1 hW dX6_isAsAside_62
    · rw [if_neg hc1] at hm
      refine lv_iload_n hx hb dX6_isAsAside_30 rfl (lv_at hl 1 rfl) ?_
      refine lv_if_eq (tgt := 61) hx hb dX6_isAsAside_31 (by decide) (fun hc3 => ?_) (fun hc3 => ?_)
      · rw [if_pos hc3] at hm
        refine lv_iload_n hx hb dX6_isAsAside_61 rfl (lv_at hl 1 rfl) ?_
        obtain ⟨hz4, hm⟩ := mi_zb hm
        obtain rfl := Option.some.inj hm
        exact en_z C hr hlk hz4.1 hW dX6_isAsAside_62
      · rw [if_neg hc3] at hm
        refine lv_aload_n hx hb dX6_isAsAside_34 rfl (lv_at hl 0 rfl) ?_
        refine gM_s C hW q787 dX6_isAsAside_35 ?_
        refine lv_iload_n hx hb dX6_isAsAside_38 rfl (lv_at hl 2 rfl) ?_
        obtain ⟨hi5, hm⟩ := mi_ai hm
        refine lM_s C hW hi5 dX6_isAsAside_39 ?_
        refine lv_aload_n hx hb dX6_isAsAside_40 rfl (lv_at hl 0 rfl) ?_
        refine gM_aside C hW q790 dX6_isAsAside_41 ?_
        refine lv_iload_n hx hb dX6_isAsAside_44 rfl (lv_at hl 2 rfl) ?_
        obtain ⟨hi6, hm⟩ := mi_ai hm
        refine lM_aside C hW hi6 dX6_isAsAside_45 ?_
        refine lv_icmp_ne (tgt := 53) hx hb dX6_isAsAside_46 (by decide) (fun hc7 => ?_) (fun hc7 => ?_)
        · rw [if_neg hc7] at hm
          refine lv_iconst (v := 0) hx hb dX6_isAsAside_53 (by decide) ?_
          refine lv_istore_n (lv' := [(1, .int (0 : Int32)), (0, .ref (a 0)), (2, .int x2)]) hx hb dX6_isAsAside_54 rfl hl (by decide) rfl (fun ls hl => ?_)
          refine lv_iinc (v := (x2 + (1 : Int32))) (lv' := [(2, .int (x2 + (1 : Int32))), (1, .int (0 : Int32)), (0, .ref (a 0))]) hx hb dX6_isAsAside_55 hl (k := 2) rfl (congrArg (fun z : Int32 => x2 + z) (by decide)) (by decide) rfl (fun ls hl => ?_)
          refine lv_goto (tgt := 24) hx hb dX6_isAsAside_58 (by decide) ?_
          exact ih (0 : Int32) ((x2 + (1 : Int32))) _ _ _ hm hW (lv_sub hl [2, 1, 0] rfl)
        · rw [if_pos hc7] at hm
          refine lv_iconst (v := 1) hx hb dX6_isAsAside_49 (by decide) ?_
          refine lv_goto (tgt := 54) hx hb dX6_isAsAside_50 (by decide) ?_
          refine lv_istore_n (lv' := [(1, .int (1 : Int32)), (0, .ref (a 0)), (2, .int x2)]) hx hb dX6_isAsAside_54 rfl hl (by decide) rfl (fun ls hl => ?_)
          refine lv_iinc (v := (x2 + (1 : Int32))) (lv' := [(2, .int (x2 + (1 : Int32))), (1, .int (1 : Int32)), (0, .ref (a 0))]) hx hb dX6_isAsAside_55 hl (k := 2) rfl (congrArg (fun z : Int32 => x2 + z) (by decide)) (by decide) rfl (fun ls hl => ?_)
          refine lv_goto (tgt := 24) hx hb dX6_isAsAside_58 (by decide) ?_
          exact ih (1 : Int32) ((x2 + (1 : Int32))) _ _ _ hm hW (lv_sub hl [2, 1, 0] rfl)
def X6_isAsAside_b20 (σ : MS) (y0 : Int32) : Option (Int32) := X6_isAsAside_b24 σ FU y0 (7 : Int32)
set_option maxHeartbeats 4000000 in
set_option maxRecDepth 100000 in
theorem wX6_isAsAside_b20 {p : Program} {l : Launch} {e : Env} {s : State} {m : MethodId} {below : List Frame} {meth : Method} {c : Code} {D : va_G} {cy cz : ClassId} {G : GT} {A : Nat → Prop} {args : Array Value} {a : Nat → Nat} {r : Int32} {σ : MS} (C : Cx p s m args c cX6_isAsAside 3 "PumpTalkModel" D cy cz G A) (hr : meth.sig.returnType = some .boolean) (hlk : meth.locks = false) : ∀ (y0 : Int32) (H : Heap) (locs : List Loc) (ls : Array Slot), X6_isAsAside_b20 σ y0 = some r → Wd D A s.heap H locs (cM a cy σ) → lv_has ls 3 [(0, .ref (a 0))] → W p l e (rmz 0 0) s m args below meth c H locs 0 0 (MQ below (QI D cy cz A (cM a cy σ) r) args s 0 0 A) (F0 m 20 ls [.int y0]) := by
  have hx := C.1
  have hb := C.2.1
  intro y0 H locs ls hm hW hl
  unfold X6_isAsAside_b20 at hm
  refine lv_istore_n (lv' := [(1, .int y0), (0, .ref (a 0))]) hx hb dX6_isAsAside_20 rfl hl (by decide) rfl (fun ls hl => ?_)
  refine lv_bipush (v := 7) hx hb dX6_isAsAside_21 (by decide) ?_
  refine lv_istore_n (lv' := [(2, .int (7 : Int32)), (1, .int y0), (0, .ref (a 0))]) hx hb dX6_isAsAside_23 rfl hl (by decide) rfl (fun ls hl => ?_)
  exact wX6_isAsAside_b24 C hr hlk FU y0 (7 : Int32) _ _ _ hm hW (lv_sub hl [2, 1, 0] rfl)
def X6_isAsAside (σ : MS) : Option (Int32) := if (σ 0 3) = (σ 3 3) then (X6_isAsAside_b20 σ (1 : Int32)) else (X6_isAsAside_b20 σ (0 : Int32))
set_option maxHeartbeats 4000000 in
set_option maxRecDepth 100000 in
theorem c_X6_isAsAside {l : Launch} {D : va_G} {cy cz : ClassId} {G : GT} {a : Nat → Nat} {σ : MS} {r : Int32} (hm : X6_isAsAside σ = some r) : CtI l D cy cz G yX6_isAsAside cX6_isAsAside 3 (some .boolean) 0 0 [.ref (a 0)] (cM a cy σ) (cM a cy σ) r := by
  refine ct_i (own := "PumpTalkModel") (by decide) rfl (Nat.le_of_ble_eq_true rfl) ?_
  intro p e s m below meth c ls A C hr hlk hW hl
  have hx := C.1
  have hb := C.2.1
  have hl : lv_has ls 3 [(0, .ref (a 0))] := hl
  unfold X6_isAsAside at hm
  refine lv_aload_n hx hb dX6_isAsAside_0 rfl (lv_at hl 0 rfl) ?_
  refine gM_s C hW q787 dX6_isAsAside_1 ?_
  refine lv_iconst (v := 3) hx hb dX6_isAsAside_4 (by decide) ?_
  refine lM_s_k (k := 3) C hW (by decide) (by decide) dX6_isAsAside_5 ?_
  refine lv_aload_n hx hb dX6_isAsAside_6 rfl (lv_at hl 0 rfl) ?_
  refine gM_aside C hW q790 dX6_isAsAside_7 ?_
  refine lv_iconst (v := 3) hx hb dX6_isAsAside_10 (by decide) ?_
  refine lM_aside_k (k := 3) C hW (by decide) (by decide) dX6_isAsAside_11 ?_
  refine lv_icmp_ne (tgt := 19) hx hb dX6_isAsAside_12 (by decide) (fun hc8 => ?_) (fun hc8 => ?_)
  · rw [if_neg hc8] at hm
    refine lv_iconst (v := 0) hx hb dX6_isAsAside_19 (by decide) ?_
    exact wX6_isAsAside_b20 C hr hlk (0 : Int32) _ _ _ hm hW (lv_sub hl [0] rfl)
  · rw [if_pos hc8] at hm
    refine lv_iconst (v := 1) hx hb dX6_isAsAside_15 (by decide) ?_
    refine lv_goto (tgt := 20) hx hb dX6_isAsAside_16 (by decide) ?_
    exact wX6_isAsAside_b20 C hr hlk (1 : Int32) _ _ _ hm hW (lv_sub hl [0] rfl)
theorem kX6_isAsAside : KM yX6_isAsAside cX6_isAsAside 3 (some .boolean) 0 := ⟨q1030, q42, q72, q1031, by decide +kernel, by decide +kernel, by decide +kernel⟩
def X6_round_b34 (σ : MS) (x1 : Int32) : Option (Int32 × MS) := (X6_takesBack σ x1).bind fun q2 => (X6_orNone q2.2 q2.1).bind fun q4 => some (q4.1, q4.2)
set_option maxHeartbeats 4000000 in
set_option maxRecDepth 100000 in
theorem wX6_round_b34 {p : Program} {l : Launch} {e : Env} {s : State} {m : MethodId} {below : List Frame} {meth : Method} {c : Code} {D : va_G} {cy cz : ClassId} {G : GT} {A : Nat → Prop} {args : Array Value} {a : Nat → Nat} {r : Int32} {σr : MS} (C : Cx p s m args c cX6_round 2 "PumpTalkModel" D cy cz G A) (hr : meth.sig.returnType = some .int) (hlk : meth.locks = false) : ∀ (σ : MS) (x1 : Int32) (H : Heap) (locs : List Loc) (ls : Array Slot), X6_round_b34 σ x1 = some (r, σr) → Wd D A s.heap H locs (cM a cy σ) → lv_has ls 2 [(0, .ref (a 0)), (1, .int x1)] → W p l e (rmz 5 114) s m args below meth c H locs 0 0 (MQ below (QI D cy cz A (cM a cy σr) r) args s 0 0 A) (F0 m 34 ls []) := by
  have hx := C.1
  have hb := C.2.1
  intro σ x1 H locs ls hm hW hl
  unfold X6_round_b34 at hm
  refine lv_aload_n hx hb dX6_round_34 rfl (lv_at hl 0 rfl) ?_
  refine lv_aload_n hx hb dX6_round_35 rfl (lv_at hl 0 rfl) ?_
  refine lv_iload_n hx hb dX6_round_36 rfl (lv_at hl 1 rfl) ?_
  obtain ⟨q2, e1, hm⟩ := mi_bind hm
  refine cs_i (q0 := 0) (As := [.int x1]) (rest := [.ref (a 0)]) C hW (c_X6_takesBack e1) kX6_takesBack q1002 rfl rfl rfl rfl rfl hl.1 ⟨Nat.le_of_ble_eq_true rfl, Nat.le_of_ble_eq_true rfl⟩ ⟨Nat.le_refl 0, Nat.le_refl 0⟩ (Nat.le_of_ble_eq_true rfl) dX6_round_37 (fun H locs hW => ?_)
  obtain ⟨q4, e3, hm⟩ := mi_bind hm
  refine cs_i (q0 := 0) (As := [.int q2.1]) (rest := []) C hW (c_X6_orNone e3) kX6_orNone q1014 rfl rfl rfl rfl rfl hl.1 ⟨Nat.le_of_ble_eq_true rfl, Nat.le_of_ble_eq_true rfl⟩ ⟨Nat.le_refl 0, Nat.le_refl 0⟩ (Nat.le_of_ble_eq_true rfl) dX6_round_40 (fun H locs hW => ?_)
  obtain ⟨rfl, rfl⟩ := Prod.mk.inj (Option.some.inj hm)
  exact en_i C hr hlk hW dX6_round_43
def X6_round_b10 : Nat → MS → Int32 → Option (Int32 × MS)
  | 0, _, _ => none
  | n + 1, σ, x1 => if (300 : Int32) < x1 then (X6_round_b34 σ x1) else ((X6_isAsAside σ).bind fun v7 => if v7 = (0 : Int32) then ((X6_minute σ).bind fun s10 => X6_round_b10 n s10 ((x1 + (1 : Int32)))) else (X6_round_b34 σ x1))
set_option maxHeartbeats 4000000 in
set_option maxRecDepth 100000 in
theorem wX6_round_b10 {p : Program} {l : Launch} {e : Env} {s : State} {m : MethodId} {below : List Frame} {meth : Method} {c : Code} {D : va_G} {cy cz : ClassId} {G : GT} {A : Nat → Prop} {args : Array Value} {a : Nat → Nat} {r : Int32} {σr : MS} (C : Cx p s m args c cX6_round 2 "PumpTalkModel" D cy cz G A) (hr : meth.sig.returnType = some .int) (hlk : meth.locks = false) : ∀ (n : Nat) (σ : MS) (x1 : Int32) (H : Heap) (locs : List Loc) (ls : Array Slot), X6_round_b10 n σ x1 = some (r, σr) → Wd D A s.heap H locs (cM a cy σ) → lv_has ls 2 [(0, .ref (a 0)), (1, .int x1)] → W p l e (rmz 5 114) s m args below meth c H locs 0 0 (MQ below (QI D cy cz A (cM a cy σr) r) args s 0 0 A) (F0 m 10 ls []) := by
  have hx := C.1
  have hb := C.2.1
  intro n
  induction n with
  | zero =>
    intro σ x1 H locs ls hm
    rw [X6_round_b10] at hm
    cases hm
  | succ n ih =>
    intro σ x1 H locs ls hm hW hl
    rw [X6_round_b10] at hm
    refine lv_iload_n hx hb dX6_round_10 rfl (lv_at hl 1 rfl) ?_
    refine lv_sipush (v := 300) hx hb dX6_round_11 (by decide) ?_
    refine lv_icmp_gt (tgt := 34) hx hb dX6_round_14 (by decide) (fun hc5 => ?_) (fun hc5 => ?_)
    · rw [if_pos hc5] at hm
      exact wX6_round_b34 C hr hlk σ x1 _ _ _ hm hW (lv_sub hl [0, 1] rfl)
    · rw [if_neg hc5] at hm
      refine lv_aload_n hx hb dX6_round_17 rfl (lv_at hl 0 rfl) ?_
      obtain ⟨v7, e6, hm⟩ := mi_bind hm
      refine cs_i (q0 := 0) (As := []) (rest := []) C hW (c_X6_isAsAside e6) kX6_isAsAside q1028 rfl rfl rfl rfl rfl hl.1 ⟨Nat.le_of_ble_eq_true rfl, Nat.le_of_ble_eq_true rfl⟩ ⟨Nat.le_refl 0, Nat.le_refl 0⟩ (Nat.le_of_ble_eq_true rfl) dX6_round_18 (fun H locs hW => ?_)
      refine lv_if_ne (tgt := 34) hx hb dX6_round_21 (by decide) (fun hc8 => ?_) (fun hc8 => ?_)
      · rw [if_neg hc8] at hm
        exact wX6_round_b34 C hr hlk σ x1 _ _ _ hm hW (lv_sub hl [0, 1] rfl)
      · rw [if_pos hc8] at hm
        refine lv_aload_n hx hb dX6_round_24 rfl (lv_at hl 0 rfl) ?_
        obtain ⟨s10, e9, hm⟩ := mi_bind hm
        refine cs_v (q0 := 0) (As := []) (rest := []) C hW (c_X6_minute e9) kX6_minute q969 rfl rfl rfl rfl rfl hl.1 ⟨Nat.le_of_ble_eq_true rfl, Nat.le_of_ble_eq_true rfl⟩ ⟨Nat.le_refl 0, Nat.le_refl 0⟩ (Nat.le_of_ble_eq_true rfl) dX6_round_25 (fun H locs hW => ?_)
        refine lv_iinc (v := (x1 + (1 : Int32))) (lv' := [(1, .int (x1 + (1 : Int32))), (0, .ref (a 0))]) hx hb dX6_round_28 hl (k := 1) rfl (congrArg (fun z : Int32 => x1 + z) (by decide)) (by decide) rfl (fun ls hl => ?_)
        refine lv_goto (tgt := 10) hx hb dX6_round_31 (by decide) ?_
        exact ih s10 ((x1 + (1 : Int32))) _ _ _ hm hW (lv_sub hl [1, 0] rfl)
def X6_round (σ : MS) : Option (Int32 × MS) := (X6_laysAside σ).bind fun s12 => (X6_minute s12).bind fun s14 => X6_round_b10 FU s14 (1 : Int32)
set_option maxHeartbeats 4000000 in
set_option maxRecDepth 100000 in
theorem c_X6_round {l : Launch} {D : va_G} {cy cz : ClassId} {G : GT} {a : Nat → Nat} {σ : MS} {r : Int32} {σr : MS} (hm : X6_round σ = some (r, σr)) : CtI l D cy cz G yX6_round cX6_round 2 (some .int) 5 114 [.ref (a 0)] (cM a cy σ) (cM a cy σr) r := by
  refine ct_i (own := "PumpTalkModel") (by decide) rfl (Nat.le_of_ble_eq_true rfl) ?_
  intro p e s m below meth c ls A C hr hlk hW hl
  have hx := C.1
  have hb := C.2.1
  have hl : lv_has ls 2 [(0, .ref (a 0))] := hl
  unfold X6_round at hm
  refine lv_aload_n hx hb dX6_round_0 rfl (lv_at hl 0 rfl) ?_
  obtain ⟨s12, e11, hm⟩ := mi_bind hm
  refine cs_v (q0 := 0) (As := []) (rest := []) C hW (c_X6_laysAside e11) kX6_laysAside q998 rfl rfl rfl rfl rfl hl.1 ⟨Nat.le_of_ble_eq_true rfl, Nat.le_of_ble_eq_true rfl⟩ ⟨Nat.le_refl 0, Nat.le_refl 0⟩ (Nat.le_of_ble_eq_true rfl) dX6_round_1 (fun H locs hW => ?_)
  refine lv_iconst (v := 1) hx hb dX6_round_4 (by decide) ?_
  refine lv_istore_n (lv' := [(1, .int (1 : Int32)), (0, .ref (a 0))]) hx hb dX6_round_5 rfl hl (by decide) rfl (fun ls hl => ?_)
  refine lv_aload_n hx hb dX6_round_6 rfl (lv_at hl 1 rfl) ?_
  obtain ⟨s14, e13, hm⟩ := mi_bind hm
  refine cs_v (q0 := 0) (As := []) (rest := []) C hW (c_X6_minute e13) kX6_minute q969 rfl rfl rfl rfl rfl hl.1 ⟨Nat.le_of_ble_eq_true rfl, Nat.le_of_ble_eq_true rfl⟩ ⟨Nat.le_refl 0, Nat.le_refl 0⟩ (Nat.le_of_ble_eq_true rfl) dX6_round_7 (fun H locs hW => ?_)
  exact wX6_round_b10 C hr hlk FU s14 (1 : Int32) _ _ _ hm hW (lv_sub hl [1, 0] rfl)
theorem kX6_round : KM yX6_round cX6_round 2 (some .int) 0 := ⟨q1025, q1026, q72, q1027, by decide +kernel, by decide +kernel, by decide +kernel⟩
def X6_isSoon (p1 : Int32) : Option (Int32) := (X6_in (Int32.toInt64 p1) (0 : Int64) (60 : Int64)).bind fun v2 => zb v2 (some v2)
set_option maxHeartbeats 4000000 in
set_option maxRecDepth 100000 in
theorem c_X6_isSoon {l : Launch} {D : va_G} {cy cz : ClassId} {G : GT} {p1 : Int32} {r : Int32} (hm : X6_isSoon p1 = some r) : CtI l D cy cz G yX6_isSoon cX6_isSoon 1 (some .boolean) 1 25 [.int p1] ([] : va_W) ([] : va_W) r := by
  refine ct_i (own := "PumpTalkModel") (by decide) rfl (Nat.le_of_ble_eq_true rfl) ?_
  intro p e s m below meth c ls A C hr hlk hW hl
  have hx := C.1
  have hb := C.2.1
  have hl : lv_has ls 1 [(0, .int p1)] := hl
  unfold X6_isSoon at hm
  refine lv_iload_n hx hb dX6_isSoon_0 rfl (lv_at hl 0 rfl) ?_
  refine lv_i2l hx hb dX6_isSoon_1 rfl ?_
  refine lv_lconst (v := 0) hx hb dX6_isSoon_2 (by decide) ?_
  refine lv_ldc2 hx hb C.2.2.2.1 (C.2.2.2.2.1 _ q1039) dX6_isSoon_3 ?_
  obtain ⟨v2, e1, hm⟩ := mi_bind hm
  refine cS_i (As := [.long (Int32.toInt64 p1), .long (0 : Int64), .long (60 : Int64)]) (rest := []) C hW (c_X6_in e1) kX6_in q862 rfl rfl hl.1 ⟨Nat.le_of_ble_eq_true rfl, Nat.le_of_ble_eq_true rfl⟩ ⟨Nat.le_refl 0, Nat.le_refl 0⟩ (Nat.le_of_ble_eq_true rfl) dX6_isSoon_6 (fun H locs hW => ?_)
  obtain ⟨hz3, hm⟩ := mi_zb hm
  obtain rfl := Option.some.inj hm
  exact en_z C hr hlk hz3.1 hW dX6_isSoon_9
theorem kX6_isSoon : KS yX6_isSoon cX6_isSoon 1 (some .boolean) 1 := ⟨q1037, q72, q1038, by decide +kernel, by decide +kernel, by decide +kernel⟩
def X6_given (σ : MS) (p1 : Int32) (p2 : Int32) (p3 : Int32) : Option (Int32 × MS) := (X6_laysAside σ).bind fun s2 => (X6_goesOn (su (su (su s2 0 5 p1) 0 6 p2) 22 6 (0 : Int32)) p3).bind fun s4 => (X6_takesBack s4 (s4 22 6)).bind fun q6 => some (q6.1, q6.2)
set_option maxHeartbeats 4000000 in
set_option maxRecDepth 100000 in
theorem c_X6_given {l : Launch} {D : va_G} {cy cz : ClassId} {G : GT} {a : Nat → Nat} {σ : MS} {p1 : Int32} {p2 : Int32} {p3 : Int32} {r : Int32} {σr : MS} (hm : X6_given σ p1 p2 p3 = some (r, σr)) : CtI l D cy cz G yX6_given cX6_given 4 (some .int) 6 136 [.ref (a 0), .int p1, .int p2, .int p3] (cM a cy σ) (cM a cy σr) r := by
  refine ct_i (own := "PumpTalkModel") (by decide) rfl (Nat.le_of_ble_eq_true rfl) ?_
  intro p e s m below meth c ls A C hr hlk hW hl
  have hx := C.1
  have hb := C.2.1
  have hl : lv_has ls 4 [(0, .ref (a 0)), (1, .int p1), (2, .int p2), (3, .int p3)] := hl
  unfold X6_given at hm
  refine lv_aload_n hx hb dX6_given_0 rfl (lv_at hl 0 rfl) ?_
  obtain ⟨s2, e1, hm⟩ := mi_bind hm
  refine cs_v (q0 := 0) (As := []) (rest := []) C hW (c_X6_laysAside e1) kX6_laysAside q998 rfl rfl rfl rfl rfl hl.1 ⟨Nat.le_of_ble_eq_true rfl, Nat.le_of_ble_eq_true rfl⟩ ⟨Nat.le_refl 0, Nat.le_refl 0⟩ (Nat.le_of_ble_eq_true rfl) dX6_given_1 (fun H locs hW => ?_)
  refine lv_aload_n hx hb dX6_given_4 rfl (lv_at hl 0 rfl) ?_
  refine gM_s C hW q787 dX6_given_5 ?_
  refine lv_iconst (v := 5) hx hb dX6_given_8 (by decide) ?_
  refine lv_iload_n hx hb dX6_given_9 rfl (lv_at hl 1 rfl) ?_
  refine tM_s_k (k := 5) C hW (by decide) (by decide) dX6_given_10 (fun H locs hW => ?_)
  refine lv_aload_n hx hb dX6_given_11 rfl (lv_at hl 0 rfl) ?_
  refine gM_s C hW q787 dX6_given_12 ?_
  refine lv_bipush (v := 6) hx hb dX6_given_15 (by decide) ?_
  refine lv_iload_n hx hb dX6_given_17 rfl (lv_at hl 2 rfl) ?_
  refine tM_s_k (k := 6) C hW (by decide) (by decide) dX6_given_18 (fun H locs hW => ?_)
  refine lv_aload_n hx hb dX6_given_19 rfl (lv_at hl 0 rfl) ?_
  refine lv_iconst (v := 0) hx hb dX6_given_20 (by decide) ?_
  refine pM_came C hW q793 dX6_given_21 (fun H locs hW => ?_)
  refine lv_aload_n hx hb dX6_given_24 rfl (lv_at hl 0 rfl) ?_
  refine lv_iload_n hx hb dX6_given_25 rfl (lv_at hl 3 rfl) ?_
  obtain ⟨s4, e3, hm⟩ := mi_bind hm
  refine cs_v (q0 := 0) (As := [.int p3]) (rest := []) C hW (c_X6_goesOn e3) kX6_goesOn q965 rfl rfl rfl rfl rfl hl.1 ⟨Nat.le_of_ble_eq_true rfl, Nat.le_of_ble_eq_true rfl⟩ ⟨Nat.le_refl 0, Nat.le_refl 0⟩ (Nat.le_of_ble_eq_true rfl) dX6_given_26 (fun H locs hW => ?_)
  refine lv_aload_n hx hb dX6_given_29 rfl (lv_at hl 0 rfl) ?_
  refine lv_aload_n hx hb dX6_given_30 rfl (lv_at hl 0 rfl) ?_
  refine gM_came C hW q793 dX6_given_31 ?_
  obtain ⟨q6, e5, hm⟩ := mi_bind hm
  refine cs_i (q0 := 0) (As := [.int (s4 22 6)]) (rest := []) C hW (c_X6_takesBack e5) kX6_takesBack q1002 rfl rfl rfl rfl rfl hl.1 ⟨Nat.le_of_ble_eq_true rfl, Nat.le_of_ble_eq_true rfl⟩ ⟨Nat.le_refl 0, Nat.le_refl 0⟩ (Nat.le_of_ble_eq_true rfl) dX6_given_34 (fun H locs hW => ?_)
  obtain ⟨rfl, rfl⟩ := Prod.mk.inj (Option.some.inj hm)
  exact en_i C hr hlk hW dX6_given_37
theorem kX6_given : KM yX6_given cX6_given 4 (some .int) 3 := ⟨q1042, q43, q72, q1043, by decide +kernel, by decide +kernel, by decide +kernel⟩
def X6_gives_b26 (σ : MS) : Option (Int32 × MS) := (X6_finds σ (-1000001 : Int32)).bind fun q2 => some (q2.1, q2.2)
set_option maxHeartbeats 4000000 in
set_option maxRecDepth 100000 in
theorem wX6_gives_b26 {p : Program} {l : Launch} {e : Env} {s : State} {m : MethodId} {below : List Frame} {meth : Method} {c : Code} {D : va_G} {cy cz : ClassId} {G : GT} {A : Nat → Prop} {args : Array Value} {a : Nat → Nat} {r : Int32} {σr : MS} (C : Cx p s m args c cX6_gives 4 "PumpTalkModel" D cy cz G A) (hr : meth.sig.returnType = some .int) (hlk : meth.locks = false) : ∀ (σ : MS) (H : Heap) (locs : List Loc) (ls : Array Slot), X6_gives_b26 σ = some (r, σr) → Wd D A s.heap H locs (cM a cy σ) → lv_has ls 4 [(0, .ref (a 0))] → W p l e (rmz 7 159) s m args below meth c H locs 0 0 (MQ below (QI D cy cz A (cM a cy σr) r) args s 0 0 A) (F0 m 26 ls []) := by
  have hx := C.1
  have hb := C.2.1
  intro σ H locs ls hm hW hl
  unfold X6_gives_b26 at hm
  refine lv_aload_n hx hb dX6_gives_26 rfl (lv_at hl 0 rfl) ?_
  refine lv_ldc hx hb C.2.2.2.1 (C.2.2.2.2.1 _ q865) dX6_gives_27 ?_
  obtain ⟨q2, e1, hm⟩ := mi_bind hm
  refine cs_i (q0 := 0) (As := [.int (-1000001 : Int32)]) (rest := []) C hW (c_X6_finds e1) kX6_finds q866 rfl rfl rfl rfl rfl hl.1 ⟨Nat.le_of_ble_eq_true rfl, Nat.le_of_ble_eq_true rfl⟩ ⟨Nat.le_refl 0, Nat.le_refl 0⟩ (Nat.le_of_ble_eq_true rfl) dX6_gives_29 (fun H locs hW => ?_)
  obtain ⟨rfl, rfl⟩ := Prod.mk.inj (Option.some.inj hm)
  exact en_i C hr hlk hW dX6_gives_32
def X6_gives (σ : MS) (p1 : Int32) (p2 : Int32) (p3 : Int32) : Option (Int32 × MS) := (X6_areTwo σ p1 p2).bind fun v4 => if v4 = (0 : Int32) then (X6_gives_b26 σ) else ((X6_isSoon p3).bind fun v7 => if v7 = (0 : Int32) then (X6_gives_b26 σ) else ((X6_given σ p1 p2 p3).bind fun q10 => some (q10.1, q10.2)))
set_option maxHeartbeats 4000000 in
set_option maxRecDepth 100000 in
theorem c_X6_gives {l : Launch} {D : va_G} {cy cz : ClassId} {G : GT} {a : Nat → Nat} {σ : MS} {p1 : Int32} {p2 : Int32} {p3 : Int32} {r : Int32} {σr : MS} (hm : X6_gives σ p1 p2 p3 = some (r, σr)) : CtI l D cy cz G yX6_gives cX6_gives 4 (some .int) 7 159 [.ref (a 0), .int p1, .int p2, .int p3] (cM a cy σ) (cM a cy σr) r := by
  refine ct_i (own := "PumpTalkModel") (by decide) rfl (Nat.le_of_ble_eq_true rfl) ?_
  intro p e s m below meth c ls A C hr hlk hW hl
  have hx := C.1
  have hb := C.2.1
  have hl : lv_has ls 4 [(0, .ref (a 0)), (1, .int p1), (2, .int p2), (3, .int p3)] := hl
  unfold X6_gives at hm
  refine lv_aload_n hx hb dX6_gives_0 rfl (lv_at hl 0 rfl) ?_
  refine lv_iload_n hx hb dX6_gives_1 rfl (lv_at hl 1 rfl) ?_
  refine lv_iload_n hx hb dX6_gives_2 rfl (lv_at hl 2 rfl) ?_
  obtain ⟨v4, e3, hm⟩ := mi_bind hm
  refine cs_i (q0 := 0) (As := [.int p1, .int p2]) (rest := []) C hW (c_X6_areTwo e3) kX6_areTwo q935 rfl rfl rfl rfl rfl hl.1 ⟨Nat.le_of_ble_eq_true rfl, Nat.le_of_ble_eq_true rfl⟩ ⟨Nat.le_refl 0, Nat.le_refl 0⟩ (Nat.le_of_ble_eq_true rfl) dX6_gives_3 (fun H locs hW => ?_)
  refine lv_if_eq (tgt := 26) hx hb dX6_gives_6 (by decide) (fun hc5 => ?_) (fun hc5 => ?_)
  · rw [if_pos hc5] at hm
    exact wX6_gives_b26 C hr hlk σ _ _ _ hm hW (lv_sub hl [0] rfl)
  · rw [if_neg hc5] at hm
    refine lv_iload_n hx hb dX6_gives_9 rfl (lv_at hl 3 rfl) ?_
    obtain ⟨v7, e6, hm⟩ := mi_bind hm
    refine cS_i (As := [.int p3]) (rest := []) C hW (c_X6_isSoon e6) kX6_isSoon q1036 rfl rfl hl.1 ⟨Nat.le_of_ble_eq_true rfl, Nat.le_of_ble_eq_true rfl⟩ ⟨Nat.le_refl 0, Nat.le_refl 0⟩ (Nat.le_of_ble_eq_true rfl) dX6_gives_10 (fun H locs hW => ?_)
    refine lv_if_eq (tgt := 26) hx hb dX6_gives_13 (by decide) (fun hc8 => ?_) (fun hc8 => ?_)
    · rw [if_pos hc8] at hm
      exact wX6_gives_b26 C hr hlk σ _ _ _ hm hW (lv_sub hl [0] rfl)
    · rw [if_neg hc8] at hm
      refine lv_aload_n hx hb dX6_gives_16 rfl (lv_at hl 0 rfl) ?_
      refine lv_iload_n hx hb dX6_gives_17 rfl (lv_at hl 1 rfl) ?_
      refine lv_iload_n hx hb dX6_gives_18 rfl (lv_at hl 2 rfl) ?_
      refine lv_iload_n hx hb dX6_gives_19 rfl (lv_at hl 3 rfl) ?_
      obtain ⟨q10, e9, hm⟩ := mi_bind hm
      refine cs_i (q0 := 0) (As := [.int p1, .int p2, .int p3]) (rest := []) C hW (c_X6_given e9) kX6_given q1040 rfl rfl rfl rfl rfl hl.1 ⟨Nat.le_of_ble_eq_true rfl, Nat.le_of_ble_eq_true rfl⟩ ⟨Nat.le_refl 0, Nat.le_refl 0⟩ (Nat.le_of_ble_eq_true rfl) dX6_gives_20 (fun H locs hW => ?_)
      refine lv_goto (tgt := 32) hx hb dX6_gives_23 (by decide) ?_
      obtain ⟨rfl, rfl⟩ := Prod.mk.inj (Option.some.inj hm)
      exact en_i C hr hlk hW dX6_gives_32
theorem kX6_gives : KM yX6_gives cX6_gives 4 (some .int) 3 := ⟨q1033, q1034, q72, q1035, by decide +kernel, by decide +kernel, by decide +kernel⟩
def X6_best_b78 (k38 : MS → Int32 → Int32 → Int32 → Int32 → Int32 → Option (Int32 × MS)) (σ : MS) (x1 : Int32) (x3 : Int32) (x4 : Int32) (x5 : Int32) (x6 : Int32) (y0 : Int32) : Option (Int32 × MS) := if x6 ≤ x3 then (k38 σ x1 y0 x3 x4 ((x5 + (1 : Int32)))) else (k38 σ x1 y0 x6 x4 ((x5 + (1 : Int32))))
set_option maxHeartbeats 4000000 in
set_option maxRecDepth 100000 in
theorem wX6_best_b78 {p : Program} {l : Launch} {e : Env} {s : State} {m : MethodId} {below : List Frame} {meth : Method} {c : Code} {D : va_G} {cy cz : ClassId} {G : GT} {A : Nat → Prop} {args : Array Value} {a : Nat → Nat} {r : Int32} {σr : MS} (C : Cx p s m args c cX6_best 7 "PumpTalkModel" D cy cz G A) (hr : meth.sig.returnType = some .int) (hlk : meth.locks = false) {k38 : MS → Int32 → Int32 → Int32 → Int32 → Int32 → Option (Int32 × MS)} (hk38 : ∀ (σ : MS) (x1 : Int32) (x2 : Int32) (x3 : Int32) (x4 : Int32) (x5 : Int32) (H : Heap) (locs : List Loc) (ls : Array Slot), k38 σ x1 x2 x3 x4 x5 = some (r, σr) → Wd D A s.heap H locs (cM a cy σ) → lv_has ls 7 [(0, .ref (a 0)), (1, .int x1), (2, .int x2), (3, .int x3), (4, .int x4), (5, .int x5)] → W p l e (rmz 7 159) s m args below meth c H locs 0 0 (MQ below (QI D cy cz A (cM a cy σr) r) args s 0 0 A) (F0 m 38 ls [])) : ∀ (σ : MS) (x1 : Int32) (x3 : Int32) (x4 : Int32) (x5 : Int32) (x6 : Int32) (y0 : Int32) (H : Heap) (locs : List Loc) (ls : Array Slot), X6_best_b78 k38 σ x1 x3 x4 x5 x6 y0 = some (r, σr) → Wd D A s.heap H locs (cM a cy σ) → lv_has ls 7 [(0, .ref (a 0)), (1, .int x1), (3, .int x3), (4, .int x4), (5, .int x5), (6, .int x6)] → W p l e (rmz 7 159) s m args below meth c H locs 0 0 (MQ below (QI D cy cz A (cM a cy σr) r) args s 0 0 A) (F0 m 78 ls [.int y0]) := by
  have hx := C.1
  have hb := C.2.1
  intro σ x1 x3 x4 x5 x6 y0 H locs ls hm hW hl
  unfold X6_best_b78 at hm
  refine lv_istore_n (lv' := [(2, .int y0), (0, .ref (a 0)), (1, .int x1), (3, .int x3), (4, .int x4), (5, .int x5), (6, .int x6)]) hx hb dX6_best_78 rfl hl (by decide) rfl (fun ls hl => ?_)
  refine lv_iload hx hb dX6_best_79 (lv_at hl 6 rfl) ?_
  refine lv_iload_n hx hb dX6_best_81 rfl (lv_at hl 3 rfl) ?_
  refine lv_icmp_le (tgt := 90) hx hb dX6_best_82 (by decide) (fun hc1 => ?_) (fun hc1 => ?_)
  · rw [if_pos hc1] at hm
    refine lv_iload_n hx hb dX6_best_90 rfl (lv_at hl 3 rfl) ?_
    refine lv_istore_n (lv' := [(3, .int x3), (2, .int y0), (0, .ref (a 0)), (1, .int x1), (4, .int x4), (5, .int x5), (6, .int x6)]) hx hb dX6_best_91 rfl hl (by decide) rfl (fun ls hl => ?_)
    refine lv_iinc (v := (x5 + (1 : Int32))) (lv' := [(5, .int (x5 + (1 : Int32))), (3, .int x3), (2, .int y0), (0, .ref (a 0)), (1, .int x1), (4, .int x4), (6, .int x6)]) hx hb dX6_best_92 hl (k := 5) rfl (congrArg (fun z : Int32 => x5 + z) (by decide)) (by decide) rfl (fun ls hl => ?_)
    refine lv_goto (tgt := 38) hx hb dX6_best_95 (by decide) ?_
    exact hk38 σ x1 y0 x3 x4 ((x5 + (1 : Int32))) _ _ _ hm hW (lv_sub hl [3, 4, 2, 1, 5, 0] rfl)
  · rw [if_neg hc1] at hm
    refine lv_iload hx hb dX6_best_85 (lv_at hl 6 rfl) ?_
    refine lv_goto (tgt := 91) hx hb dX6_best_87 (by decide) ?_
    refine lv_istore_n (lv' := [(3, .int x6), (2, .int y0), (0, .ref (a 0)), (1, .int x1), (4, .int x4), (5, .int x5), (6, .int x6)]) hx hb dX6_best_91 rfl hl (by decide) rfl (fun ls hl => ?_)
    refine lv_iinc (v := (x5 + (1 : Int32))) (lv' := [(5, .int (x5 + (1 : Int32))), (3, .int x6), (2, .int y0), (0, .ref (a 0)), (1, .int x1), (4, .int x4), (6, .int x6)]) hx hb dX6_best_92 hl (k := 5) rfl (congrArg (fun z : Int32 => x5 + z) (by decide)) (by decide) rfl (fun ls hl => ?_)
    refine lv_goto (tgt := 38) hx hb dX6_best_95 (by decide) ?_
    exact hk38 σ x1 y0 x6 x4 ((x5 + (1 : Int32))) _ _ _ hm hW (lv_sub hl [3, 4, 2, 1, 5, 0] rfl)
def X6_best_b38 (k21 : MS → Int32 → Int32 → Int32 → Int32 → Option (Int32 × MS)) : Nat → MS → Int32 → Int32 → Int32 → Int32 → Int32 → Option (Int32 × MS)
  | 0, _, _, _, _, _, _ => none
  | n + 1, σ, x1, x2, x3, x4, x5 => if (σ 0 1) ≤ x5 then (k21 σ x1 x2 x3 ((x4 + (1 : Int32)))) else ((X6_given σ x4 x5 x1).bind fun q4 => if q4.1 ≤ x3 then (X6_best_b78 (X6_best_b38 k21 n) q4.2 x1 x3 x4 x5 q4.1 x2) else (X6_best_b78 (X6_best_b38 k21 n) q4.2 x1 x3 x4 x5 q4.1 ((((8 : Int32) * x4) + x5))))
set_option maxHeartbeats 4000000 in
set_option maxRecDepth 100000 in
theorem wX6_best_b38 {p : Program} {l : Launch} {e : Env} {s : State} {m : MethodId} {below : List Frame} {meth : Method} {c : Code} {D : va_G} {cy cz : ClassId} {G : GT} {A : Nat → Prop} {args : Array Value} {a : Nat → Nat} {r : Int32} {σr : MS} (C : Cx p s m args c cX6_best 7 "PumpTalkModel" D cy cz G A) (hr : meth.sig.returnType = some .int) (hlk : meth.locks = false) {k21 : MS → Int32 → Int32 → Int32 → Int32 → Option (Int32 × MS)} (hk21 : ∀ (σ : MS) (x1 : Int32) (x2 : Int32) (x3 : Int32) (x4 : Int32) (H : Heap) (locs : List Loc) (ls : Array Slot), k21 σ x1 x2 x3 x4 = some (r, σr) → Wd D A s.heap H locs (cM a cy σ) → lv_has ls 7 [(0, .ref (a 0)), (1, .int x1), (2, .int x2), (3, .int x3), (4, .int x4)] → W p l e (rmz 7 159) s m args below meth c H locs 0 0 (MQ below (QI D cy cz A (cM a cy σr) r) args s 0 0 A) (F0 m 21 ls [])) : ∀ (n : Nat) (σ : MS) (x1 : Int32) (x2 : Int32) (x3 : Int32) (x4 : Int32) (x5 : Int32) (H : Heap) (locs : List Loc) (ls : Array Slot), X6_best_b38 k21 n σ x1 x2 x3 x4 x5 = some (r, σr) → Wd D A s.heap H locs (cM a cy σ) → lv_has ls 7 [(0, .ref (a 0)), (1, .int x1), (2, .int x2), (3, .int x3), (4, .int x4), (5, .int x5)] → W p l e (rmz 7 159) s m args below meth c H locs 0 0 (MQ below (QI D cy cz A (cM a cy σr) r) args s 0 0 A) (F0 m 38 ls []) := by
  have hx := C.1
  have hb := C.2.1
  intro n
  induction n with
  | zero =>
    intro σ x1 x2 x3 x4 x5 H locs ls hm
    rw [X6_best_b38] at hm
    cases hm
  | succ n ih =>
    intro σ x1 x2 x3 x4 x5 H locs ls hm hW hl
    rw [X6_best_b38] at hm
    refine lv_iload hx hb dX6_best_38 (lv_at hl 5 rfl) ?_
    refine lv_aload_n hx hb dX6_best_40 rfl (lv_at hl 0 rfl) ?_
    refine gM_s C hW q787 dX6_best_41 ?_
    refine lv_iconst (v := 1) hx hb dX6_best_44 (by decide) ?_
    refine lM_s_k (k := 1) C hW (by decide) (by decide) dX6_best_45 ?_
    refine lv_icmp_ge (tgt := 98) hx hb dX6_best_46 (by decide) (fun hc2 => ?_) (fun hc2 => ?_)
    · rw [if_pos hc2] at hm
      refine lv_iinc (v := (x4 + (1 : Int32))) (lv' := [(4, .int (x4 + (1 : Int32))), (0, .ref (a 0)), (1, .int x1), (2, .int x2), (3, .int x3), (5, .int x5)]) hx hb dX6_best_98 hl (k := 4) rfl (congrArg (fun z : Int32 => x4 + z) (by decide)) (by decide) rfl (fun ls hl => ?_)
      refine lv_goto (tgt := 21) hx hb dX6_best_101 (by decide) ?_
      exact hk21 σ x1 x2 x3 ((x4 + (1 : Int32))) _ _ _ hm hW (lv_sub hl [1, 2, 3, 4, 0] rfl)
    · rw [if_neg hc2] at hm
      refine lv_aload_n hx hb dX6_best_49 rfl (lv_at hl 0 rfl) ?_
      refine lv_iload hx hb dX6_best_50 (lv_at hl 4 rfl) ?_
      refine lv_iload hx hb dX6_best_52 (lv_at hl 5 rfl) ?_
      refine lv_iload_n hx hb dX6_best_54 rfl (lv_at hl 1 rfl) ?_
      obtain ⟨q4, e3, hm⟩ := mi_bind hm
      refine cs_i (q0 := 0) (As := [.int x4, .int x5, .int x1]) (rest := []) C hW (c_X6_given e3) kX6_given q1040 rfl rfl rfl rfl rfl hl.1 ⟨Nat.le_of_ble_eq_true rfl, Nat.le_of_ble_eq_true rfl⟩ ⟨Nat.le_refl 0, Nat.le_refl 0⟩ (Nat.le_of_ble_eq_true rfl) dX6_best_55 (fun H locs hW => ?_)
      refine lv_istore (lv' := [(6, .int q4.1), (0, .ref (a 0)), (1, .int x1), (2, .int x2), (3, .int x3), (4, .int x4), (5, .int x5)]) hx hb dX6_best_58 hl (by decide) rfl (fun ls hl => ?_)
      refine lv_iload hx hb dX6_best_60 (lv_at hl 0 rfl) ?_
      refine lv_iload_n hx hb dX6_best_62 rfl (lv_at hl 4 rfl) ?_
      refine lv_icmp_le (tgt := 77) hx hb dX6_best_63 (by decide) (fun hc5 => ?_) (fun hc5 => ?_)
      · rw [if_pos hc5] at hm
        refine lv_iload_n hx hb dX6_best_77 rfl (lv_at hl 3 rfl) ?_
        exact wX6_best_b78 C hr hlk ih q4.2 x1 x3 x4 x5 q4.1 x2 _ _ _ hm hW (lv_sub hl [1, 2, 4, 5, 6, 0] rfl)
      · rw [if_neg hc5] at hm
        refine lv_bipush (v := 8) hx hb dX6_best_66 (by decide) ?_
        refine lv_iload hx hb dX6_best_68 (lv_at hl 5 rfl) ?_
        refine lv_imul hx hb dX6_best_70 ?_
        refine lv_iload hx hb dX6_best_71 (lv_at hl 6 rfl) ?_
        refine lv_iadd hx hb dX6_best_73 ?_
        refine lv_goto (tgt := 78) hx hb dX6_best_74 (by decide) ?_
        exact wX6_best_b78 C hr hlk ih q4.2 x1 x3 x4 x5 q4.1 ((((8 : Int32) * x4) + x5)) _ _ _ hm hW (lv_sub hl [1, 2, 4, 5, 6, 0] rfl)
def X6_best_b21 : Nat → MS → Int32 → Int32 → Int32 → Int32 → Option (Int32 × MS)
  | 0, _, _, _, _, _ => none
  | n + 1, σ, x1, x2, x3, x4 => if (σ 0 1) ≤ x4 then (if (0 : Int32) ≤ x2 then (some (x2, σ)) else ((X6_finds σ (-1000004 : Int32)).bind fun q9 => some (q9.1, q9.2))) else (X6_best_b38 (X6_best_b21 n) FU σ x1 x2 x3 x4 ((x4 + (1 : Int32))))
set_option maxHeartbeats 4000000 in
set_option maxRecDepth 100000 in
theorem wX6_best_b21 {p : Program} {l : Launch} {e : Env} {s : State} {m : MethodId} {below : List Frame} {meth : Method} {c : Code} {D : va_G} {cy cz : ClassId} {G : GT} {A : Nat → Prop} {args : Array Value} {a : Nat → Nat} {r : Int32} {σr : MS} (C : Cx p s m args c cX6_best 7 "PumpTalkModel" D cy cz G A) (hr : meth.sig.returnType = some .int) (hlk : meth.locks = false) : ∀ (n : Nat) (σ : MS) (x1 : Int32) (x2 : Int32) (x3 : Int32) (x4 : Int32) (H : Heap) (locs : List Loc) (ls : Array Slot), X6_best_b21 n σ x1 x2 x3 x4 = some (r, σr) → Wd D A s.heap H locs (cM a cy σ) → lv_has ls 7 [(0, .ref (a 0)), (1, .int x1), (2, .int x2), (3, .int x3), (4, .int x4)] → W p l e (rmz 7 159) s m args below meth c H locs 0 0 (MQ below (QI D cy cz A (cM a cy σr) r) args s 0 0 A) (F0 m 21 ls []) := by
  have hx := C.1
  have hb := C.2.1
  intro n
  induction n with
  | zero =>
    intro σ x1 x2 x3 x4 H locs ls hm
    rw [X6_best_b21] at hm
    cases hm
  | succ n ih =>
    intro σ x1 x2 x3 x4 H locs ls hm hW hl
    rw [X6_best_b21] at hm
    refine lv_iload hx hb dX6_best_21 (lv_at hl 4 rfl) ?_
    refine lv_aload_n hx hb dX6_best_23 rfl (lv_at hl 0 rfl) ?_
    refine gM_s C hW q787 dX6_best_24 ?_
    refine lv_iconst (v := 1) hx hb dX6_best_27 (by decide) ?_
    refine lM_s_k (k := 1) C hW (by decide) (by decide) dX6_best_28 ?_
    refine lv_icmp_ge (tgt := 104) hx hb dX6_best_29 (by decide) (fun hc6 => ?_) (fun hc6 => ?_)
    · rw [if_pos hc6] at hm
      refine lv_iload_n hx hb dX6_best_104 rfl (lv_at hl 2 rfl) ?_
      refine lv_if_ge (tgt := 117) hx hb dX6_best_105 (by decide) (fun hc7 => ?_) (fun hc7 => ?_)
      · rw [if_pos hc7] at hm
        refine lv_iload_n hx hb dX6_best_117 rfl (lv_at hl 2 rfl) ?_
        obtain ⟨rfl, rfl⟩ := Prod.mk.inj (Option.some.inj hm)
        exact en_i C hr hlk hW dX6_best_118
      · rw [if_neg hc7] at hm
        refine lv_aload_n hx hb dX6_best_108 rfl (lv_at hl 0 rfl) ?_
        refine lv_ldc hx hb C.2.2.2.1 (C.2.2.2.2.1 _ q1018) dX6_best_109 ?_
        obtain ⟨q9, e8, hm⟩ := mi_bind hm
        refine cs_i (q0 := 0) (As := [.int (-1000004 : Int32)]) (rest := []) C hW (c_X6_finds e8) kX6_finds q866 rfl rfl rfl rfl rfl hl.1 ⟨Nat.le_of_ble_eq_true rfl, Nat.le_of_ble_eq_true rfl⟩ ⟨Nat.le_refl 0, Nat.le_refl 0⟩ (Nat.le_of_ble_eq_true rfl) dX6_best_111 (fun H locs hW => ?_)
        refine lv_goto (tgt := 118) hx hb dX6_best_114 (by decide) ?_
        obtain ⟨rfl, rfl⟩ := Prod.mk.inj (Option.some.inj hm)
        exact en_i C hr hlk hW dX6_best_118
    · rw [if_neg hc6] at hm
      refine lv_iload hx hb dX6_best_32 (lv_at hl 4 rfl) ?_
      refine lv_iconst (v := 1) hx hb dX6_best_34 (by decide) ?_
      refine lv_iadd hx hb dX6_best_35 ?_
      refine lv_istore (lv' := [(5, .int (x4 + (1 : Int32))), (0, .ref (a 0)), (1, .int x1), (2, .int x2), (3, .int x3), (4, .int x4)]) hx hb dX6_best_36 hl (by decide) rfl (fun ls hl => ?_)
      exact wX6_best_b38 C hr hlk ih FU σ x1 x2 x3 x4 ((x4 + (1 : Int32))) _ _ _ hm hW (lv_sub hl [1, 2, 3, 4, 5, 0] rfl)
def X6_best (σ : MS) (p1 : Int32) : Option (Int32 × MS) := (X6_isSoon p1).bind fun v11 => if v11 = (0 : Int32) then ((X6_finds σ (-1000001 : Int32)).bind fun q14 => some (q14.1, q14.2)) else (X6_best_b21 FU σ p1 (-1 : Int32) (-1 : Int32) (0 : Int32))
set_option maxHeartbeats 4000000 in
set_option maxRecDepth 100000 in
theorem c_X6_best {l : Launch} {D : va_G} {cy cz : ClassId} {G : GT} {a : Nat → Nat} {σ : MS} {p1 : Int32} {r : Int32} {σr : MS} (hm : X6_best σ p1 = some (r, σr)) : CtI l D cy cz G yX6_best cX6_best 7 (some .int) 7 159 [.ref (a 0), .int p1] (cM a cy σ) (cM a cy σr) r := by
  refine ct_i (own := "PumpTalkModel") (by decide) rfl (Nat.le_of_ble_eq_true rfl) ?_
  intro p e s m below meth c ls A C hr hlk hW hl
  have hx := C.1
  have hb := C.2.1
  have hl : lv_has ls 7 [(0, .ref (a 0)), (1, .int p1)] := hl
  unfold X6_best at hm
  refine lv_iload_n hx hb dX6_best_0 rfl (lv_at hl 1 rfl) ?_
  obtain ⟨v11, e10, hm⟩ := mi_bind hm
  refine cS_i (As := [.int p1]) (rest := []) C hW (c_X6_isSoon e10) kX6_isSoon q1036 rfl rfl hl.1 ⟨Nat.le_of_ble_eq_true rfl, Nat.le_of_ble_eq_true rfl⟩ ⟨Nat.le_refl 0, Nat.le_refl 0⟩ (Nat.le_of_ble_eq_true rfl) dX6_best_1 (fun H locs hW => ?_)
  refine lv_if_ne (tgt := 14) hx hb dX6_best_4 (by decide) (fun hc12 => ?_) (fun hc12 => ?_)
  · rw [if_neg hc12] at hm
    refine lv_iconst (v := -1) hx hb dX6_best_14 (by decide) ?_
    refine lv_istore_n (lv' := [(2, .int (-1 : Int32)), (0, .ref (a 0)), (1, .int p1)]) hx hb dX6_best_15 rfl hl (by decide) rfl (fun ls hl => ?_)
    refine lv_iconst (v := -1) hx hb dX6_best_16 (by decide) ?_
    refine lv_istore_n (lv' := [(3, .int (-1 : Int32)), (2, .int (-1 : Int32)), (0, .ref (a 0)), (1, .int p1)]) hx hb dX6_best_17 rfl hl (by decide) rfl (fun ls hl => ?_)
    refine lv_iconst (v := 0) hx hb dX6_best_18 (by decide) ?_
    refine lv_istore (lv' := [(4, .int (0 : Int32)), (3, .int (-1 : Int32)), (2, .int (-1 : Int32)), (0, .ref (a 0)), (1, .int p1)]) hx hb dX6_best_19 hl (by decide) rfl (fun ls hl => ?_)
    exact wX6_best_b21 C hr hlk FU σ p1 (-1 : Int32) (-1 : Int32) (0 : Int32) _ _ _ hm hW (lv_sub hl [3, 4, 2, 1, 0] rfl)
  · rw [if_pos hc12] at hm
    refine lv_aload_n hx hb dX6_best_7 rfl (lv_at hl 0 rfl) ?_
    refine lv_ldc hx hb C.2.2.2.1 (C.2.2.2.2.1 _ q865) dX6_best_8 ?_
    obtain ⟨q14, e13, hm⟩ := mi_bind hm
    refine cs_i (q0 := 0) (As := [.int (-1000001 : Int32)]) (rest := []) C hW (c_X6_finds e13) kX6_finds q866 rfl rfl rfl rfl rfl hl.1 ⟨Nat.le_of_ble_eq_true rfl, Nat.le_of_ble_eq_true rfl⟩ ⟨Nat.le_refl 0, Nat.le_refl 0⟩ (Nat.le_of_ble_eq_true rfl) dX6_best_10 (fun H locs hW => ?_)
    obtain ⟨rfl, rfl⟩ := Prod.mk.inj (Option.some.inj hm)
    exact en_i C hr hlk hW dX6_best_13
theorem kX6_best : KM yX6_best cX6_best 7 (some .int) 1 := ⟨q1045, q1046, q72, q1047, by decide +kernel, by decide +kernel, by decide +kernel⟩
def X6_partner_b74 (k30 : MS → Int32 → Int32 → Int32 → Int32 → Int32 → Option (Int32 × MS)) (σ : MS) (x1 : Int32) (x2 : Int32) (x4 : Int32) (x5 : Int32) (x6 : Int32) (y0 : Int32) : Option (Int32 × MS) := if x6 ≤ x4 then (k30 σ x1 x2 y0 x4 ((x5 + (1 : Int32)))) else (k30 σ x1 x2 y0 x6 ((x5 + (1 : Int32))))
set_option maxHeartbeats 4000000 in
set_option maxRecDepth 100000 in
theorem wX6_partner_b74 {p : Program} {l : Launch} {e : Env} {s : State} {m : MethodId} {below : List Frame} {meth : Method} {c : Code} {D : va_G} {cy cz : ClassId} {G : GT} {A : Nat → Prop} {args : Array Value} {a : Nat → Nat} {r : Int32} {σr : MS} (C : Cx p s m args c cX6_partner 7 "PumpTalkModel" D cy cz G A) (hr : meth.sig.returnType = some .int) (hlk : meth.locks = false) {k30 : MS → Int32 → Int32 → Int32 → Int32 → Int32 → Option (Int32 × MS)} (hk30 : ∀ (σ : MS) (x1 : Int32) (x2 : Int32) (x3 : Int32) (x4 : Int32) (x5 : Int32) (H : Heap) (locs : List Loc) (ls : Array Slot), k30 σ x1 x2 x3 x4 x5 = some (r, σr) → Wd D A s.heap H locs (cM a cy σ) → lv_has ls 7 [(0, .ref (a 0)), (1, .int x1), (2, .int x2), (3, .int x3), (4, .int x4), (5, .int x5)] → W p l e (rmz 7 159) s m args below meth c H locs 0 0 (MQ below (QI D cy cz A (cM a cy σr) r) args s 0 0 A) (F0 m 30 ls [])) : ∀ (σ : MS) (x1 : Int32) (x2 : Int32) (x4 : Int32) (x5 : Int32) (x6 : Int32) (y0 : Int32) (H : Heap) (locs : List Loc) (ls : Array Slot), X6_partner_b74 k30 σ x1 x2 x4 x5 x6 y0 = some (r, σr) → Wd D A s.heap H locs (cM a cy σ) → lv_has ls 7 [(0, .ref (a 0)), (1, .int x1), (2, .int x2), (4, .int x4), (5, .int x5), (6, .int x6)] → W p l e (rmz 7 159) s m args below meth c H locs 0 0 (MQ below (QI D cy cz A (cM a cy σr) r) args s 0 0 A) (F0 m 74 ls [.int y0]) := by
  have hx := C.1
  have hb := C.2.1
  intro σ x1 x2 x4 x5 x6 y0 H locs ls hm hW hl
  unfold X6_partner_b74 at hm
  refine lv_istore_n (lv' := [(3, .int y0), (0, .ref (a 0)), (1, .int x1), (2, .int x2), (4, .int x4), (5, .int x5), (6, .int x6)]) hx hb dX6_partner_74 rfl hl (by decide) rfl (fun ls hl => ?_)
  refine lv_iload hx hb dX6_partner_75 (lv_at hl 6 rfl) ?_
  refine lv_iload hx hb dX6_partner_77 (lv_at hl 4 rfl) ?_
  refine lv_icmp_le (tgt := 87) hx hb dX6_partner_79 (by decide) (fun hc1 => ?_) (fun hc1 => ?_)
  · rw [if_pos hc1] at hm
    refine lv_iload hx hb dX6_partner_87 (lv_at hl 4 rfl) ?_
    refine lv_istore (lv' := [(4, .int x4), (3, .int y0), (0, .ref (a 0)), (1, .int x1), (2, .int x2), (5, .int x5), (6, .int x6)]) hx hb dX6_partner_89 hl (by decide) rfl (fun ls hl => ?_)
    refine lv_iinc (v := (x5 + (1 : Int32))) (lv' := [(5, .int (x5 + (1 : Int32))), (4, .int x4), (3, .int y0), (0, .ref (a 0)), (1, .int x1), (2, .int x2), (6, .int x6)]) hx hb dX6_partner_91 hl (k := 5) rfl (congrArg (fun z : Int32 => x5 + z) (by decide)) (by decide) rfl (fun ls hl => ?_)
    refine lv_goto (tgt := 30) hx hb dX6_partner_94 (by decide) ?_
    exact hk30 σ x1 x2 y0 x4 ((x5 + (1 : Int32))) _ _ _ hm hW (lv_sub hl [3, 4, 5, 2, 1, 0] rfl)
  · rw [if_neg hc1] at hm
    refine lv_iload hx hb dX6_partner_82 (lv_at hl 6 rfl) ?_
    refine lv_goto (tgt := 89) hx hb dX6_partner_84 (by decide) ?_
    refine lv_istore (lv' := [(4, .int x6), (3, .int y0), (0, .ref (a 0)), (1, .int x1), (2, .int x2), (5, .int x5), (6, .int x6)]) hx hb dX6_partner_89 hl (by decide) rfl (fun ls hl => ?_)
    refine lv_iinc (v := (x5 + (1 : Int32))) (lv' := [(5, .int (x5 + (1 : Int32))), (4, .int x6), (3, .int y0), (0, .ref (a 0)), (1, .int x1), (2, .int x2), (6, .int x6)]) hx hb dX6_partner_91 hl (k := 5) rfl (congrArg (fun z : Int32 => x5 + z) (by decide)) (by decide) rfl (fun ls hl => ?_)
    refine lv_goto (tgt := 30) hx hb dX6_partner_94 (by decide) ?_
    exact hk30 σ x1 x2 y0 x6 ((x5 + (1 : Int32))) _ _ _ hm hW (lv_sub hl [3, 4, 5, 2, 1, 0] rfl)
def X6_partner_b59 (k30 : MS → Int32 → Int32 → Int32 → Int32 → Int32 → Option (Int32 × MS)) (σ : MS) (x1 : Int32) (x2 : Int32) (x3 : Int32) (x4 : Int32) (x5 : Int32) (y0 : Int32) : Option (Int32 × MS) := if y0 ≤ x4 then (X6_partner_b74 k30 σ x1 x2 x4 x5 y0 x3) else (X6_partner_b74 k30 σ x1 x2 x4 x5 y0 x5)
set_option maxHeartbeats 4000000 in
set_option maxRecDepth 100000 in
theorem wX6_partner_b59 {p : Program} {l : Launch} {e : Env} {s : State} {m : MethodId} {below : List Frame} {meth : Method} {c : Code} {D : va_G} {cy cz : ClassId} {G : GT} {A : Nat → Prop} {args : Array Value} {a : Nat → Nat} {r : Int32} {σr : MS} (C : Cx p s m args c cX6_partner 7 "PumpTalkModel" D cy cz G A) (hr : meth.sig.returnType = some .int) (hlk : meth.locks = false) {k30 : MS → Int32 → Int32 → Int32 → Int32 → Int32 → Option (Int32 × MS)} (hk30 : ∀ (σ : MS) (x1 : Int32) (x2 : Int32) (x3 : Int32) (x4 : Int32) (x5 : Int32) (H : Heap) (locs : List Loc) (ls : Array Slot), k30 σ x1 x2 x3 x4 x5 = some (r, σr) → Wd D A s.heap H locs (cM a cy σ) → lv_has ls 7 [(0, .ref (a 0)), (1, .int x1), (2, .int x2), (3, .int x3), (4, .int x4), (5, .int x5)] → W p l e (rmz 7 159) s m args below meth c H locs 0 0 (MQ below (QI D cy cz A (cM a cy σr) r) args s 0 0 A) (F0 m 30 ls [])) : ∀ (σ : MS) (x1 : Int32) (x2 : Int32) (x3 : Int32) (x4 : Int32) (x5 : Int32) (y0 : Int32) (H : Heap) (locs : List Loc) (ls : Array Slot), X6_partner_b59 k30 σ x1 x2 x3 x4 x5 y0 = some (r, σr) → Wd D A s.heap H locs (cM a cy σ) → lv_has ls 7 [(0, .ref (a 0)), (1, .int x1), (2, .int x2), (3, .int x3), (4, .int x4), (5, .int x5)] → W p l e (rmz 7 159) s m args below meth c H locs 0 0 (MQ below (QI D cy cz A (cM a cy σr) r) args s 0 0 A) (F0 m 59 ls [.int y0]) := by
  have hx := C.1
  have hb := C.2.1
  intro σ x1 x2 x3 x4 x5 y0 H locs ls hm hW hl
  unfold X6_partner_b59 at hm
  refine lv_istore (lv' := [(6, .int y0), (0, .ref (a 0)), (1, .int x1), (2, .int x2), (3, .int x3), (4, .int x4), (5, .int x5)]) hx hb dX6_partner_59 hl (by decide) rfl (fun ls hl => ?_)
  refine lv_iload hx hb dX6_partner_61 (lv_at hl 0 rfl) ?_
  refine lv_iload hx hb dX6_partner_63 (lv_at hl 5 rfl) ?_
  refine lv_icmp_le (tgt := 73) hx hb dX6_partner_65 (by decide) (fun hc2 => ?_) (fun hc2 => ?_)
  · rw [if_pos hc2] at hm
    refine lv_iload_n hx hb dX6_partner_73 rfl (lv_at hl 4 rfl) ?_
    exact wX6_partner_b74 C hr hlk hk30 σ x1 x2 x4 x5 y0 x3 _ _ _ hm hW (lv_sub hl [1, 2, 3, 5, 6, 0] rfl)
  · rw [if_neg hc2] at hm
    refine lv_iload hx hb dX6_partner_68 (lv_at hl 6 rfl) ?_
    refine lv_goto (tgt := 74) hx hb dX6_partner_70 (by decide) ?_
    exact wX6_partner_b74 C hr hlk hk30 σ x1 x2 x4 x5 y0 x5 _ _ _ hm hW (lv_sub hl [1, 2, 3, 5, 6, 0] rfl)
def X6_partner_b30 : Nat → MS → Int32 → Int32 → Int32 → Int32 → Int32 → Option (Int32 × MS)
  | 0, _, _, _, _, _, _ => none
  | n + 1, σ, x1, x2, x3, x4, x5 => if (σ 0 1) ≤ x5 then (if (0 : Int32) ≤ x3 then (some (x3, σ)) else ((X6_finds σ (-1000004 : Int32)).bind fun q6 => some (q6.1, q6.2))) else (if x5 = x1 then (X6_partner_b59 (X6_partner_b30 n) σ x1 x2 x3 x4 x5 (-1 : Int32)) else ((X6_given σ x1 x5 x2).bind fun q9 => X6_partner_b59 (X6_partner_b30 n) q9.2 x1 x2 x3 x4 x5 q9.1))
set_option maxHeartbeats 4000000 in
set_option maxRecDepth 100000 in
theorem wX6_partner_b30 {p : Program} {l : Launch} {e : Env} {s : State} {m : MethodId} {below : List Frame} {meth : Method} {c : Code} {D : va_G} {cy cz : ClassId} {G : GT} {A : Nat → Prop} {args : Array Value} {a : Nat → Nat} {r : Int32} {σr : MS} (C : Cx p s m args c cX6_partner 7 "PumpTalkModel" D cy cz G A) (hr : meth.sig.returnType = some .int) (hlk : meth.locks = false) : ∀ (n : Nat) (σ : MS) (x1 : Int32) (x2 : Int32) (x3 : Int32) (x4 : Int32) (x5 : Int32) (H : Heap) (locs : List Loc) (ls : Array Slot), X6_partner_b30 n σ x1 x2 x3 x4 x5 = some (r, σr) → Wd D A s.heap H locs (cM a cy σ) → lv_has ls 7 [(0, .ref (a 0)), (1, .int x1), (2, .int x2), (3, .int x3), (4, .int x4), (5, .int x5)] → W p l e (rmz 7 159) s m args below meth c H locs 0 0 (MQ below (QI D cy cz A (cM a cy σr) r) args s 0 0 A) (F0 m 30 ls []) := by
  have hx := C.1
  have hb := C.2.1
  intro n
  induction n with
  | zero =>
    intro σ x1 x2 x3 x4 x5 H locs ls hm
    rw [X6_partner_b30] at hm
    cases hm
  | succ n ih =>
    intro σ x1 x2 x3 x4 x5 H locs ls hm hW hl
    rw [X6_partner_b30] at hm
    refine lv_iload hx hb dX6_partner_30 (lv_at hl 5 rfl) ?_
    refine lv_aload_n hx hb dX6_partner_32 rfl (lv_at hl 0 rfl) ?_
    refine gM_s C hW q787 dX6_partner_33 ?_
    refine lv_iconst (v := 1) hx hb dX6_partner_36 (by decide) ?_
    refine lM_s_k (k := 1) C hW (by decide) (by decide) dX6_partner_37 ?_
    refine lv_icmp_ge (tgt := 97) hx hb dX6_partner_38 (by decide) (fun hc3 => ?_) (fun hc3 => ?_)
    · rw [if_pos hc3] at hm
      refine lv_iload_n hx hb dX6_partner_97 rfl (lv_at hl 3 rfl) ?_
      refine lv_if_ge (tgt := 110) hx hb dX6_partner_98 (by decide) (fun hc4 => ?_) (fun hc4 => ?_)
      · rw [if_pos hc4] at hm
        refine lv_iload_n hx hb dX6_partner_110 rfl (lv_at hl 3 rfl) ?_
        obtain ⟨rfl, rfl⟩ := Prod.mk.inj (Option.some.inj hm)
        exact en_i C hr hlk hW dX6_partner_111
      · rw [if_neg hc4] at hm
        refine lv_aload_n hx hb dX6_partner_101 rfl (lv_at hl 0 rfl) ?_
        refine lv_ldc hx hb C.2.2.2.1 (C.2.2.2.2.1 _ q1018) dX6_partner_102 ?_
        obtain ⟨q6, e5, hm⟩ := mi_bind hm
        refine cs_i (q0 := 0) (As := [.int (-1000004 : Int32)]) (rest := []) C hW (c_X6_finds e5) kX6_finds q866 rfl rfl rfl rfl rfl hl.1 ⟨Nat.le_of_ble_eq_true rfl, Nat.le_of_ble_eq_true rfl⟩ ⟨Nat.le_refl 0, Nat.le_refl 0⟩ (Nat.le_of_ble_eq_true rfl) dX6_partner_104 (fun H locs hW => ?_)
        refine lv_goto (tgt := 111) hx hb dX6_partner_107 (by decide) ?_
        obtain ⟨rfl, rfl⟩ := Prod.mk.inj (Option.some.inj hm)
        exact en_i C hr hlk hW dX6_partner_111
    · rw [if_neg hc3] at hm
      refine lv_iload hx hb dX6_partner_41 (lv_at hl 5 rfl) ?_
      refine lv_iload_n hx hb dX6_partner_43 rfl (lv_at hl 1 rfl) ?_
      refine lv_icmp_ne (tgt := 51) hx hb dX6_partner_44 (by decide) (fun hc7 => ?_) (fun hc7 => ?_)
      · rw [if_neg hc7] at hm
        refine lv_aload_n hx hb dX6_partner_51 rfl (lv_at hl 0 rfl) ?_
        refine lv_iload_n hx hb dX6_partner_52 rfl (lv_at hl 1 rfl) ?_
        refine lv_iload hx hb dX6_partner_53 (lv_at hl 5 rfl) ?_
        refine lv_iload_n hx hb dX6_partner_55 rfl (lv_at hl 2 rfl) ?_
        obtain ⟨q9, e8, hm⟩ := mi_bind hm
        refine cs_i (q0 := 0) (As := [.int x1, .int x5, .int x2]) (rest := []) C hW (c_X6_given e8) kX6_given q1040 rfl rfl rfl rfl rfl hl.1 ⟨Nat.le_of_ble_eq_true rfl, Nat.le_of_ble_eq_true rfl⟩ ⟨Nat.le_refl 0, Nat.le_refl 0⟩ (Nat.le_of_ble_eq_true rfl) dX6_partner_56 (fun H locs hW => ?_)
        exact wX6_partner_b59 C hr hlk ih q9.2 x1 x2 x3 x4 x5 q9.1 _ _ _ hm hW (lv_sub hl [0, 1, 2, 3, 4, 5] rfl)
      · rw [if_pos hc7] at hm
        refine lv_iconst (v := -1) hx hb dX6_partner_47 (by decide) ?_
        refine lv_goto (tgt := 59) hx hb dX6_partner_48 (by decide) ?_
        exact wX6_partner_b59 C hr hlk ih σ x1 x2 x3 x4 x5 (-1 : Int32) _ _ _ hm hW (lv_sub hl [0, 1, 2, 3, 4, 5] rfl)
def X6_partner_b15 (σ : MS) : Option (Int32 × MS) := (X6_finds σ (-1000001 : Int32)).bind fun q11 => some (q11.1, q11.2)
set_option maxHeartbeats 4000000 in
set_option maxRecDepth 100000 in
theorem wX6_partner_b15 {p : Program} {l : Launch} {e : Env} {s : State} {m : MethodId} {below : List Frame} {meth : Method} {c : Code} {D : va_G} {cy cz : ClassId} {G : GT} {A : Nat → Prop} {args : Array Value} {a : Nat → Nat} {r : Int32} {σr : MS} (C : Cx p s m args c cX6_partner 7 "PumpTalkModel" D cy cz G A) (hr : meth.sig.returnType = some .int) (hlk : meth.locks = false) : ∀ (σ : MS) (H : Heap) (locs : List Loc) (ls : Array Slot), X6_partner_b15 σ = some (r, σr) → Wd D A s.heap H locs (cM a cy σ) → lv_has ls 7 [(0, .ref (a 0))] → W p l e (rmz 7 159) s m args below meth c H locs 0 0 (MQ below (QI D cy cz A (cM a cy σr) r) args s 0 0 A) (F0 m 15 ls []) := by
  have hx := C.1
  have hb := C.2.1
  intro σ H locs ls hm hW hl
  unfold X6_partner_b15 at hm
  refine lv_aload_n hx hb dX6_partner_15 rfl (lv_at hl 0 rfl) ?_
  refine lv_ldc hx hb C.2.2.2.1 (C.2.2.2.2.1 _ q865) dX6_partner_16 ?_
  obtain ⟨q11, e10, hm⟩ := mi_bind hm
  refine cs_i (q0 := 0) (As := [.int (-1000001 : Int32)]) (rest := []) C hW (c_X6_finds e10) kX6_finds q866 rfl rfl rfl rfl rfl hl.1 ⟨Nat.le_of_ble_eq_true rfl, Nat.le_of_ble_eq_true rfl⟩ ⟨Nat.le_refl 0, Nat.le_refl 0⟩ (Nat.le_of_ble_eq_true rfl) dX6_partner_18 (fun H locs hW => ?_)
  obtain ⟨rfl, rfl⟩ := Prod.mk.inj (Option.some.inj hm)
  exact en_i C hr hlk hW dX6_partner_21
def X6_partner (σ : MS) (p1 : Int32) (p2 : Int32) : Option (Int32 × MS) := (X6_isPerson σ p1).bind fun v13 => if v13 = (0 : Int32) then (X6_partner_b15 σ) else ((X6_isSoon p2).bind fun v16 => if v16 = (0 : Int32) then (X6_partner_b15 σ) else (X6_partner_b30 FU σ p1 p2 (-1 : Int32) (-1 : Int32) (0 : Int32)))
set_option maxHeartbeats 4000000 in
set_option maxRecDepth 100000 in
theorem c_X6_partner {l : Launch} {D : va_G} {cy cz : ClassId} {G : GT} {a : Nat → Nat} {σ : MS} {p1 : Int32} {p2 : Int32} {r : Int32} {σr : MS} (hm : X6_partner σ p1 p2 = some (r, σr)) : CtI l D cy cz G yX6_partner cX6_partner 7 (some .int) 7 159 [.ref (a 0), .int p1, .int p2] (cM a cy σ) (cM a cy σr) r := by
  refine ct_i (own := "PumpTalkModel") (by decide) rfl (Nat.le_of_ble_eq_true rfl) ?_
  intro p e s m below meth c ls A C hr hlk hW hl
  have hx := C.1
  have hb := C.2.1
  have hl : lv_has ls 7 [(0, .ref (a 0)), (1, .int p1), (2, .int p2)] := hl
  unfold X6_partner at hm
  refine lv_aload_n hx hb dX6_partner_0 rfl (lv_at hl 0 rfl) ?_
  refine lv_iload_n hx hb dX6_partner_1 rfl (lv_at hl 1 rfl) ?_
  obtain ⟨v13, e12, hm⟩ := mi_bind hm
  refine cs_i (q0 := 0) (As := [.int p1]) (rest := []) C hW (c_X6_isPerson e12) kX6_isPerson q882 rfl rfl rfl rfl rfl hl.1 ⟨Nat.le_of_ble_eq_true rfl, Nat.le_of_ble_eq_true rfl⟩ ⟨Nat.le_refl 0, Nat.le_refl 0⟩ (Nat.le_of_ble_eq_true rfl) dX6_partner_2 (fun H locs hW => ?_)
  refine lv_if_eq (tgt := 15) hx hb dX6_partner_5 (by decide) (fun hc14 => ?_) (fun hc14 => ?_)
  · rw [if_pos hc14] at hm
    exact wX6_partner_b15 C hr hlk σ _ _ _ hm hW (lv_sub hl [0] rfl)
  · rw [if_neg hc14] at hm
    refine lv_iload_n hx hb dX6_partner_8 rfl (lv_at hl 2 rfl) ?_
    obtain ⟨v16, e15, hm⟩ := mi_bind hm
    refine cS_i (As := [.int p2]) (rest := []) C hW (c_X6_isSoon e15) kX6_isSoon q1036 rfl rfl hl.1 ⟨Nat.le_of_ble_eq_true rfl, Nat.le_of_ble_eq_true rfl⟩ ⟨Nat.le_refl 0, Nat.le_refl 0⟩ (Nat.le_of_ble_eq_true rfl) dX6_partner_9 (fun H locs hW => ?_)
    refine lv_if_ne (tgt := 22) hx hb dX6_partner_12 (by decide) (fun hc17 => ?_) (fun hc17 => ?_)
    · rw [if_neg hc17] at hm
      refine lv_iconst (v := -1) hx hb dX6_partner_22 (by decide) ?_
      refine lv_istore_n (lv' := [(3, .int (-1 : Int32)), (0, .ref (a 0)), (1, .int p1), (2, .int p2)]) hx hb dX6_partner_23 rfl hl (by decide) rfl (fun ls hl => ?_)
      refine lv_iconst (v := -1) hx hb dX6_partner_24 (by decide) ?_
      refine lv_istore (lv' := [(4, .int (-1 : Int32)), (3, .int (-1 : Int32)), (0, .ref (a 0)), (1, .int p1), (2, .int p2)]) hx hb dX6_partner_25 hl (by decide) rfl (fun ls hl => ?_)
      refine lv_iconst (v := 0) hx hb dX6_partner_27 (by decide) ?_
      refine lv_istore (lv' := [(5, .int (0 : Int32)), (4, .int (-1 : Int32)), (3, .int (-1 : Int32)), (0, .ref (a 0)), (1, .int p1), (2, .int p2)]) hx hb dX6_partner_28 hl (by decide) rfl (fun ls hl => ?_)
      exact wX6_partner_b30 C hr hlk FU σ p1 p2 (-1 : Int32) (-1 : Int32) (0 : Int32) _ _ _ hm hW (lv_sub hl [3, 4, 5, 2, 1, 0] rfl)
    · rw [if_pos hc17] at hm
      exact wX6_partner_b15 C hr hlk σ _ _ _ hm hW (lv_sub hl [0] rfl)
theorem kX6_partner : KM yX6_partner cX6_partner 7 (some .int) 2 := ⟨q1049, q1050, q72, q1051, by decide +kernel, by decide +kernel, by decide +kernel⟩
def X6_mostBy_b57 (k17 : MS → Int32 → Int32 → Int32 → Int32 → Int32 → Int32 → Int32 → Int32 → Int32 → Option (Int32 × MS)) (σ : MS) (x1 : Int32) (x3 : Int32) (x4 : Int32) (x5 : Int32) (x6 : Int32) (x7 : Int32) (x9 : Int32) (x10 : Int32) (x11 : Int32) (y0 : Int32) : Option (Int32 × MS) := if x11 ≤ x9 then (k17 σ x1 x3 x4 x5 x6 x7 y0 x9 ((x10 + (1 : Int32)))) else (k17 σ x1 x3 x4 x5 x6 x7 y0 x11 ((x10 + (1 : Int32))))
set_option maxHeartbeats 4000000 in
set_option maxRecDepth 100000 in
theorem wX6_mostBy_b57 {p : Program} {l : Launch} {e : Env} {s : State} {m : MethodId} {below : List Frame} {meth : Method} {c : Code} {D : va_G} {cy cz : ClassId} {G : GT} {A : Nat → Prop} {args : Array Value} {a : Nat → Nat} {r : Int32} {σr : MS} (C : Cx p s m args c cX6_mostBy 12 "PumpTalkModel" D cy cz G A) (hr : meth.sig.returnType = some .int) (hlk : meth.locks = false) {k17 : MS → Int32 → Int32 → Int32 → Int32 → Int32 → Int32 → Int32 → Int32 → Int32 → Option (Int32 × MS)} (hk17 : ∀ (σ : MS) (x1 : Int32) (x3 : Int32) (x4 : Int32) (x5 : Int32) (x6 : Int32) (x7 : Int32) (x8 : Int32) (x9 : Int32) (x10 : Int32) (H : Heap) (locs : List Loc) (ls : Array Slot), k17 σ x1 x3 x4 x5 x6 x7 x8 x9 x10 = some (r, σr) → Wd D A s.heap H locs (cM a cy σ) → lv_has ls 12 [(0, .ref (a 0)), (1, .int x1), (3, .int x3), (4, .int x4), (5, .int x5), (6, .int x6), (7, .int x7), (8, .int x8), (9, .int x9), (10, .int x10)] → W p l e (rmz 7 159) s m args below meth c H locs 0 0 (MQ below (QI D cy cz A (cM a cy σr) r) args s 0 0 A) (F0 m 17 ls [])) : ∀ (σ : MS) (x1 : Int32) (x3 : Int32) (x4 : Int32) (x5 : Int32) (x6 : Int32) (x7 : Int32) (x9 : Int32) (x10 : Int32) (x11 : Int32) (y0 : Int32) (H : Heap) (locs : List Loc) (ls : Array Slot), X6_mostBy_b57 k17 σ x1 x3 x4 x5 x6 x7 x9 x10 x11 y0 = some (r, σr) → Wd D A s.heap H locs (cM a cy σ) → lv_has ls 12 [(0, .ref (a 0)), (1, .int x1), (3, .int x3), (4, .int x4), (5, .int x5), (6, .int x6), (7, .int x7), (9, .int x9), (10, .int x10), (11, .int x11)] → W p l e (rmz 7 159) s m args below meth c H locs 0 0 (MQ below (QI D cy cz A (cM a cy σr) r) args s 0 0 A) (F0 m 57 ls [.int y0]) := by
  have hx := C.1
  have hb := C.2.1
  intro σ x1 x3 x4 x5 x6 x7 x9 x10 x11 y0 H locs ls hm hW hl
  unfold X6_mostBy_b57 at hm
  refine lv_istore (lv' := [(8, .int y0), (0, .ref (a 0)), (1, .int x1), (3, .int x3), (4, .int x4), (5, .int x5), (6, .int x6), (7, .int x7), (9, .int x9), (10, .int x10), (11, .int x11)]) hx hb dX6_mostBy_57 hl (by decide) rfl (fun ls hl => ?_)
  refine lv_iload hx hb dX6_mostBy_59 (lv_at hl 10 rfl) ?_
  refine lv_iload hx hb dX6_mostBy_61 (lv_at hl 8 rfl) ?_
  refine lv_icmp_le (tgt := 71) hx hb dX6_mostBy_63 (by decide) (fun hc1 => ?_) (fun hc1 => ?_)
  · rw [if_pos hc1] at hm
    refine lv_iload hx hb dX6_mostBy_71 (lv_at hl 8 rfl) ?_
    refine lv_istore (lv' := [(9, .int x9), (8, .int y0), (0, .ref (a 0)), (1, .int x1), (3, .int x3), (4, .int x4), (5, .int x5), (6, .int x6), (7, .int x7), (10, .int x10), (11, .int x11)]) hx hb dX6_mostBy_73 hl (by decide) rfl (fun ls hl => ?_)
    refine lv_iinc (v := (x10 + (1 : Int32))) (lv' := [(10, .int (x10 + (1 : Int32))), (9, .int x9), (8, .int y0), (0, .ref (a 0)), (1, .int x1), (3, .int x3), (4, .int x4), (5, .int x5), (6, .int x6), (7, .int x7), (11, .int x11)]) hx hb dX6_mostBy_75 hl (k := 9) rfl (congrArg (fun z : Int32 => x10 + z) (by decide)) (by decide) rfl (fun ls hl => ?_)
    refine lv_goto (tgt := 17) hx hb dX6_mostBy_78 (by decide) ?_
    exact hk17 σ x1 x3 x4 x5 x6 x7 y0 x9 ((x10 + (1 : Int32))) _ _ _ hm hW (lv_sub hl [3, 4, 5, 6, 7, 8, 9, 2, 1, 0] rfl)
  · rw [if_neg hc1] at hm
    refine lv_iload hx hb dX6_mostBy_66 (lv_at hl 10 rfl) ?_
    refine lv_goto (tgt := 73) hx hb dX6_mostBy_68 (by decide) ?_
    refine lv_istore (lv' := [(9, .int x11), (8, .int y0), (0, .ref (a 0)), (1, .int x1), (3, .int x3), (4, .int x4), (5, .int x5), (6, .int x6), (7, .int x7), (10, .int x10), (11, .int x11)]) hx hb dX6_mostBy_73 hl (by decide) rfl (fun ls hl => ?_)
    refine lv_iinc (v := (x10 + (1 : Int32))) (lv' := [(10, .int (x10 + (1 : Int32))), (9, .int x11), (8, .int y0), (0, .ref (a 0)), (1, .int x1), (3, .int x3), (4, .int x4), (5, .int x5), (6, .int x6), (7, .int x7), (11, .int x11)]) hx hb dX6_mostBy_75 hl (k := 9) rfl (congrArg (fun z : Int32 => x10 + z) (by decide)) (by decide) rfl (fun ls hl => ?_)
    refine lv_goto (tgt := 17) hx hb dX6_mostBy_78 (by decide) ?_
    exact hk17 σ x1 x3 x4 x5 x6 x7 y0 x11 ((x10 + (1 : Int32))) _ _ _ hm hW (lv_sub hl [3, 4, 5, 6, 7, 8, 9, 2, 1, 0] rfl)
def X6_mostBy_b17 : Nat → MS → Int32 → Int32 → Int32 → Int32 → Int32 → Int32 → Int32 → Int32 → Int32 → Option (Int32 × MS)
  | 0, _, _, _, _, _, _, _, _, _, _ => none
  | n + 1, σ, x1, x3, x4, x5, x6, x7, x8, x9, x10 => if x3 < x10 then (ai x1 81 (some (x8, su σ 0 (Int32.toNatClampNeg x1) x7))) else (ai x1 81 ((X6_given (su σ 0 (Int32.toNatClampNeg x1) x10) x4 x5 x6).bind fun q6 => if q6.1 ≤ x9 then (X6_mostBy_b57 (X6_mostBy_b17 n) q6.2 x1 x3 x4 x5 x6 x7 x9 x10 q6.1 x8) else (X6_mostBy_b57 (X6_mostBy_b17 n) q6.2 x1 x3 x4 x5 x6 x7 x9 x10 q6.1 x10)))
set_option maxHeartbeats 4000000 in
set_option maxRecDepth 100000 in
theorem wX6_mostBy_b17 {p : Program} {l : Launch} {e : Env} {s : State} {m : MethodId} {below : List Frame} {meth : Method} {c : Code} {D : va_G} {cy cz : ClassId} {G : GT} {A : Nat → Prop} {args : Array Value} {a : Nat → Nat} {r : Int32} {σr : MS} (C : Cx p s m args c cX6_mostBy 12 "PumpTalkModel" D cy cz G A) (hr : meth.sig.returnType = some .int) (hlk : meth.locks = false) : ∀ (n : Nat) (σ : MS) (x1 : Int32) (x3 : Int32) (x4 : Int32) (x5 : Int32) (x6 : Int32) (x7 : Int32) (x8 : Int32) (x9 : Int32) (x10 : Int32) (H : Heap) (locs : List Loc) (ls : Array Slot), X6_mostBy_b17 n σ x1 x3 x4 x5 x6 x7 x8 x9 x10 = some (r, σr) → Wd D A s.heap H locs (cM a cy σ) → lv_has ls 12 [(0, .ref (a 0)), (1, .int x1), (3, .int x3), (4, .int x4), (5, .int x5), (6, .int x6), (7, .int x7), (8, .int x8), (9, .int x9), (10, .int x10)] → W p l e (rmz 7 159) s m args below meth c H locs 0 0 (MQ below (QI D cy cz A (cM a cy σr) r) args s 0 0 A) (F0 m 17 ls []) := by
  have hx := C.1
  have hb := C.2.1
  intro n
  induction n with
  | zero =>
    intro σ x1 x3 x4 x5 x6 x7 x8 x9 x10 H locs ls hm
    rw [X6_mostBy_b17] at hm
    cases hm
  | succ n ih =>
    intro σ x1 x3 x4 x5 x6 x7 x8 x9 x10 H locs ls hm hW hl
    rw [X6_mostBy_b17] at hm
    refine lv_iload hx hb dX6_mostBy_17 (lv_at hl 9 rfl) ?_
    refine lv_iload_n hx hb dX6_mostBy_19 rfl (lv_at hl 2 rfl) ?_
    refine lv_icmp_gt (tgt := 81) hx hb dX6_mostBy_20 (by decide) (fun hc2 => ?_) (fun hc2 => ?_)
    · rw [if_pos hc2] at hm
      refine lv_aload_n hx hb dX6_mostBy_81 rfl (lv_at hl 0 rfl) ?_
      refine gM_s C hW q787 dX6_mostBy_82 ?_
      refine lv_iload_n hx hb dX6_mostBy_85 rfl (lv_at hl 1 rfl) ?_
      refine lv_iload hx hb dX6_mostBy_86 (lv_at hl 6 rfl) ?_
      obtain ⟨hi3, hm⟩ := mi_ai hm
      refine tM_s C hW hi3 dX6_mostBy_88 (fun H locs hW => ?_)
      refine lv_iload hx hb dX6_mostBy_89 (lv_at hl 7 rfl) ?_
      obtain ⟨rfl, rfl⟩ := Prod.mk.inj (Option.some.inj hm)
      exact en_i C hr hlk hW dX6_mostBy_91
    · rw [if_neg hc2] at hm
      refine lv_aload_n hx hb dX6_mostBy_23 rfl (lv_at hl 0 rfl) ?_
      refine gM_s C hW q787 dX6_mostBy_24 ?_
      refine lv_iload_n hx hb dX6_mostBy_27 rfl (lv_at hl 1 rfl) ?_
      refine lv_iload hx hb dX6_mostBy_28 (lv_at hl 9 rfl) ?_
      obtain ⟨hi4, hm⟩ := mi_ai hm
      refine tM_s C hW hi4 dX6_mostBy_30 (fun H locs hW => ?_)
      refine lv_aload_n hx hb dX6_mostBy_31 rfl (lv_at hl 0 rfl) ?_
      refine lv_iload hx hb dX6_mostBy_32 (lv_at hl 3 rfl) ?_
      refine lv_iload hx hb dX6_mostBy_34 (lv_at hl 4 rfl) ?_
      refine lv_iload hx hb dX6_mostBy_36 (lv_at hl 5 rfl) ?_
      obtain ⟨q6, e5, hm⟩ := mi_bind hm
      refine cs_i (q0 := 0) (As := [.int x4, .int x5, .int x6]) (rest := []) C hW (c_X6_given e5) kX6_given q1040 rfl rfl rfl rfl rfl hl.1 ⟨Nat.le_of_ble_eq_true rfl, Nat.le_of_ble_eq_true rfl⟩ ⟨Nat.le_refl 0, Nat.le_refl 0⟩ (Nat.le_of_ble_eq_true rfl) dX6_mostBy_38 (fun H locs hW => ?_)
      refine lv_istore (lv' := [(11, .int q6.1), (0, .ref (a 0)), (1, .int x1), (3, .int x3), (4, .int x4), (5, .int x5), (6, .int x6), (7, .int x7), (8, .int x8), (9, .int x9), (10, .int x10)]) hx hb dX6_mostBy_41 hl (by decide) rfl (fun ls hl => ?_)
      refine lv_iload hx hb dX6_mostBy_43 (lv_at hl 0 rfl) ?_
      refine lv_iload hx hb dX6_mostBy_45 (lv_at hl 9 rfl) ?_
      refine lv_icmp_le (tgt := 55) hx hb dX6_mostBy_47 (by decide) (fun hc7 => ?_) (fun hc7 => ?_)
      · rw [if_pos hc7] at hm
        refine lv_iload hx hb dX6_mostBy_55 (lv_at hl 8 rfl) ?_
        exact wX6_mostBy_b57 C hr hlk ih q6.2 x1 x3 x4 x5 x6 x7 x9 x10 q6.1 x8 _ _ _ hm hW (lv_sub hl [1, 2, 3, 4, 5, 6, 7, 9, 10, 0] rfl)
      · rw [if_neg hc7] at hm
        refine lv_iload hx hb dX6_mostBy_50 (lv_at hl 10 rfl) ?_
        refine lv_goto (tgt := 57) hx hb dX6_mostBy_52 (by decide) ?_
        exact wX6_mostBy_b57 C hr hlk ih q6.2 x1 x3 x4 x5 x6 x7 x9 x10 q6.1 x10 _ _ _ hm hW (lv_sub hl [1, 2, 3, 4, 5, 6, 7, 9, 10, 0] rfl)
def X6_mostBy (σ : MS) (p1 : Int32) (p2 : Int32) (p3 : Int32) (p4 : Int32) (p5 : Int32) (p6 : Int32) : Option (Int32 × MS) := ai p1 81 (X6_mostBy_b17 FU σ p1 p3 p4 p5 p6 ((σ 0 (Int32.toNatClampNeg p1))) p2 (-1 : Int32) p2)
set_option maxHeartbeats 4000000 in
set_option maxRecDepth 100000 in
theorem c_X6_mostBy {l : Launch} {D : va_G} {cy cz : ClassId} {G : GT} {a : Nat → Nat} {σ : MS} {p1 : Int32} {p2 : Int32} {p3 : Int32} {p4 : Int32} {p5 : Int32} {p6 : Int32} {r : Int32} {σr : MS} (hm : X6_mostBy σ p1 p2 p3 p4 p5 p6 = some (r, σr)) : CtI l D cy cz G yX6_mostBy cX6_mostBy 12 (some .int) 7 159 [.ref (a 0), .int p1, .int p2, .int p3, .int p4, .int p5, .int p6] (cM a cy σ) (cM a cy σr) r := by
  refine ct_i (own := "PumpTalkModel") (by decide) rfl (Nat.le_of_ble_eq_true rfl) ?_
  intro p e s m below meth c ls A C hr hlk hW hl
  have hx := C.1
  have hb := C.2.1
  have hl : lv_has ls 12 [(0, .ref (a 0)), (1, .int p1), (2, .int p2), (3, .int p3), (4, .int p4), (5, .int p5), (6, .int p6)] := hl
  unfold X6_mostBy at hm
  refine lv_aload_n hx hb dX6_mostBy_0 rfl (lv_at hl 0 rfl) ?_
  refine gM_s C hW q787 dX6_mostBy_1 ?_
  refine lv_iload_n hx hb dX6_mostBy_4 rfl (lv_at hl 1 rfl) ?_
  obtain ⟨hi8, hm⟩ := mi_ai hm
  refine lM_s C hW hi8 dX6_mostBy_5 ?_
  refine lv_istore (lv' := [(7, .int (σ 0 (Int32.toNatClampNeg p1))), (0, .ref (a 0)), (1, .int p1), (2, .int p2), (3, .int p3), (4, .int p4), (5, .int p5), (6, .int p6)]) hx hb dX6_mostBy_6 hl (by decide) rfl (fun ls hl => ?_)
  refine lv_iload_n hx hb dX6_mostBy_8 rfl (lv_at hl 3 rfl) ?_
  refine lv_istore (lv' := [(8, .int p2), (7, .int (σ 0 (Int32.toNatClampNeg p1))), (0, .ref (a 0)), (1, .int p1), (2, .int p2), (3, .int p3), (4, .int p4), (5, .int p5), (6, .int p6)]) hx hb dX6_mostBy_9 hl (by decide) rfl (fun ls hl => ?_)
  refine lv_iconst (v := -1) hx hb dX6_mostBy_11 (by decide) ?_
  refine lv_istore (lv' := [(9, .int (-1 : Int32)), (8, .int p2), (7, .int (σ 0 (Int32.toNatClampNeg p1))), (0, .ref (a 0)), (1, .int p1), (2, .int p2), (3, .int p3), (4, .int p4), (5, .int p5), (6, .int p6)]) hx hb dX6_mostBy_12 hl (by decide) rfl (fun ls hl => ?_)
  refine lv_iload_n hx hb dX6_mostBy_14 rfl (lv_at hl 5 rfl) ?_
  refine lv_istore (lv' := [(10, .int p2), (9, .int (-1 : Int32)), (8, .int p2), (7, .int (σ 0 (Int32.toNatClampNeg p1))), (0, .ref (a 0)), (1, .int p1), (2, .int p2), (3, .int p3), (4, .int p4), (5, .int p5), (6, .int p6)]) hx hb dX6_mostBy_15 hl (by decide) rfl (fun ls hl => ?_)
  exact wX6_mostBy_b17 C hr hlk FU σ p1 p3 p4 p5 p6 ((σ 0 (Int32.toNatClampNeg p1))) p2 (-1 : Int32) p2 _ _ _ hm hW (lv_sub hl [4, 5, 7, 8, 9, 10, 3, 2, 1, 0] rfl)
theorem kX6_mostBy : KM yX6_mostBy cX6_mostBy 12 (some .int) 6 := ⟨q1058, q44, q72, q1059, by decide +kernel, by decide +kernel, by decide +kernel⟩
def X6_subjectFor_b29 (σ : MS) : Option (Int32 × MS) := (X6_finds σ (-1000001 : Int32)).bind fun q2 => some (q2.1, q2.2)
set_option maxHeartbeats 4000000 in
set_option maxRecDepth 100000 in
theorem wX6_subjectFor_b29 {p : Program} {l : Launch} {e : Env} {s : State} {m : MethodId} {below : List Frame} {meth : Method} {c : Code} {D : va_G} {cy cz : ClassId} {G : GT} {A : Nat → Prop} {args : Array Value} {a : Nat → Nat} {r : Int32} {σr : MS} (C : Cx p s m args c cX6_subjectFor 4 "PumpTalkModel" D cy cz G A) (hr : meth.sig.returnType = some .int) (hlk : meth.locks = false) : ∀ (σ : MS) (H : Heap) (locs : List Loc) (ls : Array Slot), X6_subjectFor_b29 σ = some (r, σr) → Wd D A s.heap H locs (cM a cy σ) → lv_has ls 4 [(0, .ref (a 0))] → W p l e (rmz 8 190) s m args below meth c H locs 0 0 (MQ below (QI D cy cz A (cM a cy σr) r) args s 0 0 A) (F0 m 29 ls []) := by
  have hx := C.1
  have hb := C.2.1
  intro σ H locs ls hm hW hl
  unfold X6_subjectFor_b29 at hm
  refine lv_aload_n hx hb dX6_subjectFor_29 rfl (lv_at hl 0 rfl) ?_
  refine lv_ldc hx hb C.2.2.2.1 (C.2.2.2.2.1 _ q865) dX6_subjectFor_30 ?_
  obtain ⟨q2, e1, hm⟩ := mi_bind hm
  refine cs_i (q0 := 0) (As := [.int (-1000001 : Int32)]) (rest := []) C hW (c_X6_finds e1) kX6_finds q866 rfl rfl rfl rfl rfl hl.1 ⟨Nat.le_of_ble_eq_true rfl, Nat.le_of_ble_eq_true rfl⟩ ⟨Nat.le_refl 0, Nat.le_refl 0⟩ (Nat.le_of_ble_eq_true rfl) dX6_subjectFor_32 (fun H locs hW => ?_)
  obtain ⟨rfl, rfl⟩ := Prod.mk.inj (Option.some.inj hm)
  exact en_i C hr hlk hW dX6_subjectFor_35
def X6_subjectFor (σ : MS) (p1 : Int32) (p2 : Int32) (p3 : Int32) : Option (Int32 × MS) := (X6_areTwo σ p1 p2).bind fun v4 => if v4 = (0 : Int32) then (X6_subjectFor_b29 σ) else ((X6_isSoon p3).bind fun v7 => if v7 = (0 : Int32) then (X6_subjectFor_b29 σ) else ((X6_mostBy σ (3 : Int32) (0 : Int32) (5 : Int32) p1 p2 p3).bind fun q10 => some (q10.1, q10.2)))
set_option maxHeartbeats 4000000 in
set_option maxRecDepth 100000 in
theorem c_X6_subjectFor {l : Launch} {D : va_G} {cy cz : ClassId} {G : GT} {a : Nat → Nat} {σ : MS} {p1 : Int32} {p2 : Int32} {p3 : Int32} {r : Int32} {σr : MS} (hm : X6_subjectFor σ p1 p2 p3 = some (r, σr)) : CtI l D cy cz G yX6_subjectFor cX6_subjectFor 4 (some .int) 8 190 [.ref (a 0), .int p1, .int p2, .int p3] (cM a cy σ) (cM a cy σr) r := by
  refine ct_i (own := "PumpTalkModel") (by decide) rfl (Nat.le_of_ble_eq_true rfl) ?_
  intro p e s m below meth c ls A C hr hlk hW hl
  have hx := C.1
  have hb := C.2.1
  have hl : lv_has ls 4 [(0, .ref (a 0)), (1, .int p1), (2, .int p2), (3, .int p3)] := hl
  unfold X6_subjectFor at hm
  refine lv_aload_n hx hb dX6_subjectFor_0 rfl (lv_at hl 0 rfl) ?_
  refine lv_iload_n hx hb dX6_subjectFor_1 rfl (lv_at hl 1 rfl) ?_
  refine lv_iload_n hx hb dX6_subjectFor_2 rfl (lv_at hl 2 rfl) ?_
  obtain ⟨v4, e3, hm⟩ := mi_bind hm
  refine cs_i (q0 := 0) (As := [.int p1, .int p2]) (rest := []) C hW (c_X6_areTwo e3) kX6_areTwo q935 rfl rfl rfl rfl rfl hl.1 ⟨Nat.le_of_ble_eq_true rfl, Nat.le_of_ble_eq_true rfl⟩ ⟨Nat.le_refl 0, Nat.le_refl 0⟩ (Nat.le_of_ble_eq_true rfl) dX6_subjectFor_3 (fun H locs hW => ?_)
  refine lv_if_eq (tgt := 29) hx hb dX6_subjectFor_6 (by decide) (fun hc5 => ?_) (fun hc5 => ?_)
  · rw [if_pos hc5] at hm
    exact wX6_subjectFor_b29 C hr hlk σ _ _ _ hm hW (lv_sub hl [0] rfl)
  · rw [if_neg hc5] at hm
    refine lv_iload_n hx hb dX6_subjectFor_9 rfl (lv_at hl 3 rfl) ?_
    obtain ⟨v7, e6, hm⟩ := mi_bind hm
    refine cS_i (As := [.int p3]) (rest := []) C hW (c_X6_isSoon e6) kX6_isSoon q1036 rfl rfl hl.1 ⟨Nat.le_of_ble_eq_true rfl, Nat.le_of_ble_eq_true rfl⟩ ⟨Nat.le_refl 0, Nat.le_refl 0⟩ (Nat.le_of_ble_eq_true rfl) dX6_subjectFor_10 (fun H locs hW => ?_)
    refine lv_if_eq (tgt := 29) hx hb dX6_subjectFor_13 (by decide) (fun hc8 => ?_) (fun hc8 => ?_)
    · rw [if_pos hc8] at hm
      exact wX6_subjectFor_b29 C hr hlk σ _ _ _ hm hW (lv_sub hl [0] rfl)
    · rw [if_neg hc8] at hm
      refine lv_aload_n hx hb dX6_subjectFor_16 rfl (lv_at hl 0 rfl) ?_
      refine lv_iconst (v := 3) hx hb dX6_subjectFor_17 (by decide) ?_
      refine lv_iconst (v := 0) hx hb dX6_subjectFor_18 (by decide) ?_
      refine lv_iconst (v := 5) hx hb dX6_subjectFor_19 (by decide) ?_
      refine lv_iload_n hx hb dX6_subjectFor_20 rfl (lv_at hl 1 rfl) ?_
      refine lv_iload_n hx hb dX6_subjectFor_21 rfl (lv_at hl 2 rfl) ?_
      refine lv_iload_n hx hb dX6_subjectFor_22 rfl (lv_at hl 3 rfl) ?_
      obtain ⟨q10, e9, hm⟩ := mi_bind hm
      refine cs_i (q0 := 0) (As := [.int (3 : Int32), .int (0 : Int32), .int (5 : Int32), .int p1, .int p2, .int p3]) (rest := []) C hW (c_X6_mostBy e9) kX6_mostBy q1056 rfl rfl rfl rfl rfl hl.1 ⟨Nat.le_of_ble_eq_true rfl, Nat.le_of_ble_eq_true rfl⟩ ⟨Nat.le_refl 0, Nat.le_refl 0⟩ (Nat.le_of_ble_eq_true rfl) dX6_subjectFor_23 (fun H locs hW => ?_)
      refine lv_goto (tgt := 35) hx hb dX6_subjectFor_26 (by decide) ?_
      obtain ⟨rfl, rfl⟩ := Prod.mk.inj (Option.some.inj hm)
      exact en_i C hr hlk hW dX6_subjectFor_35
theorem kX6_subjectFor : KM yX6_subjectFor cX6_subjectFor 4 (some .int) 3 := ⟨q1053, q1054, q72, q1055, by decide +kernel, by decide +kernel, by decide +kernel⟩
def X6_findMatches_b152 (k94 : MS → Int32 → Int32 → Int32 → Option (MS)) (σ : MS) (x2 : Int32) (x3 : Int32) (x4 : Int32) (y0 : Int32) : Option (MS) := ai x2 256 (if y0 ≤ (σ 8 (Int32.toNatClampNeg x2)) then (ai x2 256 (ai x2 256 (k94 (su σ 8 (Int32.toNatClampNeg x2) (σ 8 (Int32.toNatClampNeg x2))) x2 x3 ((x4 + (1 : Int32)))))) else (ai x2 256 (k94 (su σ 8 (Int32.toNatClampNeg x2) y0) x2 x3 ((x4 + (1 : Int32))))))
set_option maxHeartbeats 4000000 in
set_option maxRecDepth 100000 in
theorem wX6_findMatches_b152 {p : Program} {l : Launch} {e : Env} {s : State} {m : MethodId} {below : List Frame} {meth : Method} {c : Code} {D : va_G} {cy cz : ClassId} {G : GT} {A : Nat → Prop} {args : Array Value} {a : Nat → Nat} {σr : MS} (C : Cx p s m args c cX6_findMatches 7 "PumpTalkModel" D cy cz G A) (hr : meth.sig.returnType = none) (hlk : meth.locks = false) {k94 : MS → Int32 → Int32 → Int32 → Option (MS)} (hk94 : ∀ (σ : MS) (x2 : Int32) (x3 : Int32) (x4 : Int32) (H : Heap) (locs : List Loc) (ls : Array Slot), k94 σ x2 x3 x4 = some σr → Wd D A s.heap H locs (cM a cy σ) → lv_has ls 7 [(0, .ref (a 0)), (2, .int x2), (3, .int x3), (4, .int x4)] → W p l e (rmz 7 159) s m args below meth c H locs 0 0 (MQ below (QV D cy cz A (cM a cy σr) ()) args s 0 0 A) (F0 m 94 ls [])) : ∀ (σ : MS) (x2 : Int32) (x3 : Int32) (x4 : Int32) (y0 : Int32) (H : Heap) (locs : List Loc) (ls : Array Slot), X6_findMatches_b152 k94 σ x2 x3 x4 y0 = some σr → Wd D A s.heap H locs (cM a cy σ) → lv_has ls 7 [(0, .ref (a 0)), (2, .int x2), (3, .int x3), (4, .int x4)] → W p l e (rmz 7 159) s m args below meth c H locs 0 0 (MQ below (QV D cy cz A (cM a cy σr) ()) args s 0 0 A) (F0 m 152 ls [.int y0]) := by
  have hx := C.1
  have hb := C.2.1
  intro σ x2 x3 x4 y0 H locs ls hm hW hl
  unfold X6_findMatches_b152 at hm
  refine lv_istore (lv' := [(6, .int y0), (0, .ref (a 0)), (2, .int x2), (3, .int x3), (4, .int x4)]) hx hb dX6_findMatches_152 hl (by decide) rfl (fun ls hl => ?_)
  refine lv_aload_n hx hb dX6_findMatches_154 rfl (lv_at hl 1 rfl) ?_
  refine gM_mosts C hW q795 dX6_findMatches_155 ?_
  refine lv_iload_n hx hb dX6_findMatches_158 rfl (lv_at hl 2 rfl) ?_
  refine lv_iload hx hb dX6_findMatches_159 (lv_at hl 0 rfl) ?_
  refine lv_aload_n hx hb dX6_findMatches_161 rfl (lv_at hl 1 rfl) ?_
  refine gM_mosts C hW q795 dX6_findMatches_162 ?_
  refine lv_iload_n hx hb dX6_findMatches_165 rfl (lv_at hl 2 rfl) ?_
  obtain ⟨hi1, hm⟩ := mi_ai hm
  refine lM_mosts C hW hi1 dX6_findMatches_166 ?_
  refine lv_icmp_le (tgt := 175) hx hb dX6_findMatches_167 (by decide) (fun hc2 => ?_) (fun hc2 => ?_)
  · rw [if_pos hc2] at hm
    refine lv_aload_n hx hb dX6_findMatches_175 rfl (lv_at hl 1 rfl) ?_
    refine gM_mosts C hW q795 dX6_findMatches_176 ?_
    refine lv_iload_n hx hb dX6_findMatches_179 rfl (lv_at hl 2 rfl) ?_
    obtain ⟨hi3, hm⟩ := mi_ai hm
    refine lM_mosts C hW hi3 dX6_findMatches_180 ?_
    obtain ⟨hi4, hm⟩ := mi_ai hm
    refine tM_mosts C hW hi4 dX6_findMatches_181 (fun H locs hW => ?_)
    refine lv_iinc (v := (x4 + (1 : Int32))) (lv' := [(4, .int (x4 + (1 : Int32))), (6, .int y0), (0, .ref (a 0)), (2, .int x2), (3, .int x3)]) hx hb dX6_findMatches_182 hl (k := 4) rfl (congrArg (fun z : Int32 => x4 + z) (by decide)) (by decide) rfl (fun ls hl => ?_)
    refine lv_goto (tgt := 94) hx hb dX6_findMatches_185 (by decide) ?_
    exact hk94 (su σ 8 (Int32.toNatClampNeg x2) (σ 8 (Int32.toNatClampNeg x2))) x2 x3 ((x4 + (1 : Int32))) _ _ _ hm hW (lv_sub hl [2, 3, 4, 0] rfl)
  · rw [if_neg hc2] at hm
    refine lv_iload hx hb dX6_findMatches_170 (lv_at hl 0 rfl) ?_
    refine lv_goto (tgt := 181) hx hb dX6_findMatches_172 (by decide) ?_
    obtain ⟨hi5, hm⟩ := mi_ai hm
    refine tM_mosts C hW hi5 dX6_findMatches_181 (fun H locs hW => ?_)
    refine lv_iinc (v := (x4 + (1 : Int32))) (lv' := [(4, .int (x4 + (1 : Int32))), (6, .int y0), (0, .ref (a 0)), (2, .int x2), (3, .int x3)]) hx hb dX6_findMatches_182 hl (k := 4) rfl (congrArg (fun z : Int32 => x4 + z) (by decide)) (by decide) rfl (fun ls hl => ?_)
    refine lv_goto (tgt := 94) hx hb dX6_findMatches_185 (by decide) ?_
    exact hk94 (su σ 8 (Int32.toNatClampNeg x2) y0) x2 x3 ((x4 + (1 : Int32))) _ _ _ hm hW (lv_sub hl [2, 3, 4, 0] rfl)
def X6_findMatches_b94 (k79 : MS → Int32 → Int32 → Option (MS)) : Nat → MS → Int32 → Int32 → Int32 → Option (MS)
  | 0, _, _, _, _ => none
  | n + 1, σ, x2, x3, x4 => if (σ 0 1) ≤ x4 then (k79 σ x2 ((x3 + (1 : Int32)))) else (if (x2 &&& (((1 : Int32) <<< (x3 &&& 31)) ||| ((1 : Int32) <<< (x4 &&& 31)))) = (((1 : Int32) <<< (x3 &&& 31)) ||| ((1 : Int32) <<< (x4 &&& 31))) then (ai (((8 : Int32) * x3) + x4) 64 (ai (x2 &&& ((((1 : Int32) <<< (x3 &&& 31)) ||| ((1 : Int32) <<< (x4 &&& 31))) ^^^ (-1 : Int32))) 256 (X6_findMatches_b152 (X6_findMatches_b94 k79 n) σ x2 x3 x4 (((σ 7 (Int32.toNatClampNeg (((8 : Int32) * x3) + x4))) + (σ 8 (Int32.toNatClampNeg (x2 &&& ((((1 : Int32) <<< (x3 &&& 31)) ||| ((1 : Int32) <<< (x4 &&& 31))) ^^^ (-1 : Int32)))))))))) else (X6_findMatches_b152 (X6_findMatches_b94 k79 n) σ x2 x3 x4 (0 : Int32)))
set_option maxHeartbeats 4000000 in
set_option maxRecDepth 100000 in
theorem wX6_findMatches_b94 {p : Program} {l : Launch} {e : Env} {s : State} {m : MethodId} {below : List Frame} {meth : Method} {c : Code} {D : va_G} {cy cz : ClassId} {G : GT} {A : Nat → Prop} {args : Array Value} {a : Nat → Nat} {σr : MS} (C : Cx p s m args c cX6_findMatches 7 "PumpTalkModel" D cy cz G A) (hr : meth.sig.returnType = none) (hlk : meth.locks = false) {k79 : MS → Int32 → Int32 → Option (MS)} (hk79 : ∀ (σ : MS) (x2 : Int32) (x3 : Int32) (H : Heap) (locs : List Loc) (ls : Array Slot), k79 σ x2 x3 = some σr → Wd D A s.heap H locs (cM a cy σ) → lv_has ls 7 [(0, .ref (a 0)), (2, .int x2), (3, .int x3)] → W p l e (rmz 7 159) s m args below meth c H locs 0 0 (MQ below (QV D cy cz A (cM a cy σr) ()) args s 0 0 A) (F0 m 79 ls [])) : ∀ (n : Nat) (σ : MS) (x2 : Int32) (x3 : Int32) (x4 : Int32) (H : Heap) (locs : List Loc) (ls : Array Slot), X6_findMatches_b94 k79 n σ x2 x3 x4 = some σr → Wd D A s.heap H locs (cM a cy σ) → lv_has ls 7 [(0, .ref (a 0)), (2, .int x2), (3, .int x3), (4, .int x4)] → W p l e (rmz 7 159) s m args below meth c H locs 0 0 (MQ below (QV D cy cz A (cM a cy σr) ()) args s 0 0 A) (F0 m 94 ls []) := by
  have hx := C.1
  have hb := C.2.1
  intro n
  induction n with
  | zero =>
    intro σ x2 x3 x4 H locs ls hm
    rw [X6_findMatches_b94] at hm
    cases hm
  | succ n ih =>
    intro σ x2 x3 x4 H locs ls hm hW hl
    rw [X6_findMatches_b94] at hm
    refine lv_iload hx hb dX6_findMatches_94 (lv_at hl 3 rfl) ?_
    refine lv_aload_n hx hb dX6_findMatches_96 rfl (lv_at hl 0 rfl) ?_
    refine gM_s C hW q787 dX6_findMatches_97 ?_
    refine lv_iconst (v := 1) hx hb dX6_findMatches_100 (by decide) ?_
    refine lM_s_k (k := 1) C hW (by decide) (by decide) dX6_findMatches_101 ?_
    refine lv_icmp_ge (tgt := 188) hx hb dX6_findMatches_102 (by decide) (fun hc6 => ?_) (fun hc6 => ?_)
    · rw [if_pos hc6] at hm
      refine lv_iinc (v := (x3 + (1 : Int32))) (lv' := [(3, .int (x3 + (1 : Int32))), (0, .ref (a 0)), (2, .int x2), (4, .int x4)]) hx hb dX6_findMatches_188 hl (k := 2) rfl (congrArg (fun z : Int32 => x3 + z) (by decide)) (by decide) rfl (fun ls hl => ?_)
      refine lv_goto (tgt := 79) hx hb dX6_findMatches_191 (by decide) ?_
      exact hk79 σ x2 ((x3 + (1 : Int32))) _ _ _ hm hW (lv_sub hl [1, 2, 0] rfl)
    · rw [if_neg hc6] at hm
      refine lv_iconst (v := 1) hx hb dX6_findMatches_105 (by decide) ?_
      refine lv_iload_n hx hb dX6_findMatches_106 rfl (lv_at hl 2 rfl) ?_
      refine lv_ishl hx hb dX6_findMatches_107 ?_
      refine lv_iconst (v := 1) hx hb dX6_findMatches_108 (by decide) ?_
      refine lv_iload hx hb dX6_findMatches_109 (lv_at hl 3 rfl) ?_
      refine lv_ishl hx hb dX6_findMatches_111 ?_
      refine lv_ior hx hb dX6_findMatches_112 ?_
      refine lv_istore (lv' := [(5, .int (((1 : Int32) <<< (x3 &&& 31)) ||| ((1 : Int32) <<< (x4 &&& 31)))), (0, .ref (a 0)), (2, .int x2), (3, .int x3), (4, .int x4)]) hx hb dX6_findMatches_113 hl (by decide) rfl (fun ls hl => ?_)
      refine lv_iload_n hx hb dX6_findMatches_115 rfl (lv_at hl 2 rfl) ?_
      refine lv_iload hx hb dX6_findMatches_116 (lv_at hl 0 rfl) ?_
      refine lv_iand hx hb dX6_findMatches_118 ?_
      refine lv_iload hx hb dX6_findMatches_119 (lv_at hl 0 rfl) ?_
      refine lv_icmp_ne (tgt := 151) hx hb dX6_findMatches_121 (by decide) (fun hc7 => ?_) (fun hc7 => ?_)
      · rw [if_neg hc7] at hm
        refine lv_iconst (v := 0) hx hb dX6_findMatches_151 (by decide) ?_
        exact wX6_findMatches_b152 C hr hlk ih σ x2 x3 x4 (0 : Int32) _ _ _ hm hW (lv_sub hl [1, 2, 3, 4] rfl)
      · rw [if_pos hc7] at hm
        refine lv_aload_n hx hb dX6_findMatches_124 rfl (lv_at hl 1 rfl) ?_
        refine gM_pairGives C hW q794 dX6_findMatches_125 ?_
        refine lv_bipush (v := 8) hx hb dX6_findMatches_128 (by decide) ?_
        refine lv_iload_n hx hb dX6_findMatches_130 rfl (lv_at hl 3 rfl) ?_
        refine lv_imul hx hb dX6_findMatches_131 ?_
        refine lv_iload hx hb dX6_findMatches_132 (lv_at hl 4 rfl) ?_
        refine lv_iadd hx hb dX6_findMatches_134 ?_
        obtain ⟨hi8, hm⟩ := mi_ai hm
        refine lM_pairGives C hW hi8 dX6_findMatches_135 ?_
        refine lv_aload_n hx hb dX6_findMatches_136 rfl (lv_at hl 1 rfl) ?_
        refine gM_mosts C hW q795 dX6_findMatches_137 ?_
        refine lv_iload_n hx hb dX6_findMatches_140 rfl (lv_at hl 2 rfl) ?_
        refine lv_iload hx hb dX6_findMatches_141 (lv_at hl 0 rfl) ?_
        refine lv_iconst (v := -1) hx hb dX6_findMatches_143 (by decide) ?_
        refine lv_ixor hx hb dX6_findMatches_144 ?_
        refine lv_iand hx hb dX6_findMatches_145 ?_
        obtain ⟨hi9, hm⟩ := mi_ai hm
        refine lM_mosts C hW hi9 dX6_findMatches_146 ?_
        refine lv_iadd hx hb dX6_findMatches_147 ?_
        refine lv_goto (tgt := 152) hx hb dX6_findMatches_148 (by decide) ?_
        exact wX6_findMatches_b152 C hr hlk ih σ x2 x3 x4 (((σ 7 (Int32.toNatClampNeg (((8 : Int32) * x3) + x4))) + (σ 8 (Int32.toNatClampNeg (x2 &&& ((((1 : Int32) <<< (x3 &&& 31)) ||| ((1 : Int32) <<< (x4 &&& 31))) ^^^ (-1 : Int32))))))) _ _ _ hm hW (lv_sub hl [1, 2, 3, 4] rfl)
def X6_findMatches_b79 (k58 : MS → Int32 → Option (MS)) : Nat → MS → Int32 → Int32 → Option (MS)
  | 0, _, _, _ => none
  | n + 1, σ, x2, x3 => if (σ 0 1) ≤ x3 then (k58 σ ((x2 + (1 : Int32)))) else (X6_findMatches_b94 (X6_findMatches_b79 k58 n) FU σ x2 x3 ((x3 + (1 : Int32))))
set_option maxHeartbeats 4000000 in
set_option maxRecDepth 100000 in
theorem wX6_findMatches_b79 {p : Program} {l : Launch} {e : Env} {s : State} {m : MethodId} {below : List Frame} {meth : Method} {c : Code} {D : va_G} {cy cz : ClassId} {G : GT} {A : Nat → Prop} {args : Array Value} {a : Nat → Nat} {σr : MS} (C : Cx p s m args c cX6_findMatches 7 "PumpTalkModel" D cy cz G A) (hr : meth.sig.returnType = none) (hlk : meth.locks = false) {k58 : MS → Int32 → Option (MS)} (hk58 : ∀ (σ : MS) (x2 : Int32) (H : Heap) (locs : List Loc) (ls : Array Slot), k58 σ x2 = some σr → Wd D A s.heap H locs (cM a cy σ) → lv_has ls 7 [(0, .ref (a 0)), (2, .int x2)] → W p l e (rmz 7 159) s m args below meth c H locs 0 0 (MQ below (QV D cy cz A (cM a cy σr) ()) args s 0 0 A) (F0 m 58 ls [])) : ∀ (n : Nat) (σ : MS) (x2 : Int32) (x3 : Int32) (H : Heap) (locs : List Loc) (ls : Array Slot), X6_findMatches_b79 k58 n σ x2 x3 = some σr → Wd D A s.heap H locs (cM a cy σ) → lv_has ls 7 [(0, .ref (a 0)), (2, .int x2), (3, .int x3)] → W p l e (rmz 7 159) s m args below meth c H locs 0 0 (MQ below (QV D cy cz A (cM a cy σr) ()) args s 0 0 A) (F0 m 79 ls []) := by
  have hx := C.1
  have hb := C.2.1
  intro n
  induction n with
  | zero =>
    intro σ x2 x3 H locs ls hm
    rw [X6_findMatches_b79] at hm
    cases hm
  | succ n ih =>
    intro σ x2 x3 H locs ls hm hW hl
    rw [X6_findMatches_b79] at hm
    refine lv_iload_n hx hb dX6_findMatches_79 rfl (lv_at hl 2 rfl) ?_
    refine lv_aload_n hx hb dX6_findMatches_80 rfl (lv_at hl 0 rfl) ?_
    refine gM_s C hW q787 dX6_findMatches_81 ?_
    refine lv_iconst (v := 1) hx hb dX6_findMatches_84 (by decide) ?_
    refine lM_s_k (k := 1) C hW (by decide) (by decide) dX6_findMatches_85 ?_
    refine lv_icmp_ge (tgt := 194) hx hb dX6_findMatches_86 (by decide) (fun hc10 => ?_) (fun hc10 => ?_)
    · rw [if_pos hc10] at hm
      refine lv_iinc (v := (x2 + (1 : Int32))) (lv' := [(2, .int (x2 + (1 : Int32))), (0, .ref (a 0)), (3, .int x3)]) hx hb dX6_findMatches_194 hl (k := 1) rfl (congrArg (fun z : Int32 => x2 + z) (by decide)) (by decide) rfl (fun ls hl => ?_)
      refine lv_goto (tgt := 58) hx hb dX6_findMatches_197 (by decide) ?_
      exact hk58 σ ((x2 + (1 : Int32))) _ _ _ hm hW (lv_sub hl [1, 0] rfl)
    · rw [if_neg hc10] at hm
      refine lv_iload_n hx hb dX6_findMatches_89 rfl (lv_at hl 2 rfl) ?_
      refine lv_iconst (v := 1) hx hb dX6_findMatches_90 (by decide) ?_
      refine lv_iadd hx hb dX6_findMatches_91 ?_
      refine lv_istore (lv' := [(4, .int (x3 + (1 : Int32))), (0, .ref (a 0)), (2, .int x2), (3, .int x3)]) hx hb dX6_findMatches_92 hl (by decide) rfl (fun ls hl => ?_)
      exact wX6_findMatches_b94 C hr hlk ih FU σ x2 x3 ((x3 + (1 : Int32))) _ _ _ hm hW (lv_sub hl [1, 2, 3, 0] rfl)
def X6_findMatches_b58 : Nat → MS → Int32 → Option (MS)
  | 0, _, _ => none
  | n + 1, σ, x2 => if ((1 : Int32) <<< ((σ 0 1) &&& 31)) ≤ x2 then (some σ) else (ai x2 256 (X6_findMatches_b79 (X6_findMatches_b58 n) FU (su σ 8 (Int32.toNatClampNeg x2) (0 : Int32)) x2 (0 : Int32)))
set_option maxHeartbeats 4000000 in
set_option maxRecDepth 100000 in
theorem wX6_findMatches_b58 {p : Program} {l : Launch} {e : Env} {s : State} {m : MethodId} {below : List Frame} {meth : Method} {c : Code} {D : va_G} {cy cz : ClassId} {G : GT} {A : Nat → Prop} {args : Array Value} {a : Nat → Nat} {σr : MS} (C : Cx p s m args c cX6_findMatches 7 "PumpTalkModel" D cy cz G A) (hr : meth.sig.returnType = none) (hlk : meth.locks = false) : ∀ (n : Nat) (σ : MS) (x2 : Int32) (H : Heap) (locs : List Loc) (ls : Array Slot), X6_findMatches_b58 n σ x2 = some σr → Wd D A s.heap H locs (cM a cy σ) → lv_has ls 7 [(0, .ref (a 0)), (2, .int x2)] → W p l e (rmz 7 159) s m args below meth c H locs 0 0 (MQ below (QV D cy cz A (cM a cy σr) ()) args s 0 0 A) (F0 m 58 ls []) := by
  have hx := C.1
  have hb := C.2.1
  intro n
  induction n with
  | zero =>
    intro σ x2 H locs ls hm
    rw [X6_findMatches_b58] at hm
    cases hm
  | succ n ih =>
    intro σ x2 H locs ls hm hW hl
    rw [X6_findMatches_b58] at hm
    refine lv_iload_n hx hb dX6_findMatches_58 rfl (lv_at hl 1 rfl) ?_
    refine lv_iconst (v := 1) hx hb dX6_findMatches_59 (by decide) ?_
    refine lv_aload_n hx hb dX6_findMatches_60 rfl (lv_at hl 0 rfl) ?_
    refine gM_s C hW q787 dX6_findMatches_61 ?_
    refine lv_iconst (v := 1) hx hb dX6_findMatches_64 (by decide) ?_
    refine lM_s_k (k := 1) C hW (by decide) (by decide) dX6_findMatches_65 ?_
    refine lv_ishl hx hb dX6_findMatches_66 ?_
    refine lv_icmp_ge (tgt := 200) hx hb dX6_findMatches_67 (by decide) (fun hc11 => ?_) (fun hc11 => ?_)
    · rw [if_pos hc11] at hm
      obtain rfl := Option.some.inj hm
      exact en_v C hr hlk hW dX6_findMatches_200
    · rw [if_neg hc11] at hm
      refine lv_aload_n hx hb dX6_findMatches_70 rfl (lv_at hl 0 rfl) ?_
      refine gM_mosts C hW q795 dX6_findMatches_71 ?_
      refine lv_iload_n hx hb dX6_findMatches_74 rfl (lv_at hl 1 rfl) ?_
      refine lv_iconst (v := 0) hx hb dX6_findMatches_75 (by decide) ?_
      obtain ⟨hi12, hm⟩ := mi_ai hm
      refine tM_mosts C hW hi12 dX6_findMatches_76 (fun H locs hW => ?_)
      refine lv_iconst (v := 0) hx hb dX6_findMatches_77 (by decide) ?_
      refine lv_istore_n (lv' := [(3, .int (0 : Int32)), (0, .ref (a 0)), (2, .int x2)]) hx hb dX6_findMatches_78 rfl hl (by decide) rfl (fun ls hl => ?_)
      exact wX6_findMatches_b79 C hr hlk ih FU (su σ 8 (Int32.toNatClampNeg x2) (0 : Int32)) x2 (0 : Int32) _ _ _ hm hW (lv_sub hl [1, 2, 0] rfl)
def X6_findMatches_b16 (k2 : MS → Int32 → Int32 → Option (MS)) : Nat → MS → Int32 → Int32 → Int32 → Option (MS)
  | 0, _, _, _, _ => none
  | n + 1, σ, x1, x2, x3 => if (σ 0 1) ≤ x3 then (k2 σ x1 ((x2 + (1 : Int32)))) else ((X6_given σ x2 x3 x1).bind fun q15 => ai (((8 : Int32) * x2) + x3) 64 (X6_findMatches_b16 k2 n (su q15.2 7 (Int32.toNatClampNeg (((8 : Int32) * x2) + x3)) q15.1) x1 x2 ((x3 + (1 : Int32)))))
set_option maxHeartbeats 4000000 in
set_option maxRecDepth 100000 in
theorem wX6_findMatches_b16 {p : Program} {l : Launch} {e : Env} {s : State} {m : MethodId} {below : List Frame} {meth : Method} {c : Code} {D : va_G} {cy cz : ClassId} {G : GT} {A : Nat → Prop} {args : Array Value} {a : Nat → Nat} {σr : MS} (C : Cx p s m args c cX6_findMatches 7 "PumpTalkModel" D cy cz G A) (hr : meth.sig.returnType = none) (hlk : meth.locks = false) {k2 : MS → Int32 → Int32 → Option (MS)} (hk2 : ∀ (σ : MS) (x1 : Int32) (x2 : Int32) (H : Heap) (locs : List Loc) (ls : Array Slot), k2 σ x1 x2 = some σr → Wd D A s.heap H locs (cM a cy σ) → lv_has ls 7 [(0, .ref (a 0)), (1, .int x1), (2, .int x2)] → W p l e (rmz 7 159) s m args below meth c H locs 0 0 (MQ below (QV D cy cz A (cM a cy σr) ()) args s 0 0 A) (F0 m 2 ls [])) : ∀ (n : Nat) (σ : MS) (x1 : Int32) (x2 : Int32) (x3 : Int32) (H : Heap) (locs : List Loc) (ls : Array Slot), X6_findMatches_b16 k2 n σ x1 x2 x3 = some σr → Wd D A s.heap H locs (cM a cy σ) → lv_has ls 7 [(0, .ref (a 0)), (1, .int x1), (2, .int x2), (3, .int x3)] → W p l e (rmz 7 159) s m args below meth c H locs 0 0 (MQ below (QV D cy cz A (cM a cy σr) ()) args s 0 0 A) (F0 m 16 ls []) := by
  have hx := C.1
  have hb := C.2.1
  intro n
  induction n with
  | zero =>
    intro σ x1 x2 x3 H locs ls hm
    rw [X6_findMatches_b16] at hm
    cases hm
  | succ n ih =>
    intro σ x1 x2 x3 H locs ls hm hW hl
    rw [X6_findMatches_b16] at hm
    refine lv_iload_n hx hb dX6_findMatches_16 rfl (lv_at hl 3 rfl) ?_
    refine lv_aload_n hx hb dX6_findMatches_17 rfl (lv_at hl 0 rfl) ?_
    refine gM_s C hW q787 dX6_findMatches_18 ?_
    refine lv_iconst (v := 1) hx hb dX6_findMatches_21 (by decide) ?_
    refine lM_s_k (k := 1) C hW (by decide) (by decide) dX6_findMatches_22 ?_
    refine lv_icmp_ge (tgt := 50) hx hb dX6_findMatches_23 (by decide) (fun hc13 => ?_) (fun hc13 => ?_)
    · rw [if_pos hc13] at hm
      refine lv_iinc (v := (x2 + (1 : Int32))) (lv' := [(2, .int (x2 + (1 : Int32))), (0, .ref (a 0)), (1, .int x1), (3, .int x3)]) hx hb dX6_findMatches_50 hl (k := 2) rfl (congrArg (fun z : Int32 => x2 + z) (by decide)) (by decide) rfl (fun ls hl => ?_)
      refine lv_goto (tgt := 2) hx hb dX6_findMatches_53 (by decide) ?_
      exact hk2 σ x1 ((x2 + (1 : Int32))) _ _ _ hm hW (lv_sub hl [1, 2, 0] rfl)
    · rw [if_neg hc13] at hm
      refine lv_aload_n hx hb dX6_findMatches_26 rfl (lv_at hl 0 rfl) ?_
      refine gM_pairGives C hW q794 dX6_findMatches_27 ?_
      refine lv_bipush (v := 8) hx hb dX6_findMatches_30 (by decide) ?_
      refine lv_iload_n hx hb dX6_findMatches_32 rfl (lv_at hl 2 rfl) ?_
      refine lv_imul hx hb dX6_findMatches_33 ?_
      refine lv_iload_n hx hb dX6_findMatches_34 rfl (lv_at hl 3 rfl) ?_
      refine lv_iadd hx hb dX6_findMatches_35 ?_
      refine lv_aload_n hx hb dX6_findMatches_36 rfl (lv_at hl 0 rfl) ?_
      refine lv_iload_n hx hb dX6_findMatches_37 rfl (lv_at hl 2 rfl) ?_
      refine lv_iload_n hx hb dX6_findMatches_38 rfl (lv_at hl 3 rfl) ?_
      refine lv_iload_n hx hb dX6_findMatches_39 rfl (lv_at hl 1 rfl) ?_
      obtain ⟨q15, e14, hm⟩ := mi_bind hm
      refine cs_i (q0 := 0) (As := [.int x2, .int x3, .int x1]) (rest := [.int (((8 : Int32) * x2) + x3), .ref (a 8)]) C hW (c_X6_given e14) kX6_given q1040 rfl rfl rfl rfl rfl hl.1 ⟨Nat.le_of_ble_eq_true rfl, Nat.le_of_ble_eq_true rfl⟩ ⟨Nat.le_refl 0, Nat.le_refl 0⟩ (Nat.le_of_ble_eq_true rfl) dX6_findMatches_40 (fun H locs hW => ?_)
      obtain ⟨hi16, hm⟩ := mi_ai hm
      refine tM_pairGives C hW hi16 dX6_findMatches_43 (fun H locs hW => ?_)
      refine lv_iinc (v := (x3 + (1 : Int32))) (lv' := [(3, .int (x3 + (1 : Int32))), (0, .ref (a 0)), (1, .int x1), (2, .int x2)]) hx hb dX6_findMatches_44 hl (k := 3) rfl (congrArg (fun z : Int32 => x3 + z) (by decide)) (by decide) rfl (fun ls hl => ?_)
      refine lv_goto (tgt := 16) hx hb dX6_findMatches_47 (by decide) ?_
      exact ih (su q15.2 7 (Int32.toNatClampNeg (((8 : Int32) * x2) + x3)) q15.1) x1 x2 ((x3 + (1 : Int32))) _ _ _ hm hW (lv_sub hl [1, 2, 3, 0] rfl)
def X6_findMatches_b2 : Nat → MS → Int32 → Int32 → Option (MS)
  | 0, _, _, _ => none
  | n + 1, σ, x1, x2 => if (σ 0 1) ≤ x2 then (X6_findMatches_b58 FU σ (0 : Int32)) else (X6_findMatches_b16 (X6_findMatches_b2 n) FU σ x1 x2 ((x2 + (1 : Int32))))
set_option maxHeartbeats 4000000 in
set_option maxRecDepth 100000 in
theorem wX6_findMatches_b2 {p : Program} {l : Launch} {e : Env} {s : State} {m : MethodId} {below : List Frame} {meth : Method} {c : Code} {D : va_G} {cy cz : ClassId} {G : GT} {A : Nat → Prop} {args : Array Value} {a : Nat → Nat} {σr : MS} (C : Cx p s m args c cX6_findMatches 7 "PumpTalkModel" D cy cz G A) (hr : meth.sig.returnType = none) (hlk : meth.locks = false) : ∀ (n : Nat) (σ : MS) (x1 : Int32) (x2 : Int32) (H : Heap) (locs : List Loc) (ls : Array Slot), X6_findMatches_b2 n σ x1 x2 = some σr → Wd D A s.heap H locs (cM a cy σ) → lv_has ls 7 [(0, .ref (a 0)), (1, .int x1), (2, .int x2)] → W p l e (rmz 7 159) s m args below meth c H locs 0 0 (MQ below (QV D cy cz A (cM a cy σr) ()) args s 0 0 A) (F0 m 2 ls []) := by
  have hx := C.1
  have hb := C.2.1
  intro n
  induction n with
  | zero =>
    intro σ x1 x2 H locs ls hm
    rw [X6_findMatches_b2] at hm
    cases hm
  | succ n ih =>
    intro σ x1 x2 H locs ls hm hW hl
    rw [X6_findMatches_b2] at hm
    refine lv_iload_n hx hb dX6_findMatches_2 rfl (lv_at hl 2 rfl) ?_
    refine lv_aload_n hx hb dX6_findMatches_3 rfl (lv_at hl 0 rfl) ?_
    refine gM_s C hW q787 dX6_findMatches_4 ?_
    refine lv_iconst (v := 1) hx hb dX6_findMatches_7 (by decide) ?_
    refine lM_s_k (k := 1) C hW (by decide) (by decide) dX6_findMatches_8 ?_
    refine lv_icmp_ge (tgt := 56) hx hb dX6_findMatches_9 (by decide) (fun hc17 => ?_) (fun hc17 => ?_)
    · rw [if_pos hc17] at hm
      refine lv_iconst (v := 0) hx hb dX6_findMatches_56 (by decide) ?_
      refine lv_istore_n (lv' := [(2, .int (0 : Int32)), (0, .ref (a 0)), (1, .int x1)]) hx hb dX6_findMatches_57 rfl hl (by decide) rfl (fun ls hl => ?_)
      exact wX6_findMatches_b58 C hr hlk FU σ (0 : Int32) _ _ _ hm hW (lv_sub hl [1, 0] rfl)
    · rw [if_neg hc17] at hm
      refine lv_iload_n hx hb dX6_findMatches_12 rfl (lv_at hl 2 rfl) ?_
      refine lv_iconst (v := 1) hx hb dX6_findMatches_13 (by decide) ?_
      refine lv_iadd hx hb dX6_findMatches_14 ?_
      refine lv_istore_n (lv' := [(3, .int (x2 + (1 : Int32))), (0, .ref (a 0)), (1, .int x1), (2, .int x2)]) hx hb dX6_findMatches_15 rfl hl (by decide) rfl (fun ls hl => ?_)
      exact wX6_findMatches_b16 C hr hlk ih FU σ x1 x2 ((x2 + (1 : Int32))) _ _ _ hm hW (lv_sub hl [1, 2, 3, 0] rfl)
def X6_findMatches (σ : MS) (p1 : Int32) : Option (MS) := X6_findMatches_b2 FU σ p1 (0 : Int32)
set_option maxHeartbeats 4000000 in
set_option maxRecDepth 100000 in
theorem c_X6_findMatches {l : Launch} {D : va_G} {cy cz : ClassId} {G : GT} {a : Nat → Nat} {σ : MS} {p1 : Int32} {σr : MS} (hm : X6_findMatches σ p1 = some σr) : CtV l D cy cz G yX6_findMatches cX6_findMatches 7 none 7 159 [.ref (a 0), .int p1] (cM a cy σ) (cM a cy σr) () := by
  refine ct_v (own := "PumpTalkModel") (by decide) rfl (Nat.le_of_ble_eq_true rfl) ?_
  intro p e s m below meth c ls A C hr hlk hW hl
  have hx := C.1
  have hb := C.2.1
  have hl : lv_has ls 7 [(0, .ref (a 0)), (1, .int p1)] := hl
  unfold X6_findMatches at hm
  refine lv_iconst (v := 0) hx hb dX6_findMatches_0 (by decide) ?_
  refine lv_istore_n (lv' := [(2, .int (0 : Int32)), (0, .ref (a 0)), (1, .int p1)]) hx hb dX6_findMatches_1 rfl hl (by decide) rfl (fun ls hl => ?_)
  exact wX6_findMatches_b2 C hr hlk FU σ p1 (0 : Int32) _ _ _ hm hW (lv_sub hl [1, 2, 0] rfl)
theorem kX6_findMatches : KM yX6_findMatches cX6_findMatches 7 none 1 := ⟨q1067, q45, q72, q1068, by decide +kernel, by decide +kernel, by decide +kernel⟩
def X6_matched (σ : MS) (p1 : Int32) : Option (Int32 × MS) := (X6_in (Int32.toInt64 p1) (0 : Int64) (30 : Int64)).bind fun v2 => if v2 = (0 : Int32) then ((X6_finds σ (-1000001 : Int32)).bind fun q8 => some (q8.1, q8.2)) else ((X6_findMatches σ p1).bind fun s5 => ai (((1 : Int32) <<< ((s5 0 1) &&& 31)) - (1 : Int32)) 256 (some ((s5 8 (Int32.toNatClampNeg (((1 : Int32) <<< ((s5 0 1) &&& 31)) - (1 : Int32)))), s5)))
set_option maxHeartbeats 4000000 in
set_option maxRecDepth 100000 in
theorem c_X6_matched {l : Launch} {D : va_G} {cy cz : ClassId} {G : GT} {a : Nat → Nat} {σ : MS} {p1 : Int32} {r : Int32} {σr : MS} (hm : X6_matched σ p1 = some (r, σr)) : CtI l D cy cz G yX6_matched cX6_matched 2 (some .int) 8 185 [.ref (a 0), .int p1] (cM a cy σ) (cM a cy σr) r := by
  refine ct_i (own := "PumpTalkModel") (by decide) rfl (Nat.le_of_ble_eq_true rfl) ?_
  intro p e s m below meth c ls A C hr hlk hW hl
  have hx := C.1
  have hb := C.2.1
  have hl : lv_has ls 2 [(0, .ref (a 0)), (1, .int p1)] := hl
  unfold X6_matched at hm
  refine lv_iload_n hx hb dX6_matched_0 rfl (lv_at hl 1 rfl) ?_
  refine lv_i2l hx hb dX6_matched_1 rfl ?_
  refine lv_lconst (v := 0) hx hb dX6_matched_2 (by decide) ?_
  refine lv_ldc2 hx hb C.2.2.2.1 (C.2.2.2.2.1 _ q1064) dX6_matched_3 ?_
  obtain ⟨v2, e1, hm⟩ := mi_bind hm
  refine cS_i (As := [.long (Int32.toInt64 p1), .long (0 : Int64), .long (30 : Int64)]) (rest := []) C hW (c_X6_in e1) kX6_in q862 rfl rfl hl.1 ⟨Nat.le_of_ble_eq_true rfl, Nat.le_of_ble_eq_true rfl⟩ ⟨Nat.le_refl 0, Nat.le_refl 0⟩ (Nat.le_of_ble_eq_true rfl) dX6_matched_6 (fun H locs hW => ?_)
  refine lv_if_ne (tgt := 19) hx hb dX6_matched_9 (by decide) (fun hc3 => ?_) (fun hc3 => ?_)
  · rw [if_neg hc3] at hm
    refine lv_aload_n hx hb dX6_matched_19 rfl (lv_at hl 0 rfl) ?_
    refine lv_iload_n hx hb dX6_matched_20 rfl (lv_at hl 1 rfl) ?_
    obtain ⟨s5, e4, hm⟩ := mi_bind hm
    refine cs_v (q0 := 0) (As := [.int p1]) (rest := []) C hW (c_X6_findMatches e4) kX6_findMatches q1065 rfl rfl rfl rfl rfl hl.1 ⟨Nat.le_of_ble_eq_true rfl, Nat.le_of_ble_eq_true rfl⟩ ⟨Nat.le_refl 0, Nat.le_refl 0⟩ (Nat.le_of_ble_eq_true rfl) dX6_matched_21 (fun H locs hW => ?_)
    refine lv_aload_n hx hb dX6_matched_24 rfl (lv_at hl 0 rfl) ?_
    refine gM_mosts C hW q795 dX6_matched_25 ?_
    refine lv_iconst (v := 1) hx hb dX6_matched_28 (by decide) ?_
    refine lv_aload_n hx hb dX6_matched_29 rfl (lv_at hl 0 rfl) ?_
    refine gM_s C hW q787 dX6_matched_30 ?_
    refine lv_iconst (v := 1) hx hb dX6_matched_33 (by decide) ?_
    refine lM_s_k (k := 1) C hW (by decide) (by decide) dX6_matched_34 ?_
    refine lv_ishl hx hb dX6_matched_35 ?_
    refine lv_iconst (v := 1) hx hb dX6_matched_36 (by decide) ?_
    refine lv_isub hx hb dX6_matched_37 ?_
    obtain ⟨hi6, hm⟩ := mi_ai hm
    refine lM_mosts C hW hi6 dX6_matched_38 ?_
    obtain ⟨rfl, rfl⟩ := Prod.mk.inj (Option.some.inj hm)
    exact en_i C hr hlk hW dX6_matched_39
  · rw [if_pos hc3] at hm
    refine lv_aload_n hx hb dX6_matched_12 rfl (lv_at hl 0 rfl) ?_
    refine lv_ldc hx hb C.2.2.2.1 (C.2.2.2.2.1 _ q865) dX6_matched_13 ?_
    obtain ⟨q8, e7, hm⟩ := mi_bind hm
    refine cs_i (q0 := 0) (As := [.int (-1000001 : Int32)]) (rest := []) C hW (c_X6_finds e7) kX6_finds q866 rfl rfl rfl rfl rfl hl.1 ⟨Nat.le_of_ble_eq_true rfl, Nat.le_of_ble_eq_true rfl⟩ ⟨Nat.le_refl 0, Nat.le_refl 0⟩ (Nat.le_of_ble_eq_true rfl) dX6_matched_15 (fun H locs hW => ?_)
    obtain ⟨rfl, rfl⟩ := Prod.mk.inj (Option.some.inj hm)
    exact en_i C hr hlk hW dX6_matched_18
theorem kX6_matched : KM yX6_matched cX6_matched 2 (some .int) 1 := ⟨q1061, q1062, q72, q1063, by decide +kernel, by decide +kernel, by decide +kernel⟩
def X6_matchOf_b211 (k74 : MS → Int32 → Int32 → Int32 → Option (Int32 × MS)) (σ : MS) (x1 : Int32) (x3 : Int32) (x4 : Int32) : Option (Int32 × MS) := k74 σ x1 ((x3 &&& (((1 : Int32) <<< (x4 &&& 31)) ^^^ (-1 : Int32)))) ((x4 + (1 : Int32)))
set_option maxHeartbeats 4000000 in
set_option maxRecDepth 100000 in
theorem wX6_matchOf_b211 {p : Program} {l : Launch} {e : Env} {s : State} {m : MethodId} {below : List Frame} {meth : Method} {c : Code} {D : va_G} {cy cz : ClassId} {G : GT} {A : Nat → Prop} {args : Array Value} {a : Nat → Nat} {r : Int32} {σr : MS} (C : Cx p s m args c cX6_matchOf 8 "PumpTalkModel" D cy cz G A) (hr : meth.sig.returnType = some .int) (hlk : meth.locks = false) {k74 : MS → Int32 → Int32 → Int32 → Option (Int32 × MS)} (hk74 : ∀ (σ : MS) (x1 : Int32) (x3 : Int32) (x4 : Int32) (H : Heap) (locs : List Loc) (ls : Array Slot), k74 σ x1 x3 x4 = some (r, σr) → Wd D A s.heap H locs (cM a cy σ) → lv_has ls 8 [(0, .ref (a 0)), (1, .int x1), (3, .int x3), (4, .int x4)] → W p l e (rmz 8 185) s m args below meth c H locs 0 0 (MQ below (QI D cy cz A (cM a cy σr) r) args s 0 0 A) (F0 m 74 ls [])) : ∀ (σ : MS) (x1 : Int32) (x3 : Int32) (x4 : Int32) (H : Heap) (locs : List Loc) (ls : Array Slot), X6_matchOf_b211 k74 σ x1 x3 x4 = some (r, σr) → Wd D A s.heap H locs (cM a cy σ) → lv_has ls 8 [(0, .ref (a 0)), (1, .int x1), (3, .int x3), (4, .int x4)] → W p l e (rmz 8 185) s m args below meth c H locs 0 0 (MQ below (QI D cy cz A (cM a cy σr) r) args s 0 0 A) (F0 m 211 ls []) := by
  have hx := C.1
  have hb := C.2.1
  intro σ x1 x3 x4 H locs ls hm hW hl
  unfold X6_matchOf_b211 at hm
  refine lv_iload_n hx hb dX6_matchOf_211 rfl (lv_at hl 2 rfl) ?_
  refine lv_iconst (v := 1) hx hb dX6_matchOf_212 (by decide) ?_
  refine lv_iload hx hb dX6_matchOf_213 (lv_at hl 3 rfl) ?_
  refine lv_ishl hx hb dX6_matchOf_215 ?_
  refine lv_iconst (v := -1) hx hb dX6_matchOf_216 (by decide) ?_
  refine lv_ixor hx hb dX6_matchOf_217 ?_
  refine lv_iand hx hb dX6_matchOf_218 ?_
  refine lv_istore_n (lv' := [(3, .int (x3 &&& (((1 : Int32) <<< (x4 &&& 31)) ^^^ (-1 : Int32)))), (0, .ref (a 0)), (1, .int x1), (4, .int x4)]) hx hb dX6_matchOf_219 rfl hl (by decide) rfl (fun ls hl => ?_)
  refine lv_iinc (v := (x4 + (1 : Int32))) (lv' := [(4, .int (x4 + (1 : Int32))), (3, .int (x3 &&& (((1 : Int32) <<< (x4 &&& 31)) ^^^ (-1 : Int32)))), (0, .ref (a 0)), (1, .int x1)]) hx hb dX6_matchOf_220 hl (k := 3) rfl (congrArg (fun z : Int32 => x4 + z) (by decide)) (by decide) rfl (fun ls hl => ?_)
  refine lv_goto (tgt := 74) hx hb dX6_matchOf_223 (by decide) ?_
  exact hk74 σ x1 ((x3 &&& (((1 : Int32) <<< (x4 &&& 31)) ^^^ (-1 : Int32)))) ((x4 + (1 : Int32))) _ _ _ hm hW (lv_sub hl [2, 3, 1, 0] rfl)
def X6_matchOf_b108 (k74 : MS → Int32 → Int32 → Int32 → Option (Int32 × MS)) : Nat → MS → Int32 → Int32 → Int32 → Int32 → Int32 → Option (Int32 × MS)
  | 0, _, _, _, _, _, _ => none
  | n + 1, σ, x1, x3, x4, x5, x6 => if (σ 0 1) ≤ x6 then (X6_matchOf_b211 k74 σ x1 x3 x4) else (if x5 = (0 : Int32) then (X6_matchOf_b211 k74 σ x1 x3 x4) else (if ((x3 >>> (x6 &&& 31)) &&& (1 : Int32)) = (1 : Int32) then (ai (((8 : Int32) * x4) + x6) 64 (ai ((x3 &&& (((1 : Int32) <<< (x4 &&& 31)) ^^^ (-1 : Int32))) &&& (((1 : Int32) <<< (x6 &&& 31)) ^^^ (-1 : Int32))) 256 (ai x3 256 (if ((σ 7 (Int32.toNatClampNeg (((8 : Int32) * x4) + x6))) + (σ 8 (Int32.toNatClampNeg ((x3 &&& (((1 : Int32) <<< (x4 &&& 31)) ^^^ (-1 : Int32))) &&& (((1 : Int32) <<< (x6 &&& 31)) ^^^ (-1 : Int32)))))) = (σ 8 (Int32.toNatClampNeg x3)) then (ai x4 8 (ai x6 8 (X6_matchOf_b108 k74 n (su (su σ 9 (Int32.toNatClampNeg x4) x6) 9 (Int32.toNatClampNeg x6) x4) x1 (((x3 &&& (((1 : Int32) <<< (x4 &&& 31)) ^^^ (-1 : Int32))) &&& (((1 : Int32) <<< (x6 &&& 31)) ^^^ (-1 : Int32)))) x4 (0 : Int32) ((x6 + (1 : Int32)))))) else (X6_matchOf_b108 k74 n σ x1 x3 x4 x5 ((x6 + (1 : Int32)))))))) else (X6_matchOf_b108 k74 n σ x1 x3 x4 x5 ((x6 + (1 : Int32))))))
set_option maxHeartbeats 4000000 in
set_option maxRecDepth 100000 in
theorem wX6_matchOf_b108 {p : Program} {l : Launch} {e : Env} {s : State} {m : MethodId} {below : List Frame} {meth : Method} {c : Code} {D : va_G} {cy cz : ClassId} {G : GT} {A : Nat → Prop} {args : Array Value} {a : Nat → Nat} {r : Int32} {σr : MS} (C : Cx p s m args c cX6_matchOf 8 "PumpTalkModel" D cy cz G A) (hr : meth.sig.returnType = some .int) (hlk : meth.locks = false) {k74 : MS → Int32 → Int32 → Int32 → Option (Int32 × MS)} (hk74 : ∀ (σ : MS) (x1 : Int32) (x3 : Int32) (x4 : Int32) (H : Heap) (locs : List Loc) (ls : Array Slot), k74 σ x1 x3 x4 = some (r, σr) → Wd D A s.heap H locs (cM a cy σ) → lv_has ls 8 [(0, .ref (a 0)), (1, .int x1), (3, .int x3), (4, .int x4)] → W p l e (rmz 8 185) s m args below meth c H locs 0 0 (MQ below (QI D cy cz A (cM a cy σr) r) args s 0 0 A) (F0 m 74 ls [])) : ∀ (n : Nat) (σ : MS) (x1 : Int32) (x3 : Int32) (x4 : Int32) (x5 : Int32) (x6 : Int32) (H : Heap) (locs : List Loc) (ls : Array Slot), X6_matchOf_b108 k74 n σ x1 x3 x4 x5 x6 = some (r, σr) → Wd D A s.heap H locs (cM a cy σ) → lv_has ls 8 [(0, .ref (a 0)), (1, .int x1), (3, .int x3), (4, .int x4), (5, .int x5), (6, .int x6)] → W p l e (rmz 8 185) s m args below meth c H locs 0 0 (MQ below (QI D cy cz A (cM a cy σr) r) args s 0 0 A) (F0 m 108 ls []) := by
  have hx := C.1
  have hb := C.2.1
  intro n
  induction n with
  | zero =>
    intro σ x1 x3 x4 x5 x6 H locs ls hm
    rw [X6_matchOf_b108] at hm
    cases hm
  | succ n ih =>
    intro σ x1 x3 x4 x5 x6 H locs ls hm hW hl
    rw [X6_matchOf_b108] at hm
    refine lv_iload hx hb dX6_matchOf_108 (lv_at hl 5 rfl) ?_
    refine lv_aload_n hx hb dX6_matchOf_110 rfl (lv_at hl 0 rfl) ?_
    refine gM_s C hW q787 dX6_matchOf_111 ?_
    refine lv_iconst (v := 1) hx hb dX6_matchOf_114 (by decide) ?_
    refine lM_s_k (k := 1) C hW (by decide) (by decide) dX6_matchOf_115 ?_
    refine lv_icmp_ge (tgt := 211) hx hb dX6_matchOf_116 (by decide) (fun hc1 => ?_) (fun hc1 => ?_)
    · rw [if_pos hc1] at hm
      exact wX6_matchOf_b211 C hr hlk hk74 σ x1 x3 x4 _ _ _ hm hW (lv_sub hl [0, 1, 2, 3] rfl)
    · rw [if_neg hc1] at hm
      refine lv_iload hx hb dX6_matchOf_119 (lv_at hl 4 rfl) ?_
      refine lv_if_eq (tgt := 211) hx hb dX6_matchOf_121 (by decide) (fun hc2 => ?_) (fun hc2 => ?_)
      · rw [if_pos hc2] at hm
        exact wX6_matchOf_b211 C hr hlk hk74 σ x1 x3 x4 _ _ _ hm hW (lv_sub hl [0, 1, 2, 3] rfl)
      · rw [if_neg hc2] at hm
        refine lv_iload_n hx hb dX6_matchOf_124 rfl (lv_at hl 2 rfl) ?_
        refine lv_iconst (v := 1) hx hb dX6_matchOf_125 (by decide) ?_
        refine lv_iload hx hb dX6_matchOf_126 (lv_at hl 3 rfl) ?_
        refine lv_ishl hx hb dX6_matchOf_128 ?_
        refine lv_iconst (v := -1) hx hb dX6_matchOf_129 (by decide) ?_
        refine lv_ixor hx hb dX6_matchOf_130 ?_
        refine lv_iand hx hb dX6_matchOf_131 ?_
        refine lv_iconst (v := 1) hx hb dX6_matchOf_132 (by decide) ?_
        refine lv_iload hx hb dX6_matchOf_133 (lv_at hl 5 rfl) ?_
        refine lv_ishl hx hb dX6_matchOf_135 ?_
        refine lv_iconst (v := -1) hx hb dX6_matchOf_136 (by decide) ?_
        refine lv_ixor hx hb dX6_matchOf_137 ?_
        refine lv_iand hx hb dX6_matchOf_138 ?_
        refine lv_istore (lv' := [(7, .int ((x3 &&& (((1 : Int32) <<< (x4 &&& 31)) ^^^ (-1 : Int32))) &&& (((1 : Int32) <<< (x6 &&& 31)) ^^^ (-1 : Int32)))), (0, .ref (a 0)), (1, .int x1), (3, .int x3), (4, .int x4), (5, .int x5), (6, .int x6)]) hx hb dX6_matchOf_139 hl (by decide) rfl (fun ls hl => ?_)
        refine lv_iload_n hx hb dX6_matchOf_141 rfl (lv_at hl 3 rfl) ?_
        refine lv_iload hx hb dX6_matchOf_142 (lv_at hl 6 rfl) ?_
        refine lv_ishr hx hb dX6_matchOf_144 ?_
        refine lv_iconst (v := 1) hx hb dX6_matchOf_145 (by decide) ?_
        refine lv_iand hx hb dX6_matchOf_146 ?_
        refine lv_iconst (v := 1) hx hb dX6_matchOf_147 (by decide) ?_
        refine lv_icmp_ne (tgt := 205) hx hb dX6_matchOf_148 (by decide) (fun hc3 => ?_) (fun hc3 => ?_)
        · rw [if_neg hc3] at hm
          refine lv_iinc (v := (x6 + (1 : Int32))) (lv' := [(6, .int (x6 + (1 : Int32))), (7, .int ((x3 &&& (((1 : Int32) <<< (x4 &&& 31)) ^^^ (-1 : Int32))) &&& (((1 : Int32) <<< (x6 &&& 31)) ^^^ (-1 : Int32)))), (0, .ref (a 0)), (1, .int x1), (3, .int x3), (4, .int x4), (5, .int x5)]) hx hb dX6_matchOf_205 hl (k := 6) rfl (congrArg (fun z : Int32 => x6 + z) (by decide)) (by decide) rfl (fun ls hl => ?_)
          refine lv_goto (tgt := 108) hx hb dX6_matchOf_208 (by decide) ?_
          exact ih σ x1 x3 x4 x5 ((x6 + (1 : Int32))) _ _ _ hm hW (lv_sub hl [2, 3, 4, 5, 6, 0] rfl)
        · rw [if_pos hc3] at hm
          refine lv_aload_n hx hb dX6_matchOf_151 rfl (lv_at hl 1 rfl) ?_
          refine gM_pairGives C hW q794 dX6_matchOf_152 ?_
          refine lv_bipush (v := 8) hx hb dX6_matchOf_155 (by decide) ?_
          refine lv_iload hx hb dX6_matchOf_157 (lv_at hl 4 rfl) ?_
          refine lv_imul hx hb dX6_matchOf_159 ?_
          refine lv_iload hx hb dX6_matchOf_160 (lv_at hl 6 rfl) ?_
          refine lv_iadd hx hb dX6_matchOf_162 ?_
          obtain ⟨hi4, hm⟩ := mi_ai hm
          refine lM_pairGives C hW hi4 dX6_matchOf_163 ?_
          refine lv_aload_n hx hb dX6_matchOf_164 rfl (lv_at hl 1 rfl) ?_
          refine gM_mosts C hW q795 dX6_matchOf_165 ?_
          refine lv_iload hx hb dX6_matchOf_168 (lv_at hl 0 rfl) ?_
          obtain ⟨hi5, hm⟩ := mi_ai hm
          refine lM_mosts C hW hi5 dX6_matchOf_170 ?_
          refine lv_iadd hx hb dX6_matchOf_171 ?_
          refine lv_aload_n hx hb dX6_matchOf_172 rfl (lv_at hl 1 rfl) ?_
          refine gM_mosts C hW q795 dX6_matchOf_173 ?_
          refine lv_iload_n hx hb dX6_matchOf_176 rfl (lv_at hl 3 rfl) ?_
          obtain ⟨hi6, hm⟩ := mi_ai hm
          refine lM_mosts C hW hi6 dX6_matchOf_177 ?_
          refine lv_icmp_ne (tgt := 205) hx hb dX6_matchOf_178 (by decide) (fun hc7 => ?_) (fun hc7 => ?_)
          · rw [if_neg hc7] at hm
            refine lv_iinc (v := (x6 + (1 : Int32))) (lv' := [(6, .int (x6 + (1 : Int32))), (7, .int ((x3 &&& (((1 : Int32) <<< (x4 &&& 31)) ^^^ (-1 : Int32))) &&& (((1 : Int32) <<< (x6 &&& 31)) ^^^ (-1 : Int32)))), (0, .ref (a 0)), (1, .int x1), (3, .int x3), (4, .int x4), (5, .int x5)]) hx hb dX6_matchOf_205 hl (k := 6) rfl (congrArg (fun z : Int32 => x6 + z) (by decide)) (by decide) rfl (fun ls hl => ?_)
            refine lv_goto (tgt := 108) hx hb dX6_matchOf_208 (by decide) ?_
            exact ih σ x1 x3 x4 x5 ((x6 + (1 : Int32))) _ _ _ hm hW (lv_sub hl [2, 3, 4, 5, 6, 0] rfl)
          · rw [if_pos hc7] at hm
            refine lv_aload_n hx hb dX6_matchOf_181 rfl (lv_at hl 1 rfl) ?_
            refine gM_with C hW q796 dX6_matchOf_182 ?_
            refine lv_iload hx hb dX6_matchOf_185 (lv_at hl 4 rfl) ?_
            refine lv_iload hx hb dX6_matchOf_187 (lv_at hl 6 rfl) ?_
            obtain ⟨hi8, hm⟩ := mi_ai hm
            refine tM_with C hW hi8 dX6_matchOf_189 (fun H locs hW => ?_)
            refine lv_aload_n hx hb dX6_matchOf_190 rfl (lv_at hl 1 rfl) ?_
            refine gM_with C hW q796 dX6_matchOf_191 ?_
            refine lv_iload hx hb dX6_matchOf_194 (lv_at hl 6 rfl) ?_
            refine lv_iload hx hb dX6_matchOf_196 (lv_at hl 4 rfl) ?_
            obtain ⟨hi9, hm⟩ := mi_ai hm
            refine tM_with C hW hi9 dX6_matchOf_198 (fun H locs hW => ?_)
            refine lv_iload hx hb dX6_matchOf_199 (lv_at hl 0 rfl) ?_
            refine lv_istore_n (lv' := [(3, .int ((x3 &&& (((1 : Int32) <<< (x4 &&& 31)) ^^^ (-1 : Int32))) &&& (((1 : Int32) <<< (x6 &&& 31)) ^^^ (-1 : Int32)))), (7, .int ((x3 &&& (((1 : Int32) <<< (x4 &&& 31)) ^^^ (-1 : Int32))) &&& (((1 : Int32) <<< (x6 &&& 31)) ^^^ (-1 : Int32)))), (0, .ref (a 0)), (1, .int x1), (4, .int x4), (5, .int x5), (6, .int x6)]) hx hb dX6_matchOf_201 rfl hl (by decide) rfl (fun ls hl => ?_)
            refine lv_iconst (v := 0) hx hb dX6_matchOf_202 (by decide) ?_
            refine lv_istore (lv' := [(5, .int (0 : Int32)), (3, .int ((x3 &&& (((1 : Int32) <<< (x4 &&& 31)) ^^^ (-1 : Int32))) &&& (((1 : Int32) <<< (x6 &&& 31)) ^^^ (-1 : Int32)))), (7, .int ((x3 &&& (((1 : Int32) <<< (x4 &&& 31)) ^^^ (-1 : Int32))) &&& (((1 : Int32) <<< (x6 &&& 31)) ^^^ (-1 : Int32)))), (0, .ref (a 0)), (1, .int x1), (4, .int x4), (6, .int x6)]) hx hb dX6_matchOf_203 hl (by decide) rfl (fun ls hl => ?_)
            refine lv_iinc (v := (x6 + (1 : Int32))) (lv' := [(6, .int (x6 + (1 : Int32))), (5, .int (0 : Int32)), (3, .int ((x3 &&& (((1 : Int32) <<< (x4 &&& 31)) ^^^ (-1 : Int32))) &&& (((1 : Int32) <<< (x6 &&& 31)) ^^^ (-1 : Int32)))), (7, .int ((x3 &&& (((1 : Int32) <<< (x4 &&& 31)) ^^^ (-1 : Int32))) &&& (((1 : Int32) <<< (x6 &&& 31)) ^^^ (-1 : Int32)))), (0, .ref (a 0)), (1, .int x1), (4, .int x4)]) hx hb dX6_matchOf_205 hl (k := 6) rfl (congrArg (fun z : Int32 => x6 + z) (by decide)) (by decide) rfl (fun ls hl => ?_)
            refine lv_goto (tgt := 108) hx hb dX6_matchOf_208 (by decide) ?_
            exact ih (su (su σ 9 (Int32.toNatClampNeg x4) x6) 9 (Int32.toNatClampNeg x6) x4) x1 (((x3 &&& (((1 : Int32) <<< (x4 &&& 31)) ^^^ (-1 : Int32))) &&& (((1 : Int32) <<< (x6 &&& 31)) ^^^ (-1 : Int32)))) x4 (0 : Int32) ((x6 + (1 : Int32))) _ _ _ hm hW (lv_sub hl [4, 5, 2, 6, 1, 0] rfl)
def X6_matchOf_b100 (k74 : MS → Int32 → Int32 → Int32 → Option (Int32 × MS)) (σ : MS) (x1 : Int32) (x3 : Int32) (x4 : Int32) (y0 : Int32) : Option (Int32 × MS) := X6_matchOf_b108 k74 FU σ x1 x3 x4 y0 ((x4 + (1 : Int32)))
set_option maxHeartbeats 4000000 in
set_option maxRecDepth 100000 in
theorem wX6_matchOf_b100 {p : Program} {l : Launch} {e : Env} {s : State} {m : MethodId} {below : List Frame} {meth : Method} {c : Code} {D : va_G} {cy cz : ClassId} {G : GT} {A : Nat → Prop} {args : Array Value} {a : Nat → Nat} {r : Int32} {σr : MS} (C : Cx p s m args c cX6_matchOf 8 "PumpTalkModel" D cy cz G A) (hr : meth.sig.returnType = some .int) (hlk : meth.locks = false) {k74 : MS → Int32 → Int32 → Int32 → Option (Int32 × MS)} (hk74 : ∀ (σ : MS) (x1 : Int32) (x3 : Int32) (x4 : Int32) (H : Heap) (locs : List Loc) (ls : Array Slot), k74 σ x1 x3 x4 = some (r, σr) → Wd D A s.heap H locs (cM a cy σ) → lv_has ls 8 [(0, .ref (a 0)), (1, .int x1), (3, .int x3), (4, .int x4)] → W p l e (rmz 8 185) s m args below meth c H locs 0 0 (MQ below (QI D cy cz A (cM a cy σr) r) args s 0 0 A) (F0 m 74 ls [])) : ∀ (σ : MS) (x1 : Int32) (x3 : Int32) (x4 : Int32) (y0 : Int32) (H : Heap) (locs : List Loc) (ls : Array Slot), X6_matchOf_b100 k74 σ x1 x3 x4 y0 = some (r, σr) → Wd D A s.heap H locs (cM a cy σ) → lv_has ls 8 [(0, .ref (a 0)), (1, .int x1), (3, .int x3), (4, .int x4)] → W p l e (rmz 8 185) s m args below meth c H locs 0 0 (MQ below (QI D cy cz A (cM a cy σr) r) args s 0 0 A) (F0 m 100 ls [.int y0]) := by
  have hx := C.1
  have hb := C.2.1
  intro σ x1 x3 x4 y0 H locs ls hm hW hl
  unfold X6_matchOf_b100 at hm
  refine lv_istore (lv' := [(5, .int y0), (0, .ref (a 0)), (1, .int x1), (3, .int x3), (4, .int x4)]) hx hb dX6_matchOf_100 hl (by decide) rfl (fun ls hl => ?_)
  refine lv_iload hx hb dX6_matchOf_102 (lv_at hl 4 rfl) ?_
  refine lv_iconst (v := 1) hx hb dX6_matchOf_104 (by decide) ?_
  refine lv_iadd hx hb dX6_matchOf_105 ?_
  refine lv_istore (lv' := [(6, .int (x4 + (1 : Int32))), (5, .int y0), (0, .ref (a 0)), (1, .int x1), (3, .int x3), (4, .int x4)]) hx hb dX6_matchOf_106 hl (by decide) rfl (fun ls hl => ?_)
  exact wX6_matchOf_b108 C hr hlk hk74 FU σ x1 x3 x4 y0 ((x4 + (1 : Int32))) _ _ _ hm hW (lv_sub hl [2, 3, 4, 5, 1, 0] rfl)
def X6_matchOf_b74 : Nat → MS → Int32 → Int32 → Int32 → Option (Int32 × MS)
  | 0, _, _, _, _ => none
  | n + 1, σ, x1, x3, x4 => if (σ 0 1) ≤ x4 then (ai x1 8 (some ((σ 9 (Int32.toNatClampNeg x1)), σ))) else (if ((x3 >>> (x4 &&& 31)) &&& (1 : Int32)) = (1 : Int32) then (X6_matchOf_b100 (X6_matchOf_b74 n) σ x1 x3 x4 (1 : Int32)) else (X6_matchOf_b100 (X6_matchOf_b74 n) σ x1 x3 x4 (0 : Int32)))
set_option maxHeartbeats 4000000 in
set_option maxRecDepth 100000 in
theorem wX6_matchOf_b74 {p : Program} {l : Launch} {e : Env} {s : State} {m : MethodId} {below : List Frame} {meth : Method} {c : Code} {D : va_G} {cy cz : ClassId} {G : GT} {A : Nat → Prop} {args : Array Value} {a : Nat → Nat} {r : Int32} {σr : MS} (C : Cx p s m args c cX6_matchOf 8 "PumpTalkModel" D cy cz G A) (hr : meth.sig.returnType = some .int) (hlk : meth.locks = false) : ∀ (n : Nat) (σ : MS) (x1 : Int32) (x3 : Int32) (x4 : Int32) (H : Heap) (locs : List Loc) (ls : Array Slot), X6_matchOf_b74 n σ x1 x3 x4 = some (r, σr) → Wd D A s.heap H locs (cM a cy σ) → lv_has ls 8 [(0, .ref (a 0)), (1, .int x1), (3, .int x3), (4, .int x4)] → W p l e (rmz 8 185) s m args below meth c H locs 0 0 (MQ below (QI D cy cz A (cM a cy σr) r) args s 0 0 A) (F0 m 74 ls []) := by
  have hx := C.1
  have hb := C.2.1
  intro n
  induction n with
  | zero =>
    intro σ x1 x3 x4 H locs ls hm
    rw [X6_matchOf_b74] at hm
    cases hm
  | succ n ih =>
    intro σ x1 x3 x4 H locs ls hm hW hl
    rw [X6_matchOf_b74] at hm
    refine lv_iload hx hb dX6_matchOf_74 (lv_at hl 3 rfl) ?_
    refine lv_aload_n hx hb dX6_matchOf_76 rfl (lv_at hl 0 rfl) ?_
    refine gM_s C hW q787 dX6_matchOf_77 ?_
    refine lv_iconst (v := 1) hx hb dX6_matchOf_80 (by decide) ?_
    refine lM_s_k (k := 1) C hW (by decide) (by decide) dX6_matchOf_81 ?_
    refine lv_icmp_ge (tgt := 226) hx hb dX6_matchOf_82 (by decide) (fun hc10 => ?_) (fun hc10 => ?_)
    · rw [if_pos hc10] at hm
      refine lv_aload_n hx hb dX6_matchOf_226 rfl (lv_at hl 0 rfl) ?_
      refine gM_with C hW q796 dX6_matchOf_227 ?_
      refine lv_iload_n hx hb dX6_matchOf_230 rfl (lv_at hl 1 rfl) ?_
      obtain ⟨hi11, hm⟩ := mi_ai hm
      refine lM_with C hW hi11 dX6_matchOf_231 ?_
      obtain ⟨rfl, rfl⟩ := Prod.mk.inj (Option.some.inj hm)
      exact en_i C hr hlk hW dX6_matchOf_232
    · rw [if_neg hc10] at hm
      refine lv_iload_n hx hb dX6_matchOf_85 rfl (lv_at hl 2 rfl) ?_
      refine lv_iload hx hb dX6_matchOf_86 (lv_at hl 3 rfl) ?_
      refine lv_ishr hx hb dX6_matchOf_88 ?_
      refine lv_iconst (v := 1) hx hb dX6_matchOf_89 (by decide) ?_
      refine lv_iand hx hb dX6_matchOf_90 ?_
      refine lv_iconst (v := 1) hx hb dX6_matchOf_91 (by decide) ?_
      refine lv_icmp_ne (tgt := 99) hx hb dX6_matchOf_92 (by decide) (fun hc12 => ?_) (fun hc12 => ?_)
      · rw [if_neg hc12] at hm
        refine lv_iconst (v := 0) hx hb dX6_matchOf_99 (by decide) ?_
        exact wX6_matchOf_b100 C hr hlk ih σ x1 x3 x4 (0 : Int32) _ _ _ hm hW (lv_sub hl [0, 1, 2, 3] rfl)
      · rw [if_pos hc12] at hm
        refine lv_iconst (v := 1) hx hb dX6_matchOf_95 (by decide) ?_
        refine lv_goto (tgt := 100) hx hb dX6_matchOf_96 (by decide) ?_
        exact wX6_matchOf_b100 C hr hlk ih σ x1 x3 x4 (1 : Int32) _ _ _ hm hW (lv_sub hl [0, 1, 2, 3] rfl)
def X6_matchOf_b46 : Nat → MS → Int32 → Int32 → Int32 → Option (Int32 × MS)
  | 0, _, _, _, _ => none
  | n + 1, σ, x1, x3, x4 => if (σ 0 1) ≤ x4 then (X6_matchOf_b74 FU σ x1 x3 (0 : Int32)) else (ai x4 8 (X6_matchOf_b46 n (su σ 9 (Int32.toNatClampNeg x4) (-1 : Int32)) x1 x3 ((x4 + (1 : Int32)))))
set_option maxHeartbeats 4000000 in
set_option maxRecDepth 100000 in
theorem wX6_matchOf_b46 {p : Program} {l : Launch} {e : Env} {s : State} {m : MethodId} {below : List Frame} {meth : Method} {c : Code} {D : va_G} {cy cz : ClassId} {G : GT} {A : Nat → Prop} {args : Array Value} {a : Nat → Nat} {r : Int32} {σr : MS} (C : Cx p s m args c cX6_matchOf 8 "PumpTalkModel" D cy cz G A) (hr : meth.sig.returnType = some .int) (hlk : meth.locks = false) : ∀ (n : Nat) (σ : MS) (x1 : Int32) (x3 : Int32) (x4 : Int32) (H : Heap) (locs : List Loc) (ls : Array Slot), X6_matchOf_b46 n σ x1 x3 x4 = some (r, σr) → Wd D A s.heap H locs (cM a cy σ) → lv_has ls 8 [(0, .ref (a 0)), (1, .int x1), (3, .int x3), (4, .int x4)] → W p l e (rmz 8 185) s m args below meth c H locs 0 0 (MQ below (QI D cy cz A (cM a cy σr) r) args s 0 0 A) (F0 m 46 ls []) := by
  have hx := C.1
  have hb := C.2.1
  intro n
  induction n with
  | zero =>
    intro σ x1 x3 x4 H locs ls hm
    rw [X6_matchOf_b46] at hm
    cases hm
  | succ n ih =>
    intro σ x1 x3 x4 H locs ls hm hW hl
    rw [X6_matchOf_b46] at hm
    refine lv_iload hx hb dX6_matchOf_46 (lv_at hl 3 rfl) ?_
    refine lv_aload_n hx hb dX6_matchOf_48 rfl (lv_at hl 0 rfl) ?_
    refine gM_s C hW q787 dX6_matchOf_49 ?_
    refine lv_iconst (v := 1) hx hb dX6_matchOf_52 (by decide) ?_
    refine lM_s_k (k := 1) C hW (by decide) (by decide) dX6_matchOf_53 ?_
    refine lv_icmp_ge (tgt := 71) hx hb dX6_matchOf_54 (by decide) (fun hc13 => ?_) (fun hc13 => ?_)
    · rw [if_pos hc13] at hm
      refine lv_iconst (v := 0) hx hb dX6_matchOf_71 (by decide) ?_
      refine lv_istore (lv' := [(4, .int (0 : Int32)), (0, .ref (a 0)), (1, .int x1), (3, .int x3)]) hx hb dX6_matchOf_72 hl (by decide) rfl (fun ls hl => ?_)
      exact wX6_matchOf_b74 C hr hlk FU σ x1 x3 (0 : Int32) _ _ _ hm hW (lv_sub hl [1, 2, 3, 0] rfl)
    · rw [if_neg hc13] at hm
      refine lv_aload_n hx hb dX6_matchOf_57 rfl (lv_at hl 0 rfl) ?_
      refine gM_with C hW q796 dX6_matchOf_58 ?_
      refine lv_iload hx hb dX6_matchOf_61 (lv_at hl 3 rfl) ?_
      refine lv_iconst (v := -1) hx hb dX6_matchOf_63 (by decide) ?_
      obtain ⟨hi14, hm⟩ := mi_ai hm
      refine tM_with C hW hi14 dX6_matchOf_64 (fun H locs hW => ?_)
      refine lv_iinc (v := (x4 + (1 : Int32))) (lv' := [(4, .int (x4 + (1 : Int32))), (0, .ref (a 0)), (1, .int x1), (3, .int x3)]) hx hb dX6_matchOf_65 hl (k := 3) rfl (congrArg (fun z : Int32 => x4 + z) (by decide)) (by decide) rfl (fun ls hl => ?_)
      refine lv_goto (tgt := 46) hx hb dX6_matchOf_68 (by decide) ?_
      exact ih (su σ 9 (Int32.toNatClampNeg x4) (-1 : Int32)) x1 x3 ((x4 + (1 : Int32))) _ _ _ hm hW (lv_sub hl [1, 2, 3, 0] rfl)
def X6_matchOf_b20 (σ : MS) : Option (Int32 × MS) := (X6_finds σ (-1000001 : Int32)).bind fun q16 => some (q16.1, q16.2)
set_option maxHeartbeats 4000000 in
set_option maxRecDepth 100000 in
theorem wX6_matchOf_b20 {p : Program} {l : Launch} {e : Env} {s : State} {m : MethodId} {below : List Frame} {meth : Method} {c : Code} {D : va_G} {cy cz : ClassId} {G : GT} {A : Nat → Prop} {args : Array Value} {a : Nat → Nat} {r : Int32} {σr : MS} (C : Cx p s m args c cX6_matchOf 8 "PumpTalkModel" D cy cz G A) (hr : meth.sig.returnType = some .int) (hlk : meth.locks = false) : ∀ (σ : MS) (H : Heap) (locs : List Loc) (ls : Array Slot), X6_matchOf_b20 σ = some (r, σr) → Wd D A s.heap H locs (cM a cy σ) → lv_has ls 8 [(0, .ref (a 0))] → W p l e (rmz 8 185) s m args below meth c H locs 0 0 (MQ below (QI D cy cz A (cM a cy σr) r) args s 0 0 A) (F0 m 20 ls []) := by
  have hx := C.1
  have hb := C.2.1
  intro σ H locs ls hm hW hl
  unfold X6_matchOf_b20 at hm
  refine lv_aload_n hx hb dX6_matchOf_20 rfl (lv_at hl 0 rfl) ?_
  refine lv_ldc hx hb C.2.2.2.1 (C.2.2.2.2.1 _ q865) dX6_matchOf_21 ?_
  obtain ⟨q16, e15, hm⟩ := mi_bind hm
  refine cs_i (q0 := 0) (As := [.int (-1000001 : Int32)]) (rest := []) C hW (c_X6_finds e15) kX6_finds q866 rfl rfl rfl rfl rfl hl.1 ⟨Nat.le_of_ble_eq_true rfl, Nat.le_of_ble_eq_true rfl⟩ ⟨Nat.le_refl 0, Nat.le_refl 0⟩ (Nat.le_of_ble_eq_true rfl) dX6_matchOf_23 (fun H locs hW => ?_)
  obtain ⟨rfl, rfl⟩ := Prod.mk.inj (Option.some.inj hm)
  exact en_i C hr hlk hW dX6_matchOf_26
def X6_matchOf (σ : MS) (p1 : Int32) (p2 : Int32) : Option (Int32 × MS) := (X6_isPerson σ p1).bind fun v18 => if v18 = (0 : Int32) then (X6_matchOf_b20 σ) else ((X6_in (Int32.toInt64 p2) (0 : Int64) (30 : Int64)).bind fun v21 => if v21 = (0 : Int32) then (X6_matchOf_b20 σ) else ((X6_findMatches σ p2).bind fun s24 => X6_matchOf_b46 FU s24 p1 ((((1 : Int32) <<< ((s24 0 1) &&& 31)) - (1 : Int32))) (0 : Int32)))
set_option maxHeartbeats 4000000 in
set_option maxRecDepth 100000 in
theorem c_X6_matchOf {l : Launch} {D : va_G} {cy cz : ClassId} {G : GT} {a : Nat → Nat} {σ : MS} {p1 : Int32} {p2 : Int32} {r : Int32} {σr : MS} (hm : X6_matchOf σ p1 p2 = some (r, σr)) : CtI l D cy cz G yX6_matchOf cX6_matchOf 8 (some .int) 8 185 [.ref (a 0), .int p1, .int p2] (cM a cy σ) (cM a cy σr) r := by
  refine ct_i (own := "PumpTalkModel") (by decide) rfl (Nat.le_of_ble_eq_true rfl) ?_
  intro p e s m below meth c ls A C hr hlk hW hl
  have hx := C.1
  have hb := C.2.1
  have hl : lv_has ls 8 [(0, .ref (a 0)), (1, .int p1), (2, .int p2)] := hl
  unfold X6_matchOf at hm
  refine lv_aload_n hx hb dX6_matchOf_0 rfl (lv_at hl 0 rfl) ?_
  refine lv_iload_n hx hb dX6_matchOf_1 rfl (lv_at hl 1 rfl) ?_
  obtain ⟨v18, e17, hm⟩ := mi_bind hm
  refine cs_i (q0 := 0) (As := [.int p1]) (rest := []) C hW (c_X6_isPerson e17) kX6_isPerson q882 rfl rfl rfl rfl rfl hl.1 ⟨Nat.le_of_ble_eq_true rfl, Nat.le_of_ble_eq_true rfl⟩ ⟨Nat.le_refl 0, Nat.le_refl 0⟩ (Nat.le_of_ble_eq_true rfl) dX6_matchOf_2 (fun H locs hW => ?_)
  refine lv_if_eq (tgt := 20) hx hb dX6_matchOf_5 (by decide) (fun hc19 => ?_) (fun hc19 => ?_)
  · rw [if_pos hc19] at hm
    exact wX6_matchOf_b20 C hr hlk σ _ _ _ hm hW (lv_sub hl [0] rfl)
  · rw [if_neg hc19] at hm
    refine lv_iload_n hx hb dX6_matchOf_8 rfl (lv_at hl 2 rfl) ?_
    refine lv_i2l hx hb dX6_matchOf_9 rfl ?_
    refine lv_lconst (v := 0) hx hb dX6_matchOf_10 (by decide) ?_
    refine lv_ldc2 hx hb C.2.2.2.1 (C.2.2.2.2.1 _ q1064) dX6_matchOf_11 ?_
    obtain ⟨v21, e20, hm⟩ := mi_bind hm
    refine cS_i (As := [.long (Int32.toInt64 p2), .long (0 : Int64), .long (30 : Int64)]) (rest := []) C hW (c_X6_in e20) kX6_in q862 rfl rfl hl.1 ⟨Nat.le_of_ble_eq_true rfl, Nat.le_of_ble_eq_true rfl⟩ ⟨Nat.le_refl 0, Nat.le_refl 0⟩ (Nat.le_of_ble_eq_true rfl) dX6_matchOf_14 (fun H locs hW => ?_)
    refine lv_if_ne (tgt := 27) hx hb dX6_matchOf_17 (by decide) (fun hc22 => ?_) (fun hc22 => ?_)
    · rw [if_neg hc22] at hm
      refine lv_aload_n hx hb dX6_matchOf_27 rfl (lv_at hl 0 rfl) ?_
      refine lv_iload_n hx hb dX6_matchOf_28 rfl (lv_at hl 2 rfl) ?_
      obtain ⟨s24, e23, hm⟩ := mi_bind hm
      refine cs_v (q0 := 0) (As := [.int p2]) (rest := []) C hW (c_X6_findMatches e23) kX6_findMatches q1065 rfl rfl rfl rfl rfl hl.1 ⟨Nat.le_of_ble_eq_true rfl, Nat.le_of_ble_eq_true rfl⟩ ⟨Nat.le_refl 0, Nat.le_refl 0⟩ (Nat.le_of_ble_eq_true rfl) dX6_matchOf_29 (fun H locs hW => ?_)
      refine lv_iconst (v := 1) hx hb dX6_matchOf_32 (by decide) ?_
      refine lv_aload_n hx hb dX6_matchOf_33 rfl (lv_at hl 0 rfl) ?_
      refine gM_s C hW q787 dX6_matchOf_34 ?_
      refine lv_iconst (v := 1) hx hb dX6_matchOf_37 (by decide) ?_
      refine lM_s_k (k := 1) C hW (by decide) (by decide) dX6_matchOf_38 ?_
      refine lv_ishl hx hb dX6_matchOf_39 ?_
      refine lv_iconst (v := 1) hx hb dX6_matchOf_40 (by decide) ?_
      refine lv_isub hx hb dX6_matchOf_41 ?_
      refine lv_istore_n (lv' := [(3, .int (((1 : Int32) <<< ((s24 0 1) &&& 31)) - (1 : Int32))), (0, .ref (a 0)), (1, .int p1), (2, .int p2)]) hx hb dX6_matchOf_42 rfl hl (by decide) rfl (fun ls hl => ?_)
      refine lv_iconst (v := 0) hx hb dX6_matchOf_43 (by decide) ?_
      refine lv_istore (lv' := [(4, .int (0 : Int32)), (3, .int (((1 : Int32) <<< ((s24 0 1) &&& 31)) - (1 : Int32))), (0, .ref (a 0)), (1, .int p1), (2, .int p2)]) hx hb dX6_matchOf_44 hl (by decide) rfl (fun ls hl => ?_)
      exact wX6_matchOf_b46 C hr hlk FU s24 p1 ((((1 : Int32) <<< ((s24 0 1) &&& 31)) - (1 : Int32))) (0 : Int32) _ _ _ hm hW (lv_sub hl [2, 3, 1, 0] rfl)
    · rw [if_pos hc22] at hm
      exact wX6_matchOf_b20 C hr hlk σ _ _ _ hm hW (lv_sub hl [0] rfl)
theorem kX6_matchOf : KM yX6_matchOf cX6_matchOf 8 (some .int) 2 := ⟨q1070, q1071, q72, q1072, by decide +kernel, by decide +kernel, by decide +kernel⟩
def X6_kindFor_b34 (σ : MS) : Option (Int32 × MS) := (X6_finds σ (-1000001 : Int32)).bind fun q2 => some (q2.1, q2.2)
set_option maxHeartbeats 4000000 in
set_option maxRecDepth 100000 in
theorem wX6_kindFor_b34 {p : Program} {l : Launch} {e : Env} {s : State} {m : MethodId} {below : List Frame} {meth : Method} {c : Code} {D : va_G} {cy cz : ClassId} {G : GT} {A : Nat → Prop} {args : Array Value} {a : Nat → Nat} {r : Int32} {σr : MS} (C : Cx p s m args c cX6_kindFor 4 "PumpTalkModel" D cy cz G A) (hr : meth.sig.returnType = some .int) (hlk : meth.locks = false) : ∀ (σ : MS) (H : Heap) (locs : List Loc) (ls : Array Slot), X6_kindFor_b34 σ = some (r, σr) → Wd D A s.heap H locs (cM a cy σ) → lv_has ls 4 [(0, .ref (a 0))] → W p l e (rmz 8 190) s m args below meth c H locs 0 0 (MQ below (QI D cy cz A (cM a cy σr) r) args s 0 0 A) (F0 m 34 ls []) := by
  have hx := C.1
  have hb := C.2.1
  intro σ H locs ls hm hW hl
  unfold X6_kindFor_b34 at hm
  refine lv_aload_n hx hb dX6_kindFor_34 rfl (lv_at hl 0 rfl) ?_
  refine lv_ldc hx hb C.2.2.2.1 (C.2.2.2.2.1 _ q865) dX6_kindFor_35 ?_
  obtain ⟨q2, e1, hm⟩ := mi_bind hm
  refine cs_i (q0 := 0) (As := [.int (-1000001 : Int32)]) (rest := []) C hW (c_X6_finds e1) kX6_finds q866 rfl rfl rfl rfl rfl hl.1 ⟨Nat.le_of_ble_eq_true rfl, Nat.le_of_ble_eq_true rfl⟩ ⟨Nat.le_refl 0, Nat.le_refl 0⟩ (Nat.le_of_ble_eq_true rfl) dX6_kindFor_37 (fun H locs hW => ?_)
  obtain ⟨rfl, rfl⟩ := Prod.mk.inj (Option.some.inj hm)
  exact en_i C hr hlk hW dX6_kindFor_40
def X6_kindFor (σ : MS) (p1 : Int32) (p2 : Int32) (p3 : Int32) : Option (Int32 × MS) := (X6_areTwo σ p1 p2).bind fun v4 => if v4 = (0 : Int32) then (X6_kindFor_b34 σ) else ((X6_isSoon p3).bind fun v7 => if v7 = (0 : Int32) then (X6_kindFor_b34 σ) else ((X6_place p1 (0 : Int32)).bind fun v10 => (X6_mostBy σ v10 (0 : Int32) (6 : Int32) p1 p2 p3).bind fun q12 => some (q12.1, q12.2)))
set_option maxHeartbeats 4000000 in
set_option maxRecDepth 100000 in
theorem c_X6_kindFor {l : Launch} {D : va_G} {cy cz : ClassId} {G : GT} {a : Nat → Nat} {σ : MS} {p1 : Int32} {p2 : Int32} {p3 : Int32} {r : Int32} {σr : MS} (hm : X6_kindFor σ p1 p2 p3 = some (r, σr)) : CtI l D cy cz G yX6_kindFor cX6_kindFor 4 (some .int) 8 190 [.ref (a 0), .int p1, .int p2, .int p3] (cM a cy σ) (cM a cy σr) r := by
  refine ct_i (own := "PumpTalkModel") (by decide) rfl (Nat.le_of_ble_eq_true rfl) ?_
  intro p e s m below meth c ls A C hr hlk hW hl
  have hx := C.1
  have hb := C.2.1
  have hl : lv_has ls 4 [(0, .ref (a 0)), (1, .int p1), (2, .int p2), (3, .int p3)] := hl
  unfold X6_kindFor at hm
  refine lv_aload_n hx hb dX6_kindFor_0 rfl (lv_at hl 0 rfl) ?_
  refine lv_iload_n hx hb dX6_kindFor_1 rfl (lv_at hl 1 rfl) ?_
  refine lv_iload_n hx hb dX6_kindFor_2 rfl (lv_at hl 2 rfl) ?_
  obtain ⟨v4, e3, hm⟩ := mi_bind hm
  refine cs_i (q0 := 0) (As := [.int p1, .int p2]) (rest := []) C hW (c_X6_areTwo e3) kX6_areTwo q935 rfl rfl rfl rfl rfl hl.1 ⟨Nat.le_of_ble_eq_true rfl, Nat.le_of_ble_eq_true rfl⟩ ⟨Nat.le_refl 0, Nat.le_refl 0⟩ (Nat.le_of_ble_eq_true rfl) dX6_kindFor_3 (fun H locs hW => ?_)
  refine lv_if_eq (tgt := 34) hx hb dX6_kindFor_6 (by decide) (fun hc5 => ?_) (fun hc5 => ?_)
  · rw [if_pos hc5] at hm
    exact wX6_kindFor_b34 C hr hlk σ _ _ _ hm hW (lv_sub hl [0] rfl)
  · rw [if_neg hc5] at hm
    refine lv_iload_n hx hb dX6_kindFor_9 rfl (lv_at hl 3 rfl) ?_
    obtain ⟨v7, e6, hm⟩ := mi_bind hm
    refine cS_i (As := [.int p3]) (rest := []) C hW (c_X6_isSoon e6) kX6_isSoon q1036 rfl rfl hl.1 ⟨Nat.le_of_ble_eq_true rfl, Nat.le_of_ble_eq_true rfl⟩ ⟨Nat.le_refl 0, Nat.le_refl 0⟩ (Nat.le_of_ble_eq_true rfl) dX6_kindFor_10 (fun H locs hW => ?_)
    refine lv_if_eq (tgt := 34) hx hb dX6_kindFor_13 (by decide) (fun hc8 => ?_) (fun hc8 => ?_)
    · rw [if_pos hc8] at hm
      exact wX6_kindFor_b34 C hr hlk σ _ _ _ hm hW (lv_sub hl [0] rfl)
    · rw [if_neg hc8] at hm
      refine lv_aload_n hx hb dX6_kindFor_16 rfl (lv_at hl 0 rfl) ?_
      refine lv_iload_n hx hb dX6_kindFor_17 rfl (lv_at hl 1 rfl) ?_
      refine lv_iconst (v := 0) hx hb dX6_kindFor_18 (by decide) ?_
      obtain ⟨v10, e9, hm⟩ := mi_bind hm
      refine cS_i (As := [.int p1, .int (0 : Int32)]) (rest := [.ref (a 0)]) C hW (c_X6_place e9) kX6_place q875 rfl rfl hl.1 ⟨Nat.le_of_ble_eq_true rfl, Nat.le_of_ble_eq_true rfl⟩ ⟨Nat.le_refl 0, Nat.le_refl 0⟩ (Nat.le_of_ble_eq_true rfl) dX6_kindFor_19 (fun H locs hW => ?_)
      refine lv_iconst (v := 0) hx hb dX6_kindFor_22 (by decide) ?_
      refine lv_bipush (v := 6) hx hb dX6_kindFor_23 (by decide) ?_
      refine lv_iload_n hx hb dX6_kindFor_25 rfl (lv_at hl 1 rfl) ?_
      refine lv_iload_n hx hb dX6_kindFor_26 rfl (lv_at hl 2 rfl) ?_
      refine lv_iload_n hx hb dX6_kindFor_27 rfl (lv_at hl 3 rfl) ?_
      obtain ⟨q12, e11, hm⟩ := mi_bind hm
      refine cs_i (q0 := 0) (As := [.int v10, .int (0 : Int32), .int (6 : Int32), .int p1, .int p2, .int p3]) (rest := []) C hW (c_X6_mostBy e11) kX6_mostBy q1056 rfl rfl rfl rfl rfl hl.1 ⟨Nat.le_of_ble_eq_true rfl, Nat.le_of_ble_eq_true rfl⟩ ⟨Nat.le_refl 0, Nat.le_refl 0⟩ (Nat.le_of_ble_eq_true rfl) dX6_kindFor_28 (fun H locs hW => ?_)
      refine lv_goto (tgt := 40) hx hb dX6_kindFor_31 (by decide) ?_
      obtain ⟨rfl, rfl⟩ := Prod.mk.inj (Option.some.inj hm)
      exact en_i C hr hlk hW dX6_kindFor_40
theorem kX6_kindFor : KM yX6_kindFor cX6_kindFor 4 (some .int) 3 := ⟨q1074, q1075, q72, q1076, by decide +kernel, by decide +kernel, by decide +kernel⟩
def X6_viewFor_b46 (σ : MS) : Option (Int32 × MS) := (X6_finds σ (-1000001 : Int32)).bind fun q2 => some (q2.1, q2.2)
set_option maxHeartbeats 4000000 in
set_option maxRecDepth 100000 in
theorem wX6_viewFor_b46 {p : Program} {l : Launch} {e : Env} {s : State} {m : MethodId} {below : List Frame} {meth : Method} {c : Code} {D : va_G} {cy cz : ClassId} {G : GT} {A : Nat → Prop} {args : Array Value} {a : Nat → Nat} {r : Int32} {σr : MS} (C : Cx p s m args c cX6_viewFor 5 "PumpTalkModel" D cy cz G A) (hr : meth.sig.returnType = some .int) (hlk : meth.locks = false) : ∀ (σ : MS) (H : Heap) (locs : List Loc) (ls : Array Slot), X6_viewFor_b46 σ = some (r, σr) → Wd D A s.heap H locs (cM a cy σ) → lv_has ls 5 [(0, .ref (a 0))] → W p l e (rmz 8 190) s m args below meth c H locs 0 0 (MQ below (QI D cy cz A (cM a cy σr) r) args s 0 0 A) (F0 m 46 ls []) := by
  have hx := C.1
  have hb := C.2.1
  intro σ H locs ls hm hW hl
  unfold X6_viewFor_b46 at hm
  refine lv_aload_n hx hb dX6_viewFor_46 rfl (lv_at hl 0 rfl) ?_
  refine lv_ldc hx hb C.2.2.2.1 (C.2.2.2.2.1 _ q865) dX6_viewFor_47 ?_
  obtain ⟨q2, e1, hm⟩ := mi_bind hm
  refine cs_i (q0 := 0) (As := [.int (-1000001 : Int32)]) (rest := []) C hW (c_X6_finds e1) kX6_finds q866 rfl rfl rfl rfl rfl hl.1 ⟨Nat.le_of_ble_eq_true rfl, Nat.le_of_ble_eq_true rfl⟩ ⟨Nat.le_refl 0, Nat.le_refl 0⟩ (Nat.le_of_ble_eq_true rfl) dX6_viewFor_49 (fun H locs hW => ?_)
  obtain ⟨rfl, rfl⟩ := Prod.mk.inj (Option.some.inj hm)
  exact en_i C hr hlk hW dX6_viewFor_52
def X6_viewFor (σ : MS) (p1 : Int32) (p2 : Int32) (p3 : Int32) (p4 : Int32) : Option (Int32 × MS) := (X6_areTwo σ p1 p2).bind fun v4 => if v4 = (0 : Int32) then (X6_viewFor_b46 σ) else ((X6_isSubject p3).bind fun v7 => if v7 = (0 : Int32) then (X6_viewFor_b46 σ) else ((X6_isSoon p4).bind fun v10 => if v10 = (0 : Int32) then (X6_viewFor_b46 σ) else ((X6_place p1 ((2 : Int32) + p3)).bind fun v13 => (X6_mostBy σ v13 (-9 : Int32) (9 : Int32) p1 p2 p4).bind fun q15 => some (q15.1, q15.2))))
set_option maxHeartbeats 4000000 in
set_option maxRecDepth 100000 in
theorem c_X6_viewFor {l : Launch} {D : va_G} {cy cz : ClassId} {G : GT} {a : Nat → Nat} {σ : MS} {p1 : Int32} {p2 : Int32} {p3 : Int32} {p4 : Int32} {r : Int32} {σr : MS} (hm : X6_viewFor σ p1 p2 p3 p4 = some (r, σr)) : CtI l D cy cz G yX6_viewFor cX6_viewFor 5 (some .int) 8 190 [.ref (a 0), .int p1, .int p2, .int p3, .int p4] (cM a cy σ) (cM a cy σr) r := by
  refine ct_i (own := "PumpTalkModel") (by decide) rfl (Nat.le_of_ble_eq_true rfl) ?_
  intro p e s m below meth c ls A C hr hlk hW hl
  have hx := C.1
  have hb := C.2.1
  have hl : lv_has ls 5 [(0, .ref (a 0)), (1, .int p1), (2, .int p2), (3, .int p3), (4, .int p4)] := hl
  unfold X6_viewFor at hm
  refine lv_aload_n hx hb dX6_viewFor_0 rfl (lv_at hl 0 rfl) ?_
  refine lv_iload_n hx hb dX6_viewFor_1 rfl (lv_at hl 1 rfl) ?_
  refine lv_iload_n hx hb dX6_viewFor_2 rfl (lv_at hl 2 rfl) ?_
  obtain ⟨v4, e3, hm⟩ := mi_bind hm
  refine cs_i (q0 := 0) (As := [.int p1, .int p2]) (rest := []) C hW (c_X6_areTwo e3) kX6_areTwo q935 rfl rfl rfl rfl rfl hl.1 ⟨Nat.le_of_ble_eq_true rfl, Nat.le_of_ble_eq_true rfl⟩ ⟨Nat.le_refl 0, Nat.le_refl 0⟩ (Nat.le_of_ble_eq_true rfl) dX6_viewFor_3 (fun H locs hW => ?_)
  refine lv_if_eq (tgt := 46) hx hb dX6_viewFor_6 (by decide) (fun hc5 => ?_) (fun hc5 => ?_)
  · rw [if_pos hc5] at hm
    exact wX6_viewFor_b46 C hr hlk σ _ _ _ hm hW (lv_sub hl [0] rfl)
  · rw [if_neg hc5] at hm
    refine lv_iload_n hx hb dX6_viewFor_9 rfl (lv_at hl 3 rfl) ?_
    obtain ⟨v7, e6, hm⟩ := mi_bind hm
    refine cS_i (As := [.int p3]) (rest := []) C hW (c_X6_isSubject e6) kX6_isSubject q923 rfl rfl hl.1 ⟨Nat.le_of_ble_eq_true rfl, Nat.le_of_ble_eq_true rfl⟩ ⟨Nat.le_refl 0, Nat.le_refl 0⟩ (Nat.le_of_ble_eq_true rfl) dX6_viewFor_10 (fun H locs hW => ?_)
    refine lv_if_eq (tgt := 46) hx hb dX6_viewFor_13 (by decide) (fun hc8 => ?_) (fun hc8 => ?_)
    · rw [if_pos hc8] at hm
      exact wX6_viewFor_b46 C hr hlk σ _ _ _ hm hW (lv_sub hl [0] rfl)
    · rw [if_neg hc8] at hm
      refine lv_iload hx hb dX6_viewFor_16 (lv_at hl 4 rfl) ?_
      obtain ⟨v10, e9, hm⟩ := mi_bind hm
      refine cS_i (As := [.int p4]) (rest := []) C hW (c_X6_isSoon e9) kX6_isSoon q1036 rfl rfl hl.1 ⟨Nat.le_of_ble_eq_true rfl, Nat.le_of_ble_eq_true rfl⟩ ⟨Nat.le_refl 0, Nat.le_refl 0⟩ (Nat.le_of_ble_eq_true rfl) dX6_viewFor_18 (fun H locs hW => ?_)
      refine lv_if_eq (tgt := 46) hx hb dX6_viewFor_21 (by decide) (fun hc11 => ?_) (fun hc11 => ?_)
      · rw [if_pos hc11] at hm
        exact wX6_viewFor_b46 C hr hlk σ _ _ _ hm hW (lv_sub hl [0] rfl)
      · rw [if_neg hc11] at hm
        refine lv_aload_n hx hb dX6_viewFor_24 rfl (lv_at hl 0 rfl) ?_
        refine lv_iload_n hx hb dX6_viewFor_25 rfl (lv_at hl 1 rfl) ?_
        refine lv_iconst (v := 2) hx hb dX6_viewFor_26 (by decide) ?_
        refine lv_iload_n hx hb dX6_viewFor_27 rfl (lv_at hl 3 rfl) ?_
        refine lv_iadd hx hb dX6_viewFor_28 ?_
        obtain ⟨v13, e12, hm⟩ := mi_bind hm
        refine cS_i (As := [.int p1, .int ((2 : Int32) + p3)]) (rest := [.ref (a 0)]) C hW (c_X6_place e12) kX6_place q875 rfl rfl hl.1 ⟨Nat.le_of_ble_eq_true rfl, Nat.le_of_ble_eq_true rfl⟩ ⟨Nat.le_refl 0, Nat.le_refl 0⟩ (Nat.le_of_ble_eq_true rfl) dX6_viewFor_29 (fun H locs hW => ?_)
        refine lv_bipush (v := -9) hx hb dX6_viewFor_32 (by decide) ?_
        refine lv_bipush (v := 9) hx hb dX6_viewFor_34 (by decide) ?_
        refine lv_iload_n hx hb dX6_viewFor_36 rfl (lv_at hl 1 rfl) ?_
        refine lv_iload_n hx hb dX6_viewFor_37 rfl (lv_at hl 2 rfl) ?_
        refine lv_iload hx hb dX6_viewFor_38 (lv_at hl 4 rfl) ?_
        obtain ⟨q15, e14, hm⟩ := mi_bind hm
        refine cs_i (q0 := 0) (As := [.int v13, .int (-9 : Int32), .int (9 : Int32), .int p1, .int p2, .int p4]) (rest := []) C hW (c_X6_mostBy e14) kX6_mostBy q1056 rfl rfl rfl rfl rfl hl.1 ⟨Nat.le_of_ble_eq_true rfl, Nat.le_of_ble_eq_true rfl⟩ ⟨Nat.le_refl 0, Nat.le_refl 0⟩ (Nat.le_of_ble_eq_true rfl) dX6_viewFor_40 (fun H locs hW => ?_)
        refine lv_goto (tgt := 52) hx hb dX6_viewFor_43 (by decide) ?_
        obtain ⟨rfl, rfl⟩ := Prod.mk.inj (Option.some.inj hm)
        exact en_i C hr hlk hW dX6_viewFor_52
theorem kX6_viewFor : KM yX6_viewFor cX6_viewFor 5 (some .int) 4 := ⟨q1078, q1079, q72, q1080, by decide +kernel, by decide +kernel, by decide +kernel⟩
def X6_voiceFor_b100 (σ : MS) (x1 : Int32) (x5 : Int32) (x6 : Int32) : Option (Int32 × MS) := (X6_place x1 (1 : Int32)).bind fun v2 => ai v2 81 (if (0 : Int32) ≤ x6 then (some (x6, su σ 0 (Int32.toNatClampNeg v2) x5)) else ((X6_finds (su σ 0 (Int32.toNatClampNeg v2) x5) (-1000004 : Int32)).bind fun q6 => some (q6.1, q6.2)))
set_option maxHeartbeats 4000000 in
set_option maxRecDepth 100000 in
theorem wX6_voiceFor_b100 {p : Program} {l : Launch} {e : Env} {s : State} {m : MethodId} {below : List Frame} {meth : Method} {c : Code} {D : va_G} {cy cz : ClassId} {G : GT} {A : Nat → Prop} {args : Array Value} {a : Nat → Nat} {r : Int32} {σr : MS} (C : Cx p s m args c cX6_voiceFor 8 "PumpTalkModel" D cy cz G A) (hr : meth.sig.returnType = some .int) (hlk : meth.locks = false) : ∀ (σ : MS) (x1 : Int32) (x5 : Int32) (x6 : Int32) (H : Heap) (locs : List Loc) (ls : Array Slot), X6_voiceFor_b100 σ x1 x5 x6 = some (r, σr) → Wd D A s.heap H locs (cM a cy σ) → lv_has ls 8 [(0, .ref (a 0)), (1, .int x1), (5, .int x5), (6, .int x6)] → W p l e (rmz 7 159) s m args below meth c H locs 0 0 (MQ below (QI D cy cz A (cM a cy σr) r) args s 0 0 A) (F0 m 100 ls []) := by
  have hx := C.1
  have hb := C.2.1
  intro σ x1 x5 x6 H locs ls hm hW hl
  unfold X6_voiceFor_b100 at hm
  refine lv_aload_n hx hb dX6_voiceFor_100 rfl (lv_at hl 0 rfl) ?_
  refine gM_s C hW q787 dX6_voiceFor_101 ?_
  refine lv_iload_n hx hb dX6_voiceFor_104 rfl (lv_at hl 1 rfl) ?_
  refine lv_iconst (v := 1) hx hb dX6_voiceFor_105 (by decide) ?_
  obtain ⟨v2, e1, hm⟩ := mi_bind hm
  refine cS_i (As := [.int x1, .int (1 : Int32)]) (rest := [.ref (a 1)]) C hW (c_X6_place e1) kX6_place q875 rfl rfl hl.1 ⟨Nat.le_of_ble_eq_true rfl, Nat.le_of_ble_eq_true rfl⟩ ⟨Nat.le_refl 0, Nat.le_refl 0⟩ (Nat.le_of_ble_eq_true rfl) dX6_voiceFor_106 (fun H locs hW => ?_)
  refine lv_iload hx hb dX6_voiceFor_109 (lv_at hl 2 rfl) ?_
  obtain ⟨hi3, hm⟩ := mi_ai hm
  refine tM_s C hW hi3 dX6_voiceFor_111 (fun H locs hW => ?_)
  refine lv_iload hx hb dX6_voiceFor_112 (lv_at hl 3 rfl) ?_
  refine lv_if_ge (tgt := 126) hx hb dX6_voiceFor_114 (by decide) (fun hc4 => ?_) (fun hc4 => ?_)
  · rw [if_pos hc4] at hm
    refine lv_iload hx hb dX6_voiceFor_126 (lv_at hl 3 rfl) ?_
    obtain ⟨rfl, rfl⟩ := Prod.mk.inj (Option.some.inj hm)
    exact en_i C hr hlk hW dX6_voiceFor_128
  · rw [if_neg hc4] at hm
    refine lv_aload_n hx hb dX6_voiceFor_117 rfl (lv_at hl 0 rfl) ?_
    refine lv_ldc hx hb C.2.2.2.1 (C.2.2.2.2.1 _ q1018) dX6_voiceFor_118 ?_
    obtain ⟨q6, e5, hm⟩ := mi_bind hm
    refine cs_i (q0 := 0) (As := [.int (-1000004 : Int32)]) (rest := []) C hW (c_X6_finds e5) kX6_finds q866 rfl rfl rfl rfl rfl hl.1 ⟨Nat.le_of_ble_eq_true rfl, Nat.le_of_ble_eq_true rfl⟩ ⟨Nat.le_refl 0, Nat.le_refl 0⟩ (Nat.le_of_ble_eq_true rfl) dX6_voiceFor_120 (fun H locs hW => ?_)
    refine lv_goto (tgt := 128) hx hb dX6_voiceFor_123 (by decide) ?_
    obtain ⟨rfl, rfl⟩ := Prod.mk.inj (Option.some.inj hm)
    exact en_i C hr hlk hW dX6_voiceFor_128
def X6_voiceFor_b50 : Nat → MS → Int32 → Int32 → Int32 → Int32 → Int32 → Int32 → Int32 → Option (Int32 × MS)
  | 0, _, _, _, _, _, _, _, _ => none
  | n + 1, σ, x1, x2, x3, x4, x5, x6, x7 => if (9 : Int32) < x7 then (X6_voiceFor_b100 σ x1 x5 x6) else (if (0 : Int32) ≤ x6 then (X6_voiceFor_b100 σ x1 x5 x6) else ((X6_place x1 (1 : Int32)).bind fun v10 => ai v10 81 ((X6_given (su σ 0 (Int32.toNatClampNeg v10) x7) x1 x2 x4).bind fun q13 => if q13.1 < x3 then (X6_voiceFor_b50 n q13.2 x1 x2 x3 x4 x5 (-1 : Int32) ((x7 + (1 : Int32)))) else (X6_voiceFor_b50 n q13.2 x1 x2 x3 x4 x5 x7 ((x7 + (1 : Int32)))))))
set_option maxHeartbeats 4000000 in
set_option maxRecDepth 100000 in
theorem wX6_voiceFor_b50 {p : Program} {l : Launch} {e : Env} {s : State} {m : MethodId} {below : List Frame} {meth : Method} {c : Code} {D : va_G} {cy cz : ClassId} {G : GT} {A : Nat → Prop} {args : Array Value} {a : Nat → Nat} {r : Int32} {σr : MS} (C : Cx p s m args c cX6_voiceFor 8 "PumpTalkModel" D cy cz G A) (hr : meth.sig.returnType = some .int) (hlk : meth.locks = false) : ∀ (n : Nat) (σ : MS) (x1 : Int32) (x2 : Int32) (x3 : Int32) (x4 : Int32) (x5 : Int32) (x6 : Int32) (x7 : Int32) (H : Heap) (locs : List Loc) (ls : Array Slot), X6_voiceFor_b50 n σ x1 x2 x3 x4 x5 x6 x7 = some (r, σr) → Wd D A s.heap H locs (cM a cy σ) → lv_has ls 8 [(0, .ref (a 0)), (1, .int x1), (2, .int x2), (3, .int x3), (4, .int x4), (5, .int x5), (6, .int x6), (7, .int x7)] → W p l e (rmz 7 159) s m args below meth c H locs 0 0 (MQ below (QI D cy cz A (cM a cy σr) r) args s 0 0 A) (F0 m 50 ls []) := by
  have hx := C.1
  have hb := C.2.1
  intro n
  induction n with
  | zero =>
    intro σ x1 x2 x3 x4 x5 x6 x7 H locs ls hm
    rw [X6_voiceFor_b50] at hm
    cases hm
  | succ n ih =>
    intro σ x1 x2 x3 x4 x5 x6 x7 H locs ls hm hW hl
    rw [X6_voiceFor_b50] at hm
    refine lv_iload hx hb dX6_voiceFor_50 (lv_at hl 7 rfl) ?_
    refine lv_bipush (v := 9) hx hb dX6_voiceFor_52 (by decide) ?_
    refine lv_icmp_gt (tgt := 100) hx hb dX6_voiceFor_54 (by decide) (fun hc7 => ?_) (fun hc7 => ?_)
    · rw [if_pos hc7] at hm
      exact wX6_voiceFor_b100 C hr hlk σ x1 x5 x6 _ _ _ hm hW (lv_sub hl [0, 1, 5, 6] rfl)
    · rw [if_neg hc7] at hm
      refine lv_iload hx hb dX6_voiceFor_57 (lv_at hl 6 rfl) ?_
      refine lv_if_ge (tgt := 100) hx hb dX6_voiceFor_59 (by decide) (fun hc8 => ?_) (fun hc8 => ?_)
      · rw [if_pos hc8] at hm
        exact wX6_voiceFor_b100 C hr hlk σ x1 x5 x6 _ _ _ hm hW (lv_sub hl [0, 1, 5, 6] rfl)
      · rw [if_neg hc8] at hm
        refine lv_aload_n hx hb dX6_voiceFor_62 rfl (lv_at hl 0 rfl) ?_
        refine gM_s C hW q787 dX6_voiceFor_63 ?_
        refine lv_iload_n hx hb dX6_voiceFor_66 rfl (lv_at hl 1 rfl) ?_
        refine lv_iconst (v := 1) hx hb dX6_voiceFor_67 (by decide) ?_
        obtain ⟨v10, e9, hm⟩ := mi_bind hm
        refine cS_i (As := [.int x1, .int (1 : Int32)]) (rest := [.ref (a 1)]) C hW (c_X6_place e9) kX6_place q875 rfl rfl hl.1 ⟨Nat.le_of_ble_eq_true rfl, Nat.le_of_ble_eq_true rfl⟩ ⟨Nat.le_refl 0, Nat.le_refl 0⟩ (Nat.le_of_ble_eq_true rfl) dX6_voiceFor_68 (fun H locs hW => ?_)
        refine lv_iload hx hb dX6_voiceFor_71 (lv_at hl 7 rfl) ?_
        obtain ⟨hi11, hm⟩ := mi_ai hm
        refine tM_s C hW hi11 dX6_voiceFor_73 (fun H locs hW => ?_)
        refine lv_aload_n hx hb dX6_voiceFor_74 rfl (lv_at hl 0 rfl) ?_
        refine lv_iload_n hx hb dX6_voiceFor_75 rfl (lv_at hl 1 rfl) ?_
        refine lv_iload_n hx hb dX6_voiceFor_76 rfl (lv_at hl 2 rfl) ?_
        refine lv_iload hx hb dX6_voiceFor_77 (lv_at hl 4 rfl) ?_
        obtain ⟨q13, e12, hm⟩ := mi_bind hm
        refine cs_i (q0 := 0) (As := [.int x1, .int x2, .int x4]) (rest := []) C hW (c_X6_given e12) kX6_given q1040 rfl rfl rfl rfl rfl hl.1 ⟨Nat.le_of_ble_eq_true rfl, Nat.le_of_ble_eq_true rfl⟩ ⟨Nat.le_refl 0, Nat.le_refl 0⟩ (Nat.le_of_ble_eq_true rfl) dX6_voiceFor_79 (fun H locs hW => ?_)
        refine lv_iload_n hx hb dX6_voiceFor_82 rfl (lv_at hl 3 rfl) ?_
        refine lv_icmp_lt (tgt := 91) hx hb dX6_voiceFor_83 (by decide) (fun hc14 => ?_) (fun hc14 => ?_)
        · rw [if_pos hc14] at hm
          refine lv_iconst (v := -1) hx hb dX6_voiceFor_91 (by decide) ?_
          refine lv_istore (lv' := [(6, .int (-1 : Int32)), (0, .ref (a 0)), (1, .int x1), (2, .int x2), (3, .int x3), (4, .int x4), (5, .int x5), (7, .int x7)]) hx hb dX6_voiceFor_92 hl (by decide) rfl (fun ls hl => ?_)
          refine lv_iinc (v := (x7 + (1 : Int32))) (lv' := [(7, .int (x7 + (1 : Int32))), (6, .int (-1 : Int32)), (0, .ref (a 0)), (1, .int x1), (2, .int x2), (3, .int x3), (4, .int x4), (5, .int x5)]) hx hb dX6_voiceFor_94 hl (k := 7) rfl (congrArg (fun z : Int32 => x7 + z) (by decide)) (by decide) rfl (fun ls hl => ?_)
          refine lv_goto (tgt := 50) hx hb dX6_voiceFor_97 (by decide) ?_
          exact ih q13.2 x1 x2 x3 x4 x5 (-1 : Int32) ((x7 + (1 : Int32))) _ _ _ hm hW (lv_sub hl [2, 3, 4, 5, 6, 7, 1, 0] rfl)
        · rw [if_neg hc14] at hm
          refine lv_iload hx hb dX6_voiceFor_86 (lv_at hl 7 rfl) ?_
          refine lv_goto (tgt := 92) hx hb dX6_voiceFor_88 (by decide) ?_
          refine lv_istore (lv' := [(6, .int x7), (0, .ref (a 0)), (1, .int x1), (2, .int x2), (3, .int x3), (4, .int x4), (5, .int x5), (7, .int x7)]) hx hb dX6_voiceFor_92 hl (by decide) rfl (fun ls hl => ?_)
          refine lv_iinc (v := (x7 + (1 : Int32))) (lv' := [(7, .int (x7 + (1 : Int32))), (6, .int x7), (0, .ref (a 0)), (1, .int x1), (2, .int x2), (3, .int x3), (4, .int x4), (5, .int x5)]) hx hb dX6_voiceFor_94 hl (k := 7) rfl (congrArg (fun z : Int32 => x7 + z) (by decide)) (by decide) rfl (fun ls hl => ?_)
          refine lv_goto (tgt := 50) hx hb dX6_voiceFor_97 (by decide) ?_
          exact ih q13.2 x1 x2 x3 x4 x5 x7 ((x7 + (1 : Int32))) _ _ _ hm hW (lv_sub hl [2, 3, 4, 5, 6, 7, 1, 0] rfl)
def X6_voiceFor_b29 (σ : MS) : Option (Int32 × MS) := (X6_finds σ (-1000001 : Int32)).bind fun q16 => some (q16.1, q16.2)
set_option maxHeartbeats 4000000 in
set_option maxRecDepth 100000 in
theorem wX6_voiceFor_b29 {p : Program} {l : Launch} {e : Env} {s : State} {m : MethodId} {below : List Frame} {meth : Method} {c : Code} {D : va_G} {cy cz : ClassId} {G : GT} {A : Nat → Prop} {args : Array Value} {a : Nat → Nat} {r : Int32} {σr : MS} (C : Cx p s m args c cX6_voiceFor 8 "PumpTalkModel" D cy cz G A) (hr : meth.sig.returnType = some .int) (hlk : meth.locks = false) : ∀ (σ : MS) (H : Heap) (locs : List Loc) (ls : Array Slot), X6_voiceFor_b29 σ = some (r, σr) → Wd D A s.heap H locs (cM a cy σ) → lv_has ls 8 [(0, .ref (a 0))] → W p l e (rmz 7 159) s m args below meth c H locs 0 0 (MQ below (QI D cy cz A (cM a cy σr) r) args s 0 0 A) (F0 m 29 ls []) := by
  have hx := C.1
  have hb := C.2.1
  intro σ H locs ls hm hW hl
  unfold X6_voiceFor_b29 at hm
  refine lv_aload_n hx hb dX6_voiceFor_29 rfl (lv_at hl 0 rfl) ?_
  refine lv_ldc hx hb C.2.2.2.1 (C.2.2.2.2.1 _ q865) dX6_voiceFor_30 ?_
  obtain ⟨q16, e15, hm⟩ := mi_bind hm
  refine cs_i (q0 := 0) (As := [.int (-1000001 : Int32)]) (rest := []) C hW (c_X6_finds e15) kX6_finds q866 rfl rfl rfl rfl rfl hl.1 ⟨Nat.le_of_ble_eq_true rfl, Nat.le_of_ble_eq_true rfl⟩ ⟨Nat.le_refl 0, Nat.le_refl 0⟩ (Nat.le_of_ble_eq_true rfl) dX6_voiceFor_32 (fun H locs hW => ?_)
  obtain ⟨rfl, rfl⟩ := Prod.mk.inj (Option.some.inj hm)
  exact en_i C hr hlk hW dX6_voiceFor_35
def X6_voiceFor (σ : MS) (p1 : Int32) (p2 : Int32) (p3 : Int32) (p4 : Int32) : Option (Int32 × MS) := (X6_areTwo σ p1 p2).bind fun v18 => if v18 = (0 : Int32) then (X6_voiceFor_b29 σ) else ((X6_in (Int32.toInt64 p3) (0 : Int64) (9999 : Int64)).bind fun v21 => if v21 = (0 : Int32) then (X6_voiceFor_b29 σ) else ((X6_isSoon p4).bind fun v24 => if v24 = (0 : Int32) then (X6_voiceFor_b29 σ) else ((X6_its σ p1 (1 : Int32)).bind fun v27 => X6_voiceFor_b50 FU σ p1 p2 p3 p4 v27 (-1 : Int32) (0 : Int32))))
set_option maxHeartbeats 4000000 in
set_option maxRecDepth 100000 in
theorem c_X6_voiceFor {l : Launch} {D : va_G} {cy cz : ClassId} {G : GT} {a : Nat → Nat} {σ : MS} {p1 : Int32} {p2 : Int32} {p3 : Int32} {p4 : Int32} {r : Int32} {σr : MS} (hm : X6_voiceFor σ p1 p2 p3 p4 = some (r, σr)) : CtI l D cy cz G yX6_voiceFor cX6_voiceFor 8 (some .int) 7 159 [.ref (a 0), .int p1, .int p2, .int p3, .int p4] (cM a cy σ) (cM a cy σr) r := by
  refine ct_i (own := "PumpTalkModel") (by decide) rfl (Nat.le_of_ble_eq_true rfl) ?_
  intro p e s m below meth c ls A C hr hlk hW hl
  have hx := C.1
  have hb := C.2.1
  have hl : lv_has ls 8 [(0, .ref (a 0)), (1, .int p1), (2, .int p2), (3, .int p3), (4, .int p4)] := hl
  unfold X6_voiceFor at hm
  refine lv_aload_n hx hb dX6_voiceFor_0 rfl (lv_at hl 0 rfl) ?_
  refine lv_iload_n hx hb dX6_voiceFor_1 rfl (lv_at hl 1 rfl) ?_
  refine lv_iload_n hx hb dX6_voiceFor_2 rfl (lv_at hl 2 rfl) ?_
  obtain ⟨v18, e17, hm⟩ := mi_bind hm
  refine cs_i (q0 := 0) (As := [.int p1, .int p2]) (rest := []) C hW (c_X6_areTwo e17) kX6_areTwo q935 rfl rfl rfl rfl rfl hl.1 ⟨Nat.le_of_ble_eq_true rfl, Nat.le_of_ble_eq_true rfl⟩ ⟨Nat.le_refl 0, Nat.le_refl 0⟩ (Nat.le_of_ble_eq_true rfl) dX6_voiceFor_3 (fun H locs hW => ?_)
  refine lv_if_eq (tgt := 29) hx hb dX6_voiceFor_6 (by decide) (fun hc19 => ?_) (fun hc19 => ?_)
  · rw [if_pos hc19] at hm
    exact wX6_voiceFor_b29 C hr hlk σ _ _ _ hm hW (lv_sub hl [0] rfl)
  · rw [if_neg hc19] at hm
    refine lv_iload_n hx hb dX6_voiceFor_9 rfl (lv_at hl 3 rfl) ?_
    refine lv_i2l hx hb dX6_voiceFor_10 rfl ?_
    refine lv_lconst (v := 0) hx hb dX6_voiceFor_11 (by decide) ?_
    refine lv_ldc2 hx hb C.2.2.2.1 (C.2.2.2.2.1 _ q1085) dX6_voiceFor_12 ?_
    obtain ⟨v21, e20, hm⟩ := mi_bind hm
    refine cS_i (As := [.long (Int32.toInt64 p3), .long (0 : Int64), .long (9999 : Int64)]) (rest := []) C hW (c_X6_in e20) kX6_in q862 rfl rfl hl.1 ⟨Nat.le_of_ble_eq_true rfl, Nat.le_of_ble_eq_true rfl⟩ ⟨Nat.le_refl 0, Nat.le_refl 0⟩ (Nat.le_of_ble_eq_true rfl) dX6_voiceFor_15 (fun H locs hW => ?_)
    refine lv_if_eq (tgt := 29) hx hb dX6_voiceFor_18 (by decide) (fun hc22 => ?_) (fun hc22 => ?_)
    · rw [if_pos hc22] at hm
      exact wX6_voiceFor_b29 C hr hlk σ _ _ _ hm hW (lv_sub hl [0] rfl)
    · rw [if_neg hc22] at hm
      refine lv_iload hx hb dX6_voiceFor_21 (lv_at hl 4 rfl) ?_
      obtain ⟨v24, e23, hm⟩ := mi_bind hm
      refine cS_i (As := [.int p4]) (rest := []) C hW (c_X6_isSoon e23) kX6_isSoon q1036 rfl rfl hl.1 ⟨Nat.le_of_ble_eq_true rfl, Nat.le_of_ble_eq_true rfl⟩ ⟨Nat.le_refl 0, Nat.le_refl 0⟩ (Nat.le_of_ble_eq_true rfl) dX6_voiceFor_23 (fun H locs hW => ?_)
      refine lv_if_ne (tgt := 36) hx hb dX6_voiceFor_26 (by decide) (fun hc25 => ?_) (fun hc25 => ?_)
      · rw [if_neg hc25] at hm
        refine lv_aload_n hx hb dX6_voiceFor_36 rfl (lv_at hl 0 rfl) ?_
        refine lv_iload_n hx hb dX6_voiceFor_37 rfl (lv_at hl 1 rfl) ?_
        refine lv_iconst (v := 1) hx hb dX6_voiceFor_38 (by decide) ?_
        obtain ⟨v27, e26, hm⟩ := mi_bind hm
        refine cs_i (q0 := 0) (As := [.int p1, .int (1 : Int32)]) (rest := []) C hW (c_X6_its e26) kX6_its q887 rfl rfl rfl rfl rfl hl.1 ⟨Nat.le_of_ble_eq_true rfl, Nat.le_of_ble_eq_true rfl⟩ ⟨Nat.le_refl 0, Nat.le_refl 0⟩ (Nat.le_of_ble_eq_true rfl) dX6_voiceFor_39 (fun H locs hW => ?_)
        refine lv_istore (lv' := [(5, .int v27), (0, .ref (a 0)), (1, .int p1), (2, .int p2), (3, .int p3), (4, .int p4)]) hx hb dX6_voiceFor_42 hl (by decide) rfl (fun ls hl => ?_)
        refine lv_iconst (v := -1) hx hb dX6_voiceFor_44 (by decide) ?_
        refine lv_istore (lv' := [(6, .int (-1 : Int32)), (5, .int v27), (0, .ref (a 0)), (1, .int p1), (2, .int p2), (3, .int p3), (4, .int p4)]) hx hb dX6_voiceFor_45 hl (by decide) rfl (fun ls hl => ?_)
        refine lv_iconst (v := 0) hx hb dX6_voiceFor_47 (by decide) ?_
        refine lv_istore (lv' := [(7, .int (0 : Int32)), (6, .int (-1 : Int32)), (5, .int v27), (0, .ref (a 0)), (1, .int p1), (2, .int p2), (3, .int p3), (4, .int p4)]) hx hb dX6_voiceFor_48 hl (by decide) rfl (fun ls hl => ?_)
        exact wX6_voiceFor_b50 C hr hlk FU σ p1 p2 p3 p4 v27 (-1 : Int32) (0 : Int32) _ _ _ hm hW (lv_sub hl [3, 4, 5, 6, 7, 2, 1, 0] rfl)
      · rw [if_pos hc25] at hm
        exact wX6_voiceFor_b29 C hr hlk σ _ _ _ hm hW (lv_sub hl [0] rfl)
theorem kX6_voiceFor : KM yX6_voiceFor cX6_voiceFor 8 (some .int) 4 := ⟨q1082, q1083, q72, q1084, by decide +kernel, by decide +kernel, by decide +kernel⟩
def X6_isOne (p1 : Int32) : Option (Int32) := (X6_in (Int32.toInt64 p1) (0 : Int64) (3 : Int64)).bind fun v2 => zb v2 (some v2)
set_option maxHeartbeats 4000000 in
set_option maxRecDepth 100000 in
theorem c_X6_isOne {l : Launch} {D : va_G} {cy cz : ClassId} {G : GT} {p1 : Int32} {r : Int32} (hm : X6_isOne p1 = some r) : CtI l D cy cz G yX6_isOne cX6_isOne 1 (some .boolean) 1 25 [.int p1] ([] : va_W) ([] : va_W) r := by
  refine ct_i (own := "PumpTalkModel") (by decide) rfl (Nat.le_of_ble_eq_true rfl) ?_
  intro p e s m below meth c ls A C hr hlk hW hl
  have hx := C.1
  have hb := C.2.1
  have hl : lv_has ls 1 [(0, .int p1)] := hl
  unfold X6_isOne at hm
  refine lv_iload_n hx hb dX6_isOne_0 rfl (lv_at hl 0 rfl) ?_
  refine lv_i2l hx hb dX6_isOne_1 rfl ?_
  refine lv_lconst (v := 0) hx hb dX6_isOne_2 (by decide) ?_
  refine lv_ldc2 hx hb C.2.2.2.1 (C.2.2.2.2.1 _ q1101) dX6_isOne_3 ?_
  obtain ⟨v2, e1, hm⟩ := mi_bind hm
  refine cS_i (As := [.long (Int32.toInt64 p1), .long (0 : Int64), .long (3 : Int64)]) (rest := []) C hW (c_X6_in e1) kX6_in q862 rfl rfl hl.1 ⟨Nat.le_of_ble_eq_true rfl, Nat.le_of_ble_eq_true rfl⟩ ⟨Nat.le_refl 0, Nat.le_refl 0⟩ (Nat.le_of_ble_eq_true rfl) dX6_isOne_6 (fun H locs hW => ?_)
  obtain ⟨hz3, hm⟩ := mi_zb hm
  obtain rfl := Option.some.inj hm
  exact en_z C hr hlk hz3.1 hW dX6_isOne_9
theorem kX6_isOne : KS yX6_isOne cX6_isOne 1 (some .boolean) 1 := ⟨q1099, q72, q1100, by decide +kernel, by decide +kernel, by decide +kernel⟩
def X6_wrong (σ : MS) (p1 : Int32) : Option (Int32) := (X6_isOne p1).bind fun v2 => if v2 = (0 : Int32) then (some (-1000001 : Int32)) else (ai p1 4 (if (σ 18 (Int32.toNatClampNeg p1)) = (0 : Int32) then (some (-1000006 : Int32)) else (some (0 : Int32))))
set_option maxHeartbeats 4000000 in
set_option maxRecDepth 100000 in
theorem c_X6_wrong {l : Launch} {D : va_G} {cy cz : ClassId} {G : GT} {a : Nat → Nat} {σ : MS} {p1 : Int32} {r : Int32} (hm : X6_wrong σ p1 = some r) : CtI l D cy cz G yX6_wrong cX6_wrong 2 (some .int) 2 45 [.ref (a 0), .int p1] (cM a cy σ) (cM a cy σ) r := by
  refine ct_i (own := "PumpTalkModel") (by decide) rfl (Nat.le_of_ble_eq_true rfl) ?_
  intro p e s m below meth c ls A C hr hlk hW hl
  have hx := C.1
  have hb := C.2.1
  have hl : lv_has ls 2 [(0, .ref (a 0)), (1, .int p1)] := hl
  unfold X6_wrong at hm
  refine lv_iload_n hx hb dX6_wrong_0 rfl (lv_at hl 1 rfl) ?_
  obtain ⟨v2, e1, hm⟩ := mi_bind hm
  refine cS_i (As := [.int p1]) (rest := []) C hW (c_X6_isOne e1) kX6_isOne q1098 rfl rfl hl.1 ⟨Nat.le_of_ble_eq_true rfl, Nat.le_of_ble_eq_true rfl⟩ ⟨Nat.le_refl 0, Nat.le_refl 0⟩ (Nat.le_of_ble_eq_true rfl) dX6_wrong_1 (fun H locs hW => ?_)
  refine lv_if_ne (tgt := 12) hx hb dX6_wrong_4 (by decide) (fun hc3 => ?_) (fun hc3 => ?_)
  · rw [if_neg hc3] at hm
    refine lv_aload_n hx hb dX6_wrong_12 rfl (lv_at hl 0 rfl) ?_
    refine gM_bitsOf C hW q805 dX6_wrong_13 ?_
    refine lv_iload_n hx hb dX6_wrong_16 rfl (lv_at hl 1 rfl) ?_
    obtain ⟨hi4, hm⟩ := mi_ai hm
    refine lM_bitsOf C hW hi4 dX6_wrong_17 ?_
    refine lv_if_ne (tgt := 27) hx hb dX6_wrong_18 (by decide) (fun hc5 => ?_) (fun hc5 => ?_)
    · rw [if_neg hc5] at hm
      refine lv_iconst (v := 0) hx hb dX6_wrong_27 (by decide) ?_
      obtain rfl := Option.some.inj hm
      exact en_i C hr hlk hW dX6_wrong_28
    · rw [if_pos hc5] at hm
      refine lv_ldcw hx hb C.2.2.2.1 (C.2.2.2.2.1 _ q1102) dX6_wrong_21 ?_
      refine lv_goto (tgt := 28) hx hb dX6_wrong_24 (by decide) ?_
      obtain rfl := Option.some.inj hm
      exact en_i C hr hlk hW dX6_wrong_28
  · rw [if_pos hc3] at hm
    refine lv_ldc hx hb C.2.2.2.1 (C.2.2.2.2.1 _ q865) dX6_wrong_7 ?_
    refine lv_goto (tgt := 28) hx hb dX6_wrong_9 (by decide) ?_
    obtain rfl := Option.some.inj hm
    exact en_i C hr hlk hW dX6_wrong_28
theorem kX6_wrong : KM yX6_wrong cX6_wrong 2 (some .int) 1 := ⟨q1096, q47, q72, q1097, by decide +kernel, by decide +kernel, by decide +kernel⟩
def X6_wrongOne (σ : MS) (p1 : Int32) (p2 : Int32) : Option (Int32) := (X6_wrong σ p1).bind fun v2 => if v2 = (0 : Int32) then ((X6_isPerson σ p2).bind fun v5 => if v5 = (0 : Int32) then (some (-1000001 : Int32)) else (some (0 : Int32))) else (some v2)
set_option maxHeartbeats 4000000 in
set_option maxRecDepth 100000 in
theorem c_X6_wrongOne {l : Launch} {D : va_G} {cy cz : ClassId} {G : GT} {a : Nat → Nat} {σ : MS} {p1 : Int32} {p2 : Int32} {r : Int32} (hm : X6_wrongOne σ p1 p2 = some r) : CtI l D cy cz G yX6_wrongOne cX6_wrongOne 4 (some .int) 3 66 [.ref (a 0), .int p1, .int p2] (cM a cy σ) (cM a cy σ) r := by
  refine ct_i (own := "PumpTalkModel") (by decide) rfl (Nat.le_of_ble_eq_true rfl) ?_
  intro p e s m below meth c ls A C hr hlk hW hl
  have hx := C.1
  have hb := C.2.1
  have hl : lv_has ls 4 [(0, .ref (a 0)), (1, .int p1), (2, .int p2)] := hl
  unfold X6_wrongOne at hm
  refine lv_aload_n hx hb dX6_wrongOne_0 rfl (lv_at hl 0 rfl) ?_
  refine lv_iload_n hx hb dX6_wrongOne_1 rfl (lv_at hl 1 rfl) ?_
  obtain ⟨v2, e1, hm⟩ := mi_bind hm
  refine cs_i (q0 := 0) (As := [.int p1]) (rest := []) C hW (c_X6_wrong e1) kX6_wrong q1094 rfl rfl rfl rfl rfl hl.1 ⟨Nat.le_of_ble_eq_true rfl, Nat.le_of_ble_eq_true rfl⟩ ⟨Nat.le_refl 0, Nat.le_refl 0⟩ (Nat.le_of_ble_eq_true rfl) dX6_wrongOne_2 (fun H locs hW => ?_)
  refine lv_istore_n (lv' := [(3, .int v2), (0, .ref (a 0)), (1, .int p1), (2, .int p2)]) hx hb dX6_wrongOne_5 rfl hl (by decide) rfl (fun ls hl => ?_)
  refine lv_iload_n hx hb dX6_wrongOne_6 rfl (lv_at hl 0 rfl) ?_
  refine lv_if_eq (tgt := 14) hx hb dX6_wrongOne_7 (by decide) (fun hc3 => ?_) (fun hc3 => ?_)
  · rw [if_pos hc3] at hm
    refine lv_aload_n hx hb dX6_wrongOne_14 rfl (lv_at hl 1 rfl) ?_
    refine lv_iload_n hx hb dX6_wrongOne_15 rfl (lv_at hl 3 rfl) ?_
    obtain ⟨v5, e4, hm⟩ := mi_bind hm
    refine cs_i (q0 := 0) (As := [.int p2]) (rest := []) C hW (c_X6_isPerson e4) kX6_isPerson q882 rfl rfl rfl rfl rfl hl.1 ⟨Nat.le_of_ble_eq_true rfl, Nat.le_of_ble_eq_true rfl⟩ ⟨Nat.le_refl 0, Nat.le_refl 0⟩ (Nat.le_of_ble_eq_true rfl) dX6_wrongOne_16 (fun H locs hW => ?_)
    refine lv_if_eq (tgt := 26) hx hb dX6_wrongOne_19 (by decide) (fun hc6 => ?_) (fun hc6 => ?_)
    · rw [if_pos hc6] at hm
      refine lv_ldc hx hb C.2.2.2.1 (C.2.2.2.2.1 _ q865) dX6_wrongOne_26 ?_
      obtain rfl := Option.some.inj hm
      exact en_i C hr hlk hW dX6_wrongOne_28
    · rw [if_neg hc6] at hm
      refine lv_iconst (v := 0) hx hb dX6_wrongOne_22 (by decide) ?_
      refine lv_goto (tgt := 28) hx hb dX6_wrongOne_23 (by decide) ?_
      obtain rfl := Option.some.inj hm
      exact en_i C hr hlk hW dX6_wrongOne_28
  · rw [if_neg hc3] at hm
    refine lv_iload_n hx hb dX6_wrongOne_10 rfl (lv_at hl 0 rfl) ?_
    refine lv_goto (tgt := 28) hx hb dX6_wrongOne_11 (by decide) ?_
    obtain rfl := Option.some.inj hm
    exact en_i C hr hlk hW dX6_wrongOne_28
theorem kX6_wrongOne : KM yX6_wrongOne cX6_wrongOne 4 (some .int) 2 := ⟨q1092, q46, q72, q1093, by decide +kernel, by decide +kernel, by decide +kernel⟩
def X6_isTold_b78 (σ : MS) (y1 : Int32) : Option (Int32 × MS) := (X6_takesBack σ y1).bind fun q2 => if q2.1 = (1 : Int32) then (some ((1 : Int32), q2.2)) else (some ((0 : Int32), q2.2))
set_option maxHeartbeats 4000000 in
set_option maxRecDepth 100000 in
theorem wX6_isTold_b78 {p : Program} {l : Launch} {e : Env} {s : State} {m : MethodId} {below : List Frame} {meth : Method} {c : Code} {D : va_G} {cy cz : ClassId} {G : GT} {A : Nat → Prop} {args : Array Value} {a : Nat → Nat} {r : Int32} {σr : MS} (C : Cx p s m args c cX6_isTold 5 "PumpTalkModel" D cy cz G A) (hr : meth.sig.returnType = some .boolean) (hlk : meth.locks = false) : ∀ (σ : MS) (y1 : Int32) (H : Heap) (locs : List Loc) (ls : Array Slot), X6_isTold_b78 σ y1 = some (r, σr) → Wd D A s.heap H locs (cM a cy σ) → lv_has ls 5 [] → W p l e (rmz 5 114) s m args below meth c H locs 0 0 (MQ below (QI D cy cz A (cM a cy σr) r) args s 0 0 A) (F0 m 78 ls [.int y1, .ref (a 0)]) := by
  have hx := C.1
  have hb := C.2.1
  intro σ y1 H locs ls hm hW hl
  unfold X6_isTold_b78 at hm
  obtain ⟨q2, e1, hm⟩ := mi_bind hm
  refine cs_i (q0 := 0) (As := [.int y1]) (rest := []) C hW (c_X6_takesBack e1) kX6_takesBack q1002 rfl rfl rfl rfl rfl hl.1 ⟨Nat.le_of_ble_eq_true rfl, Nat.le_of_ble_eq_true rfl⟩ ⟨Nat.le_refl 0, Nat.le_refl 0⟩ (Nat.le_of_ble_eq_true rfl) dX6_isTold_78 (fun H locs hW => ?_)
  refine lv_iconst (v := 1) hx hb dX6_isTold_81 (by decide) ?_
  refine lv_icmp_ne (tgt := 89) hx hb dX6_isTold_82 (by decide) (fun hc3 => ?_) (fun hc3 => ?_)
  · rw [if_neg hc3] at hm
    refine lv_iconst (v := 0) hx hb dX6_isTold_89 (by decide) ?_
    obtain ⟨rfl, rfl⟩ := Prod.mk.inj (Option.some.inj hm)
    exact en_z C hr hlk rfl hW dX6_isTold_90
  · rw [if_pos hc3] at hm
    refine lv_iconst (v := 1) hx hb dX6_isTold_85 (by decide) ?_
    refine lv_goto (tgt := 90) hx hb dX6_isTold_86 (by decide) ?_
    obtain ⟨rfl, rfl⟩ := Prod.mk.inj (Option.some.inj hm)
    exact en_z C hr hlk rfl hW dX6_isTold_90
def X6_isTold_b68 (σ : MS) (x2 : Int32) : Option (Int32 × MS) := if x2 = (0 : Int32) then (X6_isTold_b78 σ (0 : Int32)) else (X6_isTold_b78 σ (1 : Int32))
set_option maxHeartbeats 4000000 in
set_option maxRecDepth 100000 in
theorem wX6_isTold_b68 {p : Program} {l : Launch} {e : Env} {s : State} {m : MethodId} {below : List Frame} {meth : Method} {c : Code} {D : va_G} {cy cz : ClassId} {G : GT} {A : Nat → Prop} {args : Array Value} {a : Nat → Nat} {r : Int32} {σr : MS} (C : Cx p s m args c cX6_isTold 5 "PumpTalkModel" D cy cz G A) (hr : meth.sig.returnType = some .boolean) (hlk : meth.locks = false) : ∀ (σ : MS) (x2 : Int32) (H : Heap) (locs : List Loc) (ls : Array Slot), X6_isTold_b68 σ x2 = some (r, σr) → Wd D A s.heap H locs (cM a cy σ) → lv_has ls 5 [(0, .ref (a 0)), (2, .int x2)] → W p l e (rmz 5 114) s m args below meth c H locs 0 0 (MQ below (QI D cy cz A (cM a cy σr) r) args s 0 0 A) (F0 m 68 ls []) := by
  have hx := C.1
  have hb := C.2.1
  intro σ x2 H locs ls hm hW hl
  unfold X6_isTold_b68 at hm
  refine lv_aload_n hx hb dX6_isTold_68 rfl (lv_at hl 0 rfl) ?_
  refine lv_iload_n hx hb dX6_isTold_69 rfl (lv_at hl 1 rfl) ?_
  refine lv_if_eq (tgt := 77) hx hb dX6_isTold_70 (by decide) (fun hc4 => ?_) (fun hc4 => ?_)
  · rw [if_pos hc4] at hm
    refine lv_iconst (v := 0) hx hb dX6_isTold_77 (by decide) ?_
    exact wX6_isTold_b78 C hr hlk σ (0 : Int32) _ _ _ hm hW (lv_sub hl [] rfl)
  · rw [if_neg hc4] at hm
    refine lv_iconst (v := 1) hx hb dX6_isTold_73 (by decide) ?_
    refine lv_goto (tgt := 78) hx hb dX6_isTold_74 (by decide) ?_
    exact wX6_isTold_b78 C hr hlk σ (1 : Int32) _ _ _ hm hW (lv_sub hl [] rfl)
def X6_isTold_b57 (k8 : MS → Int32 → Int32 → Int32 → Option (Int32 × MS)) (σ : MS) (x1 : Int32) (x3 : Int32) (y0 : Int32) : Option (Int32 × MS) := (X6_minute σ).bind fun s6 => k8 s6 x1 y0 ((x3 + (1 : Int32)))
set_option maxHeartbeats 4000000 in
set_option maxRecDepth 100000 in
theorem wX6_isTold_b57 {p : Program} {l : Launch} {e : Env} {s : State} {m : MethodId} {below : List Frame} {meth : Method} {c : Code} {D : va_G} {cy cz : ClassId} {G : GT} {A : Nat → Prop} {args : Array Value} {a : Nat → Nat} {r : Int32} {σr : MS} (C : Cx p s m args c cX6_isTold 5 "PumpTalkModel" D cy cz G A) (hr : meth.sig.returnType = some .boolean) (hlk : meth.locks = false) {k8 : MS → Int32 → Int32 → Int32 → Option (Int32 × MS)} (hk8 : ∀ (σ : MS) (x1 : Int32) (x2 : Int32) (x3 : Int32) (H : Heap) (locs : List Loc) (ls : Array Slot), k8 σ x1 x2 x3 = some (r, σr) → Wd D A s.heap H locs (cM a cy σ) → lv_has ls 5 [(0, .ref (a 0)), (1, .int x1), (2, .int x2), (3, .int x3)] → W p l e (rmz 5 114) s m args below meth c H locs 0 0 (MQ below (QI D cy cz A (cM a cy σr) r) args s 0 0 A) (F0 m 8 ls [])) : ∀ (σ : MS) (x1 : Int32) (x3 : Int32) (y0 : Int32) (H : Heap) (locs : List Loc) (ls : Array Slot), X6_isTold_b57 k8 σ x1 x3 y0 = some (r, σr) → Wd D A s.heap H locs (cM a cy σ) → lv_has ls 5 [(0, .ref (a 0)), (1, .int x1), (3, .int x3)] → W p l e (rmz 5 114) s m args below meth c H locs 0 0 (MQ below (QI D cy cz A (cM a cy σr) r) args s 0 0 A) (F0 m 57 ls [.int y0]) := by
  have hx := C.1
  have hb := C.2.1
  intro σ x1 x3 y0 H locs ls hm hW hl
  unfold X6_isTold_b57 at hm
  refine lv_istore_n (lv' := [(2, .int y0), (0, .ref (a 0)), (1, .int x1), (3, .int x3)]) hx hb dX6_isTold_57 rfl hl (by decide) rfl (fun ls hl => ?_)
  refine lv_aload_n hx hb dX6_isTold_58 rfl (lv_at hl 1 rfl) ?_
  obtain ⟨s6, e5, hm⟩ := mi_bind hm
  refine cs_v (q0 := 0) (As := []) (rest := []) C hW (c_X6_minute e5) kX6_minute q969 rfl rfl rfl rfl rfl hl.1 ⟨Nat.le_of_ble_eq_true rfl, Nat.le_of_ble_eq_true rfl⟩ ⟨Nat.le_refl 0, Nat.le_refl 0⟩ (Nat.le_of_ble_eq_true rfl) dX6_isTold_59 (fun H locs hW => ?_)
  refine lv_iinc (v := (x3 + (1 : Int32))) (lv' := [(3, .int (x3 + (1 : Int32))), (2, .int y0), (0, .ref (a 0)), (1, .int x1)]) hx hb dX6_isTold_62 hl (k := 3) rfl (congrArg (fun z : Int32 => x3 + z) (by decide)) (by decide) rfl (fun ls hl => ?_)
  refine lv_goto (tgt := 8) hx hb dX6_isTold_65 (by decide) ?_
  exact hk8 s6 x1 y0 ((x3 + (1 : Int32))) _ _ _ hm hW (lv_sub hl [2, 3, 1, 0] rfl)
def X6_isTold_b8 : Nat → MS → Int32 → Int32 → Int32 → Option (Int32 × MS)
  | 0, _, _, _, _ => none
  | n + 1, σ, x1, x2, x3 => ai x1 4 (if (σ 19 (Int32.toNatClampNeg x1)) ≤ x3 then (X6_isTold_b68 σ x2) else (if x2 = (0 : Int32) then (X6_isTold_b68 σ x2) else (ai (((40 : Int32) * x1) + x3) 160 (if (σ 20 (Int32.toNatClampNeg (((40 : Int32) * x1) + x3))) = (-1 : Int32) then (X6_isTold_b57 (X6_isTold_b8 n) σ x1 x3 (1 : Int32)) else (if (σ 20 (Int32.toNatClampNeg (((40 : Int32) * x1) + x3))) = (σ 0 2) then (X6_isTold_b57 (X6_isTold_b8 n) σ x1 x3 (1 : Int32)) else (X6_isTold_b57 (X6_isTold_b8 n) σ x1 x3 (0 : Int32)))))))
set_option maxHeartbeats 4000000 in
set_option maxRecDepth 100000 in
theorem wX6_isTold_b8 {p : Program} {l : Launch} {e : Env} {s : State} {m : MethodId} {below : List Frame} {meth : Method} {c : Code} {D : va_G} {cy cz : ClassId} {G : GT} {A : Nat → Prop} {args : Array Value} {a : Nat → Nat} {r : Int32} {σr : MS} (C : Cx p s m args c cX6_isTold 5 "PumpTalkModel" D cy cz G A) (hr : meth.sig.returnType = some .boolean) (hlk : meth.locks = false) : ∀ (n : Nat) (σ : MS) (x1 : Int32) (x2 : Int32) (x3 : Int32) (H : Heap) (locs : List Loc) (ls : Array Slot), X6_isTold_b8 n σ x1 x2 x3 = some (r, σr) → Wd D A s.heap H locs (cM a cy σ) → lv_has ls 5 [(0, .ref (a 0)), (1, .int x1), (2, .int x2), (3, .int x3)] → W p l e (rmz 5 114) s m args below meth c H locs 0 0 (MQ below (QI D cy cz A (cM a cy σr) r) args s 0 0 A) (F0 m 8 ls []) := by
  have hx := C.1
  have hb := C.2.1
  intro n
  induction n with
  | zero =>
    intro σ x1 x2 x3 H locs ls hm
    rw [X6_isTold_b8] at hm
    cases hm
  | succ n ih =>
    intro σ x1 x2 x3 H locs ls hm hW hl
    rw [X6_isTold_b8] at hm
    refine lv_iload_n hx hb dX6_isTold_8 rfl (lv_at hl 3 rfl) ?_
    refine lv_aload_n hx hb dX6_isTold_9 rfl (lv_at hl 0 rfl) ?_
    refine gM_sizeOf C hW q806 dX6_isTold_10 ?_
    refine lv_iload_n hx hb dX6_isTold_13 rfl (lv_at hl 1 rfl) ?_
    obtain ⟨hi7, hm⟩ := mi_ai hm
    refine lM_sizeOf C hW hi7 dX6_isTold_14 ?_
    refine lv_icmp_ge (tgt := 68) hx hb dX6_isTold_15 (by decide) (fun hc8 => ?_) (fun hc8 => ?_)
    · rw [if_pos hc8] at hm
      exact wX6_isTold_b68 C hr hlk σ x2 _ _ _ hm hW (lv_sub hl [0, 2] rfl)
    · rw [if_neg hc8] at hm
      refine lv_iload_n hx hb dX6_isTold_18 rfl (lv_at hl 2 rfl) ?_
      refine lv_if_eq (tgt := 68) hx hb dX6_isTold_19 (by decide) (fun hc9 => ?_) (fun hc9 => ?_)
      · rw [if_pos hc9] at hm
        exact wX6_isTold_b68 C hr hlk σ x2 _ _ _ hm hW (lv_sub hl [0, 2] rfl)
      · rw [if_neg hc9] at hm
        refine lv_aload_n hx hb dX6_isTold_22 rfl (lv_at hl 0 rfl) ?_
        refine gM_numbers C hW q807 dX6_isTold_23 ?_
        refine lv_bipush (v := 40) hx hb dX6_isTold_26 (by decide) ?_
        refine lv_iload_n hx hb dX6_isTold_28 rfl (lv_at hl 1 rfl) ?_
        refine lv_imul hx hb dX6_isTold_29 ?_
        refine lv_iload_n hx hb dX6_isTold_30 rfl (lv_at hl 3 rfl) ?_
        refine lv_iadd hx hb dX6_isTold_31 ?_
        obtain ⟨hi10, hm⟩ := mi_ai hm
        refine lM_numbers C hW hi10 dX6_isTold_32 ?_
        refine lv_istore (lv' := [(4, .int (σ 20 (Int32.toNatClampNeg (((40 : Int32) * x1) + x3)))), (0, .ref (a 0)), (1, .int x1), (2, .int x2), (3, .int x3)]) hx hb dX6_isTold_33 hl (by decide) rfl (fun ls hl => ?_)
        refine lv_iload hx hb dX6_isTold_35 (lv_at hl 0 rfl) ?_
        refine lv_iconst (v := -1) hx hb dX6_isTold_37 (by decide) ?_
        refine lv_icmp_eq (tgt := 52) hx hb dX6_isTold_38 (by decide) (fun hc11 => ?_) (fun hc11 => ?_)
        · rw [if_pos hc11] at hm
          refine lv_iconst (v := 1) hx hb dX6_isTold_52 (by decide) ?_
          refine lv_goto (tgt := 57) hx hb dX6_isTold_53 (by decide) ?_
          exact wX6_isTold_b57 C hr hlk ih σ x1 x3 (1 : Int32) _ _ _ hm hW (lv_sub hl [1, 2, 4] rfl)
        · rw [if_neg hc11] at hm
          refine lv_iload hx hb dX6_isTold_41 (lv_at hl 0 rfl) ?_
          refine lv_aload_n hx hb dX6_isTold_43 rfl (lv_at hl 1 rfl) ?_
          refine gM_s C hW q787 dX6_isTold_44 ?_
          refine lv_iconst (v := 2) hx hb dX6_isTold_47 (by decide) ?_
          refine lM_s_k (k := 2) C hW (by decide) (by decide) dX6_isTold_48 ?_
          refine lv_icmp_ne (tgt := 56) hx hb dX6_isTold_49 (by decide) (fun hc12 => ?_) (fun hc12 => ?_)
          · rw [if_neg hc12] at hm
            refine lv_iconst (v := 0) hx hb dX6_isTold_56 (by decide) ?_
            exact wX6_isTold_b57 C hr hlk ih σ x1 x3 (0 : Int32) _ _ _ hm hW (lv_sub hl [1, 2, 4] rfl)
          · rw [if_pos hc12] at hm
            refine lv_iconst (v := 1) hx hb dX6_isTold_52 (by decide) ?_
            refine lv_goto (tgt := 57) hx hb dX6_isTold_53 (by decide) ?_
            exact wX6_isTold_b57 C hr hlk ih σ x1 x3 (1 : Int32) _ _ _ hm hW (lv_sub hl [1, 2, 4] rfl)
def X6_isTold (σ : MS) (p1 : Int32) : Option (Int32 × MS) := (X6_laysAside σ).bind fun s14 => X6_isTold_b8 FU s14 p1 (1 : Int32) (0 : Int32)
set_option maxHeartbeats 4000000 in
set_option maxRecDepth 100000 in
theorem c_X6_isTold {l : Launch} {D : va_G} {cy cz : ClassId} {G : GT} {a : Nat → Nat} {σ : MS} {p1 : Int32} {r : Int32} {σr : MS} (hm : X6_isTold σ p1 = some (r, σr)) : CtI l D cy cz G yX6_isTold cX6_isTold 5 (some .boolean) 5 114 [.ref (a 0), .int p1] (cM a cy σ) (cM a cy σr) r := by
  refine ct_i (own := "PumpTalkModel") (by decide) rfl (Nat.le_of_ble_eq_true rfl) ?_
  intro p e s m below meth c ls A C hr hlk hW hl
  have hx := C.1
  have hb := C.2.1
  have hl : lv_has ls 5 [(0, .ref (a 0)), (1, .int p1)] := hl
  unfold X6_isTold at hm
  refine lv_iconst (v := 1) hx hb dX6_isTold_0 (by decide) ?_
  refine lv_istore_n (lv' := [(2, .int (1 : Int32)), (0, .ref (a 0)), (1, .int p1)]) hx hb dX6_isTold_1 rfl hl (by decide) rfl (fun ls hl => ?_)
  refine lv_aload_n hx hb dX6_isTold_2 rfl (lv_at hl 1 rfl) ?_
  obtain ⟨s14, e13, hm⟩ := mi_bind hm
  refine cs_v (q0 := 0) (As := []) (rest := []) C hW (c_X6_laysAside e13) kX6_laysAside q998 rfl rfl rfl rfl rfl hl.1 ⟨Nat.le_of_ble_eq_true rfl, Nat.le_of_ble_eq_true rfl⟩ ⟨Nat.le_refl 0, Nat.le_refl 0⟩ (Nat.le_of_ble_eq_true rfl) dX6_isTold_3 (fun H locs hW => ?_)
  refine lv_iconst (v := 0) hx hb dX6_isTold_6 (by decide) ?_
  refine lv_istore_n (lv' := [(3, .int (0 : Int32)), (2, .int (1 : Int32)), (0, .ref (a 0)), (1, .int p1)]) hx hb dX6_isTold_7 rfl hl (by decide) rfl (fun ls hl => ?_)
  exact wX6_isTold_b8 C hr hlk FU s14 p1 (1 : Int32) (0 : Int32) _ _ _ hm hW (lv_sub hl [2, 3, 1, 0] rfl)
theorem kX6_isTold : KM yX6_isTold cX6_isTold 5 (some .boolean) 1 := ⟨q1109, q49, q72, q1110, by decide +kernel, by decide +kernel, by decide +kernel⟩
def X6_findFits_b75 (k35 : MS → Int32 → Int32 → Int32 → Int32 → Option (MS)) (σ : MS) (x1 : Int32) (x3 : Int32) (x4 : Int32) (x5 : Int32) (y1 : Int32) : Option (MS) := k35 (su (su σ 22 11 y1) 22 10 (((su σ 22 11 y1) 22 10) + (1 : Int32))) x1 x3 x4 ((x5 + (1 : Int32)))
set_option maxHeartbeats 4000000 in
set_option maxRecDepth 100000 in
theorem wX6_findFits_b75 {p : Program} {l : Launch} {e : Env} {s : State} {m : MethodId} {below : List Frame} {meth : Method} {c : Code} {D : va_G} {cy cz : ClassId} {G : GT} {A : Nat → Prop} {args : Array Value} {a : Nat → Nat} {σr : MS} (C : Cx p s m args c cX6_findFits 6 "PumpTalkModel" D cy cz G A) (hr : meth.sig.returnType = none) (hlk : meth.locks = false) {k35 : MS → Int32 → Int32 → Int32 → Int32 → Option (MS)} (hk35 : ∀ (σ : MS) (x1 : Int32) (x3 : Int32) (x4 : Int32) (x5 : Int32) (H : Heap) (locs : List Loc) (ls : Array Slot), k35 σ x1 x3 x4 x5 = some σr → Wd D A s.heap H locs (cM a cy σ) → lv_has ls 6 [(0, .ref (a 0)), (1, .int x1), (3, .int x3), (4, .int x4), (5, .int x5)] → W p l e (rmz 6 138) s m args below meth c H locs 0 0 (MQ below (QV D cy cz A (cM a cy σr) ()) args s 0 0 A) (F0 m 35 ls [])) : ∀ (σ : MS) (x1 : Int32) (x3 : Int32) (x4 : Int32) (x5 : Int32) (y1 : Int32) (H : Heap) (locs : List Loc) (ls : Array Slot), X6_findFits_b75 k35 σ x1 x3 x4 x5 y1 = some σr → Wd D A s.heap H locs (cM a cy σ) → lv_has ls 6 [(0, .ref (a 0)), (1, .int x1), (3, .int x3), (4, .int x4), (5, .int x5)] → W p l e (rmz 6 138) s m args below meth c H locs 0 0 (MQ below (QV D cy cz A (cM a cy σr) ()) args s 0 0 A) (F0 m 75 ls [.int y1, .ref (a 0)]) := by
  have hx := C.1
  have hb := C.2.1
  intro σ x1 x3 x4 x5 y1 H locs ls hm hW hl
  unfold X6_findFits_b75 at hm
  refine pM_fitLeast C hW q798 dX6_findFits_75 (fun H locs hW => ?_)
  refine lv_aload_n hx hb dX6_findFits_78 rfl (lv_at hl 0 rfl) ?_
  refine lv_dup hx hb dX6_findFits_79 rfl ?_
  refine gM_fitMany C hW q797 dX6_findFits_80 ?_
  refine lv_iconst (v := 1) hx hb dX6_findFits_83 (by decide) ?_
  refine lv_iadd hx hb dX6_findFits_84 ?_
  refine pM_fitMany C hW q797 dX6_findFits_85 (fun H locs hW => ?_)
  refine lv_iinc (v := (x5 + (1 : Int32))) (lv' := [(5, .int (x5 + (1 : Int32))), (0, .ref (a 0)), (1, .int x1), (3, .int x3), (4, .int x4)]) hx hb dX6_findFits_88 hl (k := 4) rfl (congrArg (fun z : Int32 => x5 + z) (by decide)) (by decide) rfl (fun ls hl => ?_)
  refine lv_goto (tgt := 35) hx hb dX6_findFits_91 (by decide) ?_
  exact hk35 (su (su σ 22 11 y1) 22 10 (((su σ 22 11 y1) 22 10) + (1 : Int32))) x1 x3 x4 ((x5 + (1 : Int32))) _ _ _ hm hW (lv_sub hl [1, 2, 3, 4, 0] rfl)
def X6_findFits_b35 : Nat → MS → Int32 → Int32 → Int32 → Int32 → Option (MS)
  | 0, _, _, _, _, _ => none
  | n + 1, σ, x1, x3, x4, x5 => if (9 : Int32) < x5 then (ai x3 81 (some (su σ 0 (Int32.toNatClampNeg x3) x4))) else (ai x3 81 ((X6_isTold (su σ 0 (Int32.toNatClampNeg x3) x5) x1).bind fun q5 => if q5.1 = (0 : Int32) then (X6_findFits_b35 n q5.2 x1 x3 x4 ((x5 + (1 : Int32)))) else (if (q5.2 22 10) = (0 : Int32) then (X6_findFits_b75 (X6_findFits_b35 n) q5.2 x1 x3 x4 x5 x5) else (X6_findFits_b75 (X6_findFits_b35 n) q5.2 x1 x3 x4 x5 (q5.2 22 11)))))
set_option maxHeartbeats 4000000 in
set_option maxRecDepth 100000 in
theorem wX6_findFits_b35 {p : Program} {l : Launch} {e : Env} {s : State} {m : MethodId} {below : List Frame} {meth : Method} {c : Code} {D : va_G} {cy cz : ClassId} {G : GT} {A : Nat → Prop} {args : Array Value} {a : Nat → Nat} {σr : MS} (C : Cx p s m args c cX6_findFits 6 "PumpTalkModel" D cy cz G A) (hr : meth.sig.returnType = none) (hlk : meth.locks = false) : ∀ (n : Nat) (σ : MS) (x1 : Int32) (x3 : Int32) (x4 : Int32) (x5 : Int32) (H : Heap) (locs : List Loc) (ls : Array Slot), X6_findFits_b35 n σ x1 x3 x4 x5 = some σr → Wd D A s.heap H locs (cM a cy σ) → lv_has ls 6 [(0, .ref (a 0)), (1, .int x1), (3, .int x3), (4, .int x4), (5, .int x5)] → W p l e (rmz 6 138) s m args below meth c H locs 0 0 (MQ below (QV D cy cz A (cM a cy σr) ()) args s 0 0 A) (F0 m 35 ls []) := by
  have hx := C.1
  have hb := C.2.1
  intro n
  induction n with
  | zero =>
    intro σ x1 x3 x4 x5 H locs ls hm
    rw [X6_findFits_b35] at hm
    cases hm
  | succ n ih =>
    intro σ x1 x3 x4 x5 H locs ls hm hW hl
    rw [X6_findFits_b35] at hm
    refine lv_iload hx hb dX6_findFits_35 (lv_at hl 4 rfl) ?_
    refine lv_bipush (v := 9) hx hb dX6_findFits_37 (by decide) ?_
    refine lv_icmp_gt (tgt := 94) hx hb dX6_findFits_39 (by decide) (fun hc1 => ?_) (fun hc1 => ?_)
    · rw [if_pos hc1] at hm
      refine lv_aload_n hx hb dX6_findFits_94 rfl (lv_at hl 0 rfl) ?_
      refine gM_s C hW q787 dX6_findFits_95 ?_
      refine lv_iload_n hx hb dX6_findFits_98 rfl (lv_at hl 2 rfl) ?_
      refine lv_iload hx hb dX6_findFits_99 (lv_at hl 3 rfl) ?_
      obtain ⟨hi2, hm⟩ := mi_ai hm
      refine tM_s C hW hi2 dX6_findFits_101 (fun H locs hW => ?_)
      obtain rfl := Option.some.inj hm
      exact en_v C hr hlk hW dX6_findFits_102
    · rw [if_neg hc1] at hm
      refine lv_aload_n hx hb dX6_findFits_42 rfl (lv_at hl 0 rfl) ?_
      refine gM_s C hW q787 dX6_findFits_43 ?_
      refine lv_iload_n hx hb dX6_findFits_46 rfl (lv_at hl 2 rfl) ?_
      refine lv_iload hx hb dX6_findFits_47 (lv_at hl 4 rfl) ?_
      obtain ⟨hi3, hm⟩ := mi_ai hm
      refine tM_s C hW hi3 dX6_findFits_49 (fun H locs hW => ?_)
      refine lv_aload_n hx hb dX6_findFits_50 rfl (lv_at hl 0 rfl) ?_
      refine lv_iload_n hx hb dX6_findFits_51 rfl (lv_at hl 1 rfl) ?_
      obtain ⟨q5, e4, hm⟩ := mi_bind hm
      refine cs_i (q0 := 0) (As := [.int x1]) (rest := []) C hW (c_X6_isTold e4) kX6_isTold q1107 rfl rfl rfl rfl rfl hl.1 ⟨Nat.le_of_ble_eq_true rfl, Nat.le_of_ble_eq_true rfl⟩ ⟨Nat.le_refl 0, Nat.le_refl 0⟩ (Nat.le_of_ble_eq_true rfl) dX6_findFits_52 (fun H locs hW => ?_)
      refine lv_if_eq (tgt := 88) hx hb dX6_findFits_55 (by decide) (fun hc6 => ?_) (fun hc6 => ?_)
      · rw [if_pos hc6] at hm
        refine lv_iinc (v := (x5 + (1 : Int32))) (lv' := [(5, .int (x5 + (1 : Int32))), (0, .ref (a 0)), (1, .int x1), (3, .int x3), (4, .int x4)]) hx hb dX6_findFits_88 hl (k := 4) rfl (congrArg (fun z : Int32 => x5 + z) (by decide)) (by decide) rfl (fun ls hl => ?_)
        refine lv_goto (tgt := 35) hx hb dX6_findFits_91 (by decide) ?_
        exact ih q5.2 x1 x3 x4 ((x5 + (1 : Int32))) _ _ _ hm hW (lv_sub hl [1, 2, 3, 4, 0] rfl)
      · rw [if_neg hc6] at hm
        refine lv_aload_n hx hb dX6_findFits_58 rfl (lv_at hl 0 rfl) ?_
        refine lv_aload_n hx hb dX6_findFits_59 rfl (lv_at hl 0 rfl) ?_
        refine gM_fitMany C hW q797 dX6_findFits_60 ?_
        refine lv_if_ne (tgt := 71) hx hb dX6_findFits_63 (by decide) (fun hc7 => ?_) (fun hc7 => ?_)
        · rw [if_neg hc7] at hm
          refine lv_aload_n hx hb dX6_findFits_71 rfl (lv_at hl 0 rfl) ?_
          refine gM_fitLeast C hW q798 dX6_findFits_72 ?_
          exact wX6_findFits_b75 C hr hlk ih q5.2 x1 x3 x4 x5 (q5.2 22 11) _ _ _ hm hW (lv_sub hl [0, 1, 2, 3, 4] rfl)
        · rw [if_pos hc7] at hm
          refine lv_iload hx hb dX6_findFits_66 (lv_at hl 4 rfl) ?_
          refine lv_goto (tgt := 75) hx hb dX6_findFits_68 (by decide) ?_
          exact wX6_findFits_b75 C hr hlk ih q5.2 x1 x3 x4 x5 x5 _ _ _ hm hW (lv_sub hl [0, 1, 2, 3, 4] rfl)
def X6_findFits (σ : MS) (p1 : Int32) (p2 : Int32) : Option (MS) := (X6_place p2 ((2 : Int32) + (σ 0 3))).bind fun v9 => ai v9 81 (X6_findFits_b35 FU (su (su σ 22 10 (0 : Int32)) 22 11 (0 : Int32)) p1 v9 ((σ 0 (Int32.toNatClampNeg v9))) (-9 : Int32))
set_option maxHeartbeats 4000000 in
set_option maxRecDepth 100000 in
theorem c_X6_findFits {l : Launch} {D : va_G} {cy cz : ClassId} {G : GT} {a : Nat → Nat} {σ : MS} {p1 : Int32} {p2 : Int32} {σr : MS} (hm : X6_findFits σ p1 p2 = some σr) : CtV l D cy cz G yX6_findFits cX6_findFits 6 none 6 138 [.ref (a 0), .int p1, .int p2] (cM a cy σ) (cM a cy σr) () := by
  refine ct_v (own := "PumpTalkModel") (by decide) rfl (Nat.le_of_ble_eq_true rfl) ?_
  intro p e s m below meth c ls A C hr hlk hW hl
  have hx := C.1
  have hb := C.2.1
  have hl : lv_has ls 6 [(0, .ref (a 0)), (1, .int p1), (2, .int p2)] := hl
  unfold X6_findFits at hm
  refine lv_iload_n hx hb dX6_findFits_0 rfl (lv_at hl 2 rfl) ?_
  refine lv_iconst (v := 2) hx hb dX6_findFits_1 (by decide) ?_
  refine lv_aload_n hx hb dX6_findFits_2 rfl (lv_at hl 0 rfl) ?_
  refine gM_s C hW q787 dX6_findFits_3 ?_
  refine lv_iconst (v := 3) hx hb dX6_findFits_6 (by decide) ?_
  refine lM_s_k (k := 3) C hW (by decide) (by decide) dX6_findFits_7 ?_
  refine lv_iadd hx hb dX6_findFits_8 ?_
  obtain ⟨v9, e8, hm⟩ := mi_bind hm
  refine cS_i (As := [.int p2, .int ((2 : Int32) + (σ 0 3))]) (rest := []) C hW (c_X6_place e8) kX6_place q875 rfl rfl hl.1 ⟨Nat.le_of_ble_eq_true rfl, Nat.le_of_ble_eq_true rfl⟩ ⟨Nat.le_refl 0, Nat.le_refl 0⟩ (Nat.le_of_ble_eq_true rfl) dX6_findFits_9 (fun H locs hW => ?_)
  refine lv_istore_n (lv' := [(3, .int v9), (0, .ref (a 0)), (1, .int p1), (2, .int p2)]) hx hb dX6_findFits_12 rfl hl (by decide) rfl (fun ls hl => ?_)
  refine lv_aload_n hx hb dX6_findFits_13 rfl (lv_at hl 1 rfl) ?_
  refine gM_s C hW q787 dX6_findFits_14 ?_
  refine lv_iload_n hx hb dX6_findFits_17 rfl (lv_at hl 0 rfl) ?_
  obtain ⟨hi10, hm⟩ := mi_ai hm
  refine lM_s C hW hi10 dX6_findFits_18 ?_
  refine lv_istore (lv' := [(4, .int (σ 0 (Int32.toNatClampNeg v9))), (3, .int v9), (0, .ref (a 0)), (1, .int p1), (2, .int p2)]) hx hb dX6_findFits_19 hl (by decide) rfl (fun ls hl => ?_)
  refine lv_aload_n hx hb dX6_findFits_21 rfl (lv_at hl 2 rfl) ?_
  refine lv_iconst (v := 0) hx hb dX6_findFits_22 (by decide) ?_
  refine pM_fitMany C hW q797 dX6_findFits_23 (fun H locs hW => ?_)
  refine lv_aload_n hx hb dX6_findFits_26 rfl (lv_at hl 2 rfl) ?_
  refine lv_iconst (v := 0) hx hb dX6_findFits_27 (by decide) ?_
  refine pM_fitLeast C hW q798 dX6_findFits_28 (fun H locs hW => ?_)
  refine lv_bipush (v := -9) hx hb dX6_findFits_31 (by decide) ?_
  refine lv_istore (lv' := [(5, .int (-9 : Int32)), (4, .int (σ 0 (Int32.toNatClampNeg v9))), (3, .int v9), (0, .ref (a 0)), (1, .int p1), (2, .int p2)]) hx hb dX6_findFits_33 hl (by decide) rfl (fun ls hl => ?_)
  exact wX6_findFits_b35 C hr hlk FU (su (su σ 22 10 (0 : Int32)) 22 11 (0 : Int32)) p1 v9 ((σ 0 (Int32.toNatClampNeg v9))) (-9 : Int32) _ _ _ hm hW (lv_sub hl [3, 4, 2, 1, 0] rfl)
theorem kX6_findFits : KM yX6_findFits cX6_findFits 6 none 2 := ⟨q1105, q48, q72, q1106, by decide +kernel, by decide +kernel, by decide +kernel⟩
def X6_fits (σ : MS) (p1 : Int32) (p2 : Int32) : Option (Int32 × MS) := (X6_wrongOne σ p1 p2).bind fun v2 => if v2 = (0 : Int32) then ((X6_findFits σ p1 p2).bind fun s5 => some ((s5 22 10), s5)) else ((X6_finds σ v2).bind fun q7 => some (q7.1, q7.2))
set_option maxHeartbeats 4000000 in
set_option maxRecDepth 100000 in
theorem c_X6_fits {l : Launch} {D : va_G} {cy cz : ClassId} {G : GT} {a : Nat → Nat} {σ : MS} {p1 : Int32} {p2 : Int32} {r : Int32} {σr : MS} (hm : X6_fits σ p1 p2 = some (r, σr)) : CtI l D cy cz G yX6_fits cX6_fits 4 (some .int) 7 163 [.ref (a 0), .int p1, .int p2] (cM a cy σ) (cM a cy σr) r := by
  refine ct_i (own := "PumpTalkModel") (by decide) rfl (Nat.le_of_ble_eq_true rfl) ?_
  intro p e s m below meth c ls A C hr hlk hW hl
  have hx := C.1
  have hb := C.2.1
  have hl : lv_has ls 4 [(0, .ref (a 0)), (1, .int p1), (2, .int p2)] := hl
  unfold X6_fits at hm
  refine lv_aload_n hx hb dX6_fits_0 rfl (lv_at hl 0 rfl) ?_
  refine lv_iload_n hx hb dX6_fits_1 rfl (lv_at hl 1 rfl) ?_
  refine lv_iload_n hx hb dX6_fits_2 rfl (lv_at hl 2 rfl) ?_
  obtain ⟨v2, e1, hm⟩ := mi_bind hm
  refine cs_i (q0 := 0) (As := [.int p1, .int p2]) (rest := []) C hW (c_X6_wrongOne e1) kX6_wrongOne q1090 rfl rfl rfl rfl rfl hl.1 ⟨Nat.le_of_ble_eq_true rfl, Nat.le_of_ble_eq_true rfl⟩ ⟨Nat.le_refl 0, Nat.le_refl 0⟩ (Nat.le_of_ble_eq_true rfl) dX6_fits_3 (fun H locs hW => ?_)
  refine lv_istore_n (lv' := [(3, .int v2), (0, .ref (a 0)), (1, .int p1), (2, .int p2)]) hx hb dX6_fits_6 rfl hl (by decide) rfl (fun ls hl => ?_)
  refine lv_iload_n hx hb dX6_fits_7 rfl (lv_at hl 0 rfl) ?_
  refine lv_if_eq (tgt := 17) hx hb dX6_fits_8 (by decide) (fun hc3 => ?_) (fun hc3 => ?_)
  · rw [if_pos hc3] at hm
    refine lv_aload_n hx hb dX6_fits_17 rfl (lv_at hl 1 rfl) ?_
    refine lv_iload_n hx hb dX6_fits_18 rfl (lv_at hl 2 rfl) ?_
    refine lv_iload_n hx hb dX6_fits_19 rfl (lv_at hl 3 rfl) ?_
    obtain ⟨s5, e4, hm⟩ := mi_bind hm
    refine cs_v (q0 := 0) (As := [.int p1, .int p2]) (rest := []) C hW (c_X6_findFits e4) kX6_findFits q1103 rfl rfl rfl rfl rfl hl.1 ⟨Nat.le_of_ble_eq_true rfl, Nat.le_of_ble_eq_true rfl⟩ ⟨Nat.le_refl 0, Nat.le_refl 0⟩ (Nat.le_of_ble_eq_true rfl) dX6_fits_20 (fun H locs hW => ?_)
    refine lv_aload_n hx hb dX6_fits_23 rfl (lv_at hl 1 rfl) ?_
    refine gM_fitMany C hW q797 dX6_fits_24 ?_
    obtain ⟨rfl, rfl⟩ := Prod.mk.inj (Option.some.inj hm)
    exact en_i C hr hlk hW dX6_fits_27
  · rw [if_neg hc3] at hm
    refine lv_aload_n hx hb dX6_fits_11 rfl (lv_at hl 1 rfl) ?_
    refine lv_iload_n hx hb dX6_fits_12 rfl (lv_at hl 0 rfl) ?_
    obtain ⟨q7, e6, hm⟩ := mi_bind hm
    refine cs_i (q0 := 0) (As := [.int v2]) (rest := []) C hW (c_X6_finds e6) kX6_finds q866 rfl rfl rfl rfl rfl hl.1 ⟨Nat.le_of_ble_eq_true rfl, Nat.le_of_ble_eq_true rfl⟩ ⟨Nat.le_refl 0, Nat.le_refl 0⟩ (Nat.le_of_ble_eq_true rfl) dX6_fits_13 (fun H locs hW => ?_)
    obtain ⟨rfl, rfl⟩ := Prod.mk.inj (Option.some.inj hm)
    exact en_i C hr hlk hW dX6_fits_16
theorem kX6_fits : KM yX6_fits cX6_fits 4 (some .int) 2 := ⟨q1087, q1088, q72, q1089, by decide +kernel, by decide +kernel, by decide +kernel⟩
def X6_thought (σ : MS) (p1 : Int32) (p2 : Int32) : Option (Int32 × MS) := (X6_wrongOne σ p1 p2).bind fun v2 => if v2 = (0 : Int32) then ((X6_findFits σ p1 p2).bind fun s5 => if (s5 22 10) = (0 : Int32) then ((X6_finds s5 (-1000004 : Int32)).bind fun q8 => some (q8.1, q8.2)) else (some ((s5 22 11), s5))) else ((X6_finds σ v2).bind fun q10 => some (q10.1, q10.2))
set_option maxHeartbeats 4000000 in
set_option maxRecDepth 100000 in
theorem c_X6_thought {l : Launch} {D : va_G} {cy cz : ClassId} {G : GT} {a : Nat → Nat} {σ : MS} {p1 : Int32} {p2 : Int32} {r : Int32} {σr : MS} (hm : X6_thought σ p1 p2 = some (r, σr)) : CtI l D cy cz G yX6_thought cX6_thought 4 (some .int) 7 163 [.ref (a 0), .int p1, .int p2] (cM a cy σ) (cM a cy σr) r := by
  refine ct_i (own := "PumpTalkModel") (by decide) rfl (Nat.le_of_ble_eq_true rfl) ?_
  intro p e s m below meth c ls A C hr hlk hW hl
  have hx := C.1
  have hb := C.2.1
  have hl : lv_has ls 4 [(0, .ref (a 0)), (1, .int p1), (2, .int p2)] := hl
  unfold X6_thought at hm
  refine lv_aload_n hx hb dX6_thought_0 rfl (lv_at hl 0 rfl) ?_
  refine lv_iload_n hx hb dX6_thought_1 rfl (lv_at hl 1 rfl) ?_
  refine lv_iload_n hx hb dX6_thought_2 rfl (lv_at hl 2 rfl) ?_
  obtain ⟨v2, e1, hm⟩ := mi_bind hm
  refine cs_i (q0 := 0) (As := [.int p1, .int p2]) (rest := []) C hW (c_X6_wrongOne e1) kX6_wrongOne q1090 rfl rfl rfl rfl rfl hl.1 ⟨Nat.le_of_ble_eq_true rfl, Nat.le_of_ble_eq_true rfl⟩ ⟨Nat.le_refl 0, Nat.le_refl 0⟩ (Nat.le_of_ble_eq_true rfl) dX6_thought_3 (fun H locs hW => ?_)
  refine lv_istore_n (lv' := [(3, .int v2), (0, .ref (a 0)), (1, .int p1), (2, .int p2)]) hx hb dX6_thought_6 rfl hl (by decide) rfl (fun ls hl => ?_)
  refine lv_iload_n hx hb dX6_thought_7 rfl (lv_at hl 0 rfl) ?_
  refine lv_if_eq (tgt := 17) hx hb dX6_thought_8 (by decide) (fun hc3 => ?_) (fun hc3 => ?_)
  · rw [if_pos hc3] at hm
    refine lv_aload_n hx hb dX6_thought_17 rfl (lv_at hl 1 rfl) ?_
    refine lv_iload_n hx hb dX6_thought_18 rfl (lv_at hl 2 rfl) ?_
    refine lv_iload_n hx hb dX6_thought_19 rfl (lv_at hl 3 rfl) ?_
    obtain ⟨s5, e4, hm⟩ := mi_bind hm
    refine cs_v (q0 := 0) (As := [.int p1, .int p2]) (rest := []) C hW (c_X6_findFits e4) kX6_findFits q1103 rfl rfl rfl rfl rfl hl.1 ⟨Nat.le_of_ble_eq_true rfl, Nat.le_of_ble_eq_true rfl⟩ ⟨Nat.le_refl 0, Nat.le_refl 0⟩ (Nat.le_of_ble_eq_true rfl) dX6_thought_20 (fun H locs hW => ?_)
    refine lv_aload_n hx hb dX6_thought_23 rfl (lv_at hl 1 rfl) ?_
    refine gM_fitMany C hW q797 dX6_thought_24 ?_
    refine lv_if_ne (tgt := 39) hx hb dX6_thought_27 (by decide) (fun hc6 => ?_) (fun hc6 => ?_)
    · rw [if_neg hc6] at hm
      refine lv_aload_n hx hb dX6_thought_39 rfl (lv_at hl 1 rfl) ?_
      refine gM_fitLeast C hW q798 dX6_thought_40 ?_
      obtain ⟨rfl, rfl⟩ := Prod.mk.inj (Option.some.inj hm)
      exact en_i C hr hlk hW dX6_thought_43
    · rw [if_pos hc6] at hm
      refine lv_aload_n hx hb dX6_thought_30 rfl (lv_at hl 1 rfl) ?_
      refine lv_ldc hx hb C.2.2.2.1 (C.2.2.2.2.1 _ q1018) dX6_thought_31 ?_
      obtain ⟨q8, e7, hm⟩ := mi_bind hm
      refine cs_i (q0 := 0) (As := [.int (-1000004 : Int32)]) (rest := []) C hW (c_X6_finds e7) kX6_finds q866 rfl rfl rfl rfl rfl hl.1 ⟨Nat.le_of_ble_eq_true rfl, Nat.le_of_ble_eq_true rfl⟩ ⟨Nat.le_refl 0, Nat.le_refl 0⟩ (Nat.le_of_ble_eq_true rfl) dX6_thought_33 (fun H locs hW => ?_)
      refine lv_goto (tgt := 43) hx hb dX6_thought_36 (by decide) ?_
      obtain ⟨rfl, rfl⟩ := Prod.mk.inj (Option.some.inj hm)
      exact en_i C hr hlk hW dX6_thought_43
  · rw [if_neg hc3] at hm
    refine lv_aload_n hx hb dX6_thought_11 rfl (lv_at hl 1 rfl) ?_
    refine lv_iload_n hx hb dX6_thought_12 rfl (lv_at hl 0 rfl) ?_
    obtain ⟨q10, e9, hm⟩ := mi_bind hm
    refine cs_i (q0 := 0) (As := [.int v2]) (rest := []) C hW (c_X6_finds e9) kX6_finds q866 rfl rfl rfl rfl rfl hl.1 ⟨Nat.le_of_ble_eq_true rfl, Nat.le_of_ble_eq_true rfl⟩ ⟨Nat.le_refl 0, Nat.le_refl 0⟩ (Nat.le_of_ble_eq_true rfl) dX6_thought_13 (fun H locs hW => ?_)
    obtain ⟨rfl, rfl⟩ := Prod.mk.inj (Option.some.inj hm)
    exact en_i C hr hlk hW dX6_thought_16
theorem kX6_thought : KM yX6_thought cX6_thought 4 (some .int) 2 := ⟨q1112, q1113, q72, q1114, by decide +kernel, by decide +kernel, by decide +kernel⟩
def X6_kinds_b68 (k31 : MS → Int32 → Int32 → Int32 → Int32 → Int32 → Option (Int32 × MS)) (σ : MS) (x1 : Int32) (x2 : Int32) (x4 : Int32) (x6 : Int32) (y0 : Int32) (y1 : Int32) : Option (Int32 × MS) := k31 σ x1 x2 x4 (y0 ||| y1) ((x6 + (1 : Int32)))
set_option maxHeartbeats 4000000 in
set_option maxRecDepth 100000 in
theorem wX6_kinds_b68 {p : Program} {l : Launch} {e : Env} {s : State} {m : MethodId} {below : List Frame} {meth : Method} {c : Code} {D : va_G} {cy cz : ClassId} {G : GT} {A : Nat → Prop} {args : Array Value} {a : Nat → Nat} {r : Int32} {σr : MS} (C : Cx p s m args c cX6_kinds 7 "PumpTalkModel" D cy cz G A) (hr : meth.sig.returnType = some .int) (hlk : meth.locks = false) {k31 : MS → Int32 → Int32 → Int32 → Int32 → Int32 → Option (Int32 × MS)} (hk31 : ∀ (σ : MS) (x1 : Int32) (x2 : Int32) (x4 : Int32) (x5 : Int32) (x6 : Int32) (H : Heap) (locs : List Loc) (ls : Array Slot), k31 σ x1 x2 x4 x5 x6 = some (r, σr) → Wd D A s.heap H locs (cM a cy σ) → lv_has ls 7 [(0, .ref (a 0)), (1, .int x1), (2, .int x2), (4, .int x4), (5, .int x5), (6, .int x6)] → W p l e (rmz 6 138) s m args below meth c H locs 0 0 (MQ below (QI D cy cz A (cM a cy σr) r) args s 0 0 A) (F0 m 31 ls [])) : ∀ (σ : MS) (x1 : Int32) (x2 : Int32) (x4 : Int32) (x6 : Int32) (y0 : Int32) (y1 : Int32) (H : Heap) (locs : List Loc) (ls : Array Slot), X6_kinds_b68 k31 σ x1 x2 x4 x6 y0 y1 = some (r, σr) → Wd D A s.heap H locs (cM a cy σ) → lv_has ls 7 [(0, .ref (a 0)), (1, .int x1), (2, .int x2), (4, .int x4), (6, .int x6)] → W p l e (rmz 6 138) s m args below meth c H locs 0 0 (MQ below (QI D cy cz A (cM a cy σr) r) args s 0 0 A) (F0 m 68 ls [.int y1, .int y0]) := by
  have hx := C.1
  have hb := C.2.1
  intro σ x1 x2 x4 x6 y0 y1 H locs ls hm hW hl
  unfold X6_kinds_b68 at hm
  refine lv_ior hx hb dX6_kinds_68 ?_
  refine lv_istore (lv' := [(5, .int (y0 ||| y1)), (0, .ref (a 0)), (1, .int x1), (2, .int x2), (4, .int x4), (6, .int x6)]) hx hb dX6_kinds_69 hl (by decide) rfl (fun ls hl => ?_)
  refine lv_iinc (v := (x6 + (1 : Int32))) (lv' := [(6, .int (x6 + (1 : Int32))), (5, .int (y0 ||| y1)), (0, .ref (a 0)), (1, .int x1), (2, .int x2), (4, .int x4)]) hx hb dX6_kinds_71 hl (k := 5) rfl (congrArg (fun z : Int32 => x6 + z) (by decide)) (by decide) rfl (fun ls hl => ?_)
  refine lv_goto (tgt := 31) hx hb dX6_kinds_74 (by decide) ?_
  exact hk31 σ x1 x2 x4 (y0 ||| y1) ((x6 + (1 : Int32))) _ _ _ hm hW (lv_sub hl [2, 3, 4, 5, 1, 0] rfl)
def X6_kinds_b31 : Nat → MS → Int32 → Int32 → Int32 → Int32 → Int32 → Option (Int32 × MS)
  | 0, _, _, _, _, _, _ => none
  | n + 1, σ, x1, x2, x4, x5, x6 => if (6 : Int32) < x6 then ((X6_place x2 (0 : Int32)).bind fun v3 => ai v3 81 (some (x5, su σ 0 (Int32.toNatClampNeg v3) x4))) else ((X6_place x2 (0 : Int32)).bind fun v6 => ai v6 81 ((X6_isTold (su σ 0 (Int32.toNatClampNeg v6) x6) x1).bind fun q9 => if q9.1 = (0 : Int32) then (X6_kinds_b68 (X6_kinds_b31 n) q9.2 x1 x2 x4 x6 x5 (0 : Int32)) else (X6_kinds_b68 (X6_kinds_b31 n) q9.2 x1 x2 x4 x6 x5 (((1 : Int32) <<< (x6 &&& 31))))))
set_option maxHeartbeats 4000000 in
set_option maxRecDepth 100000 in
theorem wX6_kinds_b31 {p : Program} {l : Launch} {e : Env} {s : State} {m : MethodId} {below : List Frame} {meth : Method} {c : Code} {D : va_G} {cy cz : ClassId} {G : GT} {A : Nat → Prop} {args : Array Value} {a : Nat → Nat} {r : Int32} {σr : MS} (C : Cx p s m args c cX6_kinds 7 "PumpTalkModel" D cy cz G A) (hr : meth.sig.returnType = some .int) (hlk : meth.locks = false) : ∀ (n : Nat) (σ : MS) (x1 : Int32) (x2 : Int32) (x4 : Int32) (x5 : Int32) (x6 : Int32) (H : Heap) (locs : List Loc) (ls : Array Slot), X6_kinds_b31 n σ x1 x2 x4 x5 x6 = some (r, σr) → Wd D A s.heap H locs (cM a cy σ) → lv_has ls 7 [(0, .ref (a 0)), (1, .int x1), (2, .int x2), (4, .int x4), (5, .int x5), (6, .int x6)] → W p l e (rmz 6 138) s m args below meth c H locs 0 0 (MQ below (QI D cy cz A (cM a cy σr) r) args s 0 0 A) (F0 m 31 ls []) := by
  have hx := C.1
  have hb := C.2.1
  intro n
  induction n with
  | zero =>
    intro σ x1 x2 x4 x5 x6 H locs ls hm
    rw [X6_kinds_b31] at hm
    cases hm
  | succ n ih =>
    intro σ x1 x2 x4 x5 x6 H locs ls hm hW hl
    rw [X6_kinds_b31] at hm
    refine lv_iload hx hb dX6_kinds_31 (lv_at hl 5 rfl) ?_
    refine lv_bipush (v := 6) hx hb dX6_kinds_33 (by decide) ?_
    refine lv_icmp_gt (tgt := 77) hx hb dX6_kinds_35 (by decide) (fun hc1 => ?_) (fun hc1 => ?_)
    · rw [if_pos hc1] at hm
      refine lv_aload_n hx hb dX6_kinds_77 rfl (lv_at hl 0 rfl) ?_
      refine gM_s C hW q787 dX6_kinds_78 ?_
      refine lv_iload_n hx hb dX6_kinds_81 rfl (lv_at hl 2 rfl) ?_
      refine lv_iconst (v := 0) hx hb dX6_kinds_82 (by decide) ?_
      obtain ⟨v3, e2, hm⟩ := mi_bind hm
      refine cS_i (As := [.int x2, .int (0 : Int32)]) (rest := [.ref (a 1)]) C hW (c_X6_place e2) kX6_place q875 rfl rfl hl.1 ⟨Nat.le_of_ble_eq_true rfl, Nat.le_of_ble_eq_true rfl⟩ ⟨Nat.le_refl 0, Nat.le_refl 0⟩ (Nat.le_of_ble_eq_true rfl) dX6_kinds_83 (fun H locs hW => ?_)
      refine lv_iload hx hb dX6_kinds_86 (lv_at hl 3 rfl) ?_
      obtain ⟨hi4, hm⟩ := mi_ai hm
      refine tM_s C hW hi4 dX6_kinds_88 (fun H locs hW => ?_)
      refine lv_iload hx hb dX6_kinds_89 (lv_at hl 4 rfl) ?_
      obtain ⟨rfl, rfl⟩ := Prod.mk.inj (Option.some.inj hm)
      exact en_i C hr hlk hW dX6_kinds_91
    · rw [if_neg hc1] at hm
      refine lv_aload_n hx hb dX6_kinds_38 rfl (lv_at hl 0 rfl) ?_
      refine gM_s C hW q787 dX6_kinds_39 ?_
      refine lv_iload_n hx hb dX6_kinds_42 rfl (lv_at hl 2 rfl) ?_
      refine lv_iconst (v := 0) hx hb dX6_kinds_43 (by decide) ?_
      obtain ⟨v6, e5, hm⟩ := mi_bind hm
      refine cS_i (As := [.int x2, .int (0 : Int32)]) (rest := [.ref (a 1)]) C hW (c_X6_place e5) kX6_place q875 rfl rfl hl.1 ⟨Nat.le_of_ble_eq_true rfl, Nat.le_of_ble_eq_true rfl⟩ ⟨Nat.le_refl 0, Nat.le_refl 0⟩ (Nat.le_of_ble_eq_true rfl) dX6_kinds_44 (fun H locs hW => ?_)
      refine lv_iload hx hb dX6_kinds_47 (lv_at hl 5 rfl) ?_
      obtain ⟨hi7, hm⟩ := mi_ai hm
      refine tM_s C hW hi7 dX6_kinds_49 (fun H locs hW => ?_)
      refine lv_iload hx hb dX6_kinds_50 (lv_at hl 4 rfl) ?_
      refine lv_aload_n hx hb dX6_kinds_52 rfl (lv_at hl 0 rfl) ?_
      refine lv_iload_n hx hb dX6_kinds_53 rfl (lv_at hl 1 rfl) ?_
      obtain ⟨q9, e8, hm⟩ := mi_bind hm
      refine cs_i (q0 := 0) (As := [.int x1]) (rest := [.int x5]) C hW (c_X6_isTold e8) kX6_isTold q1107 rfl rfl rfl rfl rfl hl.1 ⟨Nat.le_of_ble_eq_true rfl, Nat.le_of_ble_eq_true rfl⟩ ⟨Nat.le_refl 0, Nat.le_refl 0⟩ (Nat.le_of_ble_eq_true rfl) dX6_kinds_54 (fun H locs hW => ?_)
      refine lv_if_eq (tgt := 67) hx hb dX6_kinds_57 (by decide) (fun hc10 => ?_) (fun hc10 => ?_)
      · rw [if_pos hc10] at hm
        refine lv_iconst (v := 0) hx hb dX6_kinds_67 (by decide) ?_
        exact wX6_kinds_b68 C hr hlk ih q9.2 x1 x2 x4 x6 x5 (0 : Int32) _ _ _ hm hW (lv_sub hl [0, 1, 2, 3, 5] rfl)
      · rw [if_neg hc10] at hm
        refine lv_iconst (v := 1) hx hb dX6_kinds_60 (by decide) ?_
        refine lv_iload hx hb dX6_kinds_61 (lv_at hl 5 rfl) ?_
        refine lv_ishl hx hb dX6_kinds_63 ?_
        refine lv_goto (tgt := 68) hx hb dX6_kinds_64 (by decide) ?_
        exact wX6_kinds_b68 C hr hlk ih q9.2 x1 x2 x4 x6 x5 (((1 : Int32) <<< (x6 &&& 31))) _ _ _ hm hW (lv_sub hl [0, 1, 2, 3, 5] rfl)
def X6_kinds (σ : MS) (p1 : Int32) (p2 : Int32) : Option (Int32 × MS) := (X6_wrongOne σ p1 p2).bind fun v12 => if v12 = (0 : Int32) then ((X6_its σ p2 (0 : Int32)).bind fun v15 => X6_kinds_b31 FU σ p1 p2 v15 (0 : Int32) (0 : Int32)) else ((X6_finds σ v12).bind fun q17 => some (q17.1, q17.2))
set_option maxHeartbeats 4000000 in
set_option maxRecDepth 100000 in
theorem c_X6_kinds {l : Launch} {D : va_G} {cy cz : ClassId} {G : GT} {a : Nat → Nat} {σ : MS} {p1 : Int32} {p2 : Int32} {r : Int32} {σr : MS} (hm : X6_kinds σ p1 p2 = some (r, σr)) : CtI l D cy cz G yX6_kinds cX6_kinds 7 (some .int) 6 138 [.ref (a 0), .int p1, .int p2] (cM a cy σ) (cM a cy σr) r := by
  refine ct_i (own := "PumpTalkModel") (by decide) rfl (Nat.le_of_ble_eq_true rfl) ?_
  intro p e s m below meth c ls A C hr hlk hW hl
  have hx := C.1
  have hb := C.2.1
  have hl : lv_has ls 7 [(0, .ref (a 0)), (1, .int p1), (2, .int p2)] := hl
  unfold X6_kinds at hm
  refine lv_aload_n hx hb dX6_kinds_0 rfl (lv_at hl 0 rfl) ?_
  refine lv_iload_n hx hb dX6_kinds_1 rfl (lv_at hl 1 rfl) ?_
  refine lv_iload_n hx hb dX6_kinds_2 rfl (lv_at hl 2 rfl) ?_
  obtain ⟨v12, e11, hm⟩ := mi_bind hm
  refine cs_i (q0 := 0) (As := [.int p1, .int p2]) (rest := []) C hW (c_X6_wrongOne e11) kX6_wrongOne q1090 rfl rfl rfl rfl rfl hl.1 ⟨Nat.le_of_ble_eq_true rfl, Nat.le_of_ble_eq_true rfl⟩ ⟨Nat.le_refl 0, Nat.le_refl 0⟩ (Nat.le_of_ble_eq_true rfl) dX6_kinds_3 (fun H locs hW => ?_)
  refine lv_istore_n (lv' := [(3, .int v12), (0, .ref (a 0)), (1, .int p1), (2, .int p2)]) hx hb dX6_kinds_6 rfl hl (by decide) rfl (fun ls hl => ?_)
  refine lv_iload_n hx hb dX6_kinds_7 rfl (lv_at hl 0 rfl) ?_
  refine lv_if_eq (tgt := 17) hx hb dX6_kinds_8 (by decide) (fun hc13 => ?_) (fun hc13 => ?_)
  · rw [if_pos hc13] at hm
    refine lv_aload_n hx hb dX6_kinds_17 rfl (lv_at hl 1 rfl) ?_
    refine lv_iload_n hx hb dX6_kinds_18 rfl (lv_at hl 3 rfl) ?_
    refine lv_iconst (v := 0) hx hb dX6_kinds_19 (by decide) ?_
    obtain ⟨v15, e14, hm⟩ := mi_bind hm
    refine cs_i (q0 := 0) (As := [.int p2, .int (0 : Int32)]) (rest := []) C hW (c_X6_its e14) kX6_its q887 rfl rfl rfl rfl rfl hl.1 ⟨Nat.le_of_ble_eq_true rfl, Nat.le_of_ble_eq_true rfl⟩ ⟨Nat.le_refl 0, Nat.le_refl 0⟩ (Nat.le_of_ble_eq_true rfl) dX6_kinds_20 (fun H locs hW => ?_)
    refine lv_istore (lv' := [(4, .int v15), (3, .int v12), (0, .ref (a 0)), (1, .int p1), (2, .int p2)]) hx hb dX6_kinds_23 hl (by decide) rfl (fun ls hl => ?_)
    refine lv_iconst (v := 0) hx hb dX6_kinds_25 (by decide) ?_
    refine lv_istore (lv' := [(5, .int (0 : Int32)), (4, .int v15), (3, .int v12), (0, .ref (a 0)), (1, .int p1), (2, .int p2)]) hx hb dX6_kinds_26 hl (by decide) rfl (fun ls hl => ?_)
    refine lv_iconst (v := 0) hx hb dX6_kinds_28 (by decide) ?_
    refine lv_istore (lv' := [(6, .int (0 : Int32)), (5, .int (0 : Int32)), (4, .int v15), (3, .int v12), (0, .ref (a 0)), (1, .int p1), (2, .int p2)]) hx hb dX6_kinds_29 hl (by decide) rfl (fun ls hl => ?_)
    exact wX6_kinds_b31 C hr hlk FU σ p1 p2 v15 (0 : Int32) (0 : Int32) _ _ _ hm hW (lv_sub hl [4, 5, 6, 2, 1, 0] rfl)
  · rw [if_neg hc13] at hm
    refine lv_aload_n hx hb dX6_kinds_11 rfl (lv_at hl 1 rfl) ?_
    refine lv_iload_n hx hb dX6_kinds_12 rfl (lv_at hl 0 rfl) ?_
    obtain ⟨q17, e16, hm⟩ := mi_bind hm
    refine cs_i (q0 := 0) (As := [.int v12]) (rest := []) C hW (c_X6_finds e16) kX6_finds q866 rfl rfl rfl rfl rfl hl.1 ⟨Nat.le_of_ble_eq_true rfl, Nat.le_of_ble_eq_true rfl⟩ ⟨Nat.le_refl 0, Nat.le_refl 0⟩ (Nat.le_of_ble_eq_true rfl) dX6_kinds_13 (fun H locs hW => ?_)
    obtain ⟨rfl, rfl⟩ := Prod.mk.inj (Option.some.inj hm)
    exact en_i C hr hlk hW dX6_kinds_16
theorem kX6_kinds : KM yX6_kinds cX6_kinds 7 (some .int) 2 := ⟨q1116, q1117, q72, q1118, by decide +kernel, by decide +kernel, by decide +kernel⟩
def X6_draw (σ : MS) : Option (Int32 × MS) := some ((((((su σ 0 4 (((σ 0 4) * (1103515245 : Int32)) + (12345 : Int32))) 0 4)).toUInt32 >>> (((8 : Int32)).toUInt32 &&& Int32.toUInt32 31)).toInt32), su σ 0 4 (((σ 0 4) * (1103515245 : Int32)) + (12345 : Int32)))
set_option maxHeartbeats 4000000 in
set_option maxRecDepth 100000 in
theorem c_X6_draw {l : Launch} {D : va_G} {cy cz : ClassId} {G : GT} {a : Nat → Nat} {σ : MS} {r : Int32} {σr : MS} (hm : X6_draw σ = some (r, σr)) : CtI l D cy cz G yX6_draw cX6_draw 1 (some .int) 0 0 [.ref (a 0)] (cM a cy σ) (cM a cy σr) r := by
  refine ct_i (own := "PumpTalkModel") (by decide) rfl (Nat.le_of_ble_eq_true rfl) ?_
  intro p e s m below meth c ls A C hr hlk hW hl
  have hx := C.1
  have hb := C.2.1
  have hl : lv_has ls 1 [(0, .ref (a 0))] := hl
  unfold X6_draw at hm
  refine lv_aload_n hx hb dX6_draw_0 rfl (lv_at hl 0 rfl) ?_
  refine gM_s C hW q787 dX6_draw_1 ?_
  refine lv_iconst (v := 4) hx hb dX6_draw_4 (by decide) ?_
  refine lv_aload_n hx hb dX6_draw_5 rfl (lv_at hl 0 rfl) ?_
  refine gM_s C hW q787 dX6_draw_6 ?_
  refine lv_iconst (v := 4) hx hb dX6_draw_9 (by decide) ?_
  refine lM_s_k (k := 4) C hW (by decide) (by decide) dX6_draw_10 ?_
  refine lv_ldc hx hb C.2.2.2.1 (C.2.2.2.2.1 _ q1128) dX6_draw_11 ?_
  refine lv_imul hx hb dX6_draw_13 ?_
  refine lv_sipush (v := 12345) hx hb dX6_draw_14 (by decide) ?_
  refine lv_iadd hx hb dX6_draw_17 ?_
  refine tM_s_k (k := 4) C hW (by decide) (by decide) dX6_draw_18 (fun H locs hW => ?_)
  refine lv_aload_n hx hb dX6_draw_19 rfl (lv_at hl 0 rfl) ?_
  refine gM_s C hW q787 dX6_draw_20 ?_
  refine lv_iconst (v := 4) hx hb dX6_draw_23 (by decide) ?_
  refine lM_s_k (k := 4) C hW (by decide) (by decide) dX6_draw_24 ?_
  refine lv_bipush (v := 8) hx hb dX6_draw_25 (by decide) ?_
  refine lv_iushr hx hb dX6_draw_27 rfl ?_
  obtain ⟨rfl, rfl⟩ := Prod.mk.inj (Option.some.inj hm)
  exact en_i C hr hlk hW dX6_draw_28
theorem kX6_draw : KM yX6_draw cX6_draw 1 (some .int) 0 := ⟨q1126, q50, q72, q1127, by decide +kernel, by decide +kernel, by decide +kernel⟩
def X6_quarrels_b89 (k41 : MS → Int32 → Int32 → Option (Int32 × MS)) (σ : MS) (x1 : Int32) (x2 : Int32) : Option (Int32 × MS) := (X6_minute σ).bind fun s2 => k41 s2 x1 ((x2 + (1 : Int32)))
set_option maxHeartbeats 4000000 in
set_option maxRecDepth 100000 in
theorem wX6_quarrels_b89 {p : Program} {l : Launch} {e : Env} {s : State} {m : MethodId} {below : List Frame} {meth : Method} {c : Code} {D : va_G} {cy cz : ClassId} {G : GT} {A : Nat → Prop} {args : Array Value} {a : Nat → Nat} {r : Int32} {σr : MS} (C : Cx p s m args c cX6_quarrels 5 "PumpTalkModel" D cy cz G A) (hr : meth.sig.returnType = some .int) (hlk : meth.locks = false) {k41 : MS → Int32 → Int32 → Option (Int32 × MS)} (hk41 : ∀ (σ : MS) (x1 : Int32) (x2 : Int32) (H : Heap) (locs : List Loc) (ls : Array Slot), k41 σ x1 x2 = some (r, σr) → Wd D A s.heap H locs (cM a cy σ) → lv_has ls 5 [(0, .ref (a 0)), (1, .int x1), (2, .int x2)] → W p l e (rmz 5 114) s m args below meth c H locs 0 0 (MQ below (QI D cy cz A (cM a cy σr) r) args s 0 0 A) (F0 m 41 ls [])) : ∀ (σ : MS) (x1 : Int32) (x2 : Int32) (H : Heap) (locs : List Loc) (ls : Array Slot), X6_quarrels_b89 k41 σ x1 x2 = some (r, σr) → Wd D A s.heap H locs (cM a cy σ) → lv_has ls 5 [(0, .ref (a 0)), (1, .int x1), (2, .int x2)] → W p l e (rmz 5 114) s m args below meth c H locs 0 0 (MQ below (QI D cy cz A (cM a cy σr) r) args s 0 0 A) (F0 m 89 ls []) := by
  have hx := C.1
  have hb := C.2.1
  intro σ x1 x2 H locs ls hm hW hl
  unfold X6_quarrels_b89 at hm
  refine lv_aload_n hx hb dX6_quarrels_89 rfl (lv_at hl 0 rfl) ?_
  obtain ⟨s2, e1, hm⟩ := mi_bind hm
  refine cs_v (q0 := 0) (As := []) (rest := []) C hW (c_X6_minute e1) kX6_minute q969 rfl rfl rfl rfl rfl hl.1 ⟨Nat.le_of_ble_eq_true rfl, Nat.le_of_ble_eq_true rfl⟩ ⟨Nat.le_refl 0, Nat.le_refl 0⟩ (Nat.le_of_ble_eq_true rfl) dX6_quarrels_90 (fun H locs hW => ?_)
  refine lv_iinc (v := (x2 + (1 : Int32))) (lv' := [(2, .int (x2 + (1 : Int32))), (0, .ref (a 0)), (1, .int x1)]) hx hb dX6_quarrels_93 hl (k := 2) rfl (congrArg (fun z : Int32 => x2 + z) (by decide)) (by decide) rfl (fun ls hl => ?_)
  refine lv_goto (tgt := 41) hx hb dX6_quarrels_96 (by decide) ?_
  exact hk41 s2 x1 ((x2 + (1 : Int32))) _ _ _ hm hW (lv_sub hl [1, 2, 0] rfl)
def X6_quarrels_b41 : Nat → MS → Int32 → Int32 → Option (Int32 × MS)
  | 0, _, _, _ => none
  | n + 1, σ, x1, x2 => if x1 ≤ x2 then (some ((σ 0 2), σ)) else ((X6_draw σ).bind fun q5 => (X6_draw q5.2).bind fun q7 => (X6_areTwo q7.2 (q5.1 - q5.1 / (8 : Int32) * (8 : Int32)) (q7.1 - q7.1 / (8 : Int32) * (8 : Int32))).bind fun v9 => if v9 = (0 : Int32) then (X6_quarrels_b89 (X6_quarrels_b41 n) q7.2 x1 x2) else (X6_quarrels_b89 (X6_quarrels_b41 n) (su (su q7.2 0 5 (q5.1 - q5.1 / (8 : Int32) * (8 : Int32))) 0 6 (q7.1 - q7.1 / (8 : Int32) * (8 : Int32))) x1 x2))
set_option maxHeartbeats 4000000 in
set_option maxRecDepth 100000 in
theorem wX6_quarrels_b41 {p : Program} {l : Launch} {e : Env} {s : State} {m : MethodId} {below : List Frame} {meth : Method} {c : Code} {D : va_G} {cy cz : ClassId} {G : GT} {A : Nat → Prop} {args : Array Value} {a : Nat → Nat} {r : Int32} {σr : MS} (C : Cx p s m args c cX6_quarrels 5 "PumpTalkModel" D cy cz G A) (hr : meth.sig.returnType = some .int) (hlk : meth.locks = false) : ∀ (n : Nat) (σ : MS) (x1 : Int32) (x2 : Int32) (H : Heap) (locs : List Loc) (ls : Array Slot), X6_quarrels_b41 n σ x1 x2 = some (r, σr) → Wd D A s.heap H locs (cM a cy σ) → lv_has ls 5 [(0, .ref (a 0)), (1, .int x1), (2, .int x2)] → W p l e (rmz 5 114) s m args below meth c H locs 0 0 (MQ below (QI D cy cz A (cM a cy σr) r) args s 0 0 A) (F0 m 41 ls []) := by
  have hx := C.1
  have hb := C.2.1
  intro n
  induction n with
  | zero =>
    intro σ x1 x2 H locs ls hm
    rw [X6_quarrels_b41] at hm
    cases hm
  | succ n ih =>
    intro σ x1 x2 H locs ls hm hW hl
    rw [X6_quarrels_b41] at hm
    refine lv_iload_n hx hb dX6_quarrels_41 rfl (lv_at hl 2 rfl) ?_
    refine lv_iload_n hx hb dX6_quarrels_42 rfl (lv_at hl 1 rfl) ?_
    refine lv_icmp_ge (tgt := 99) hx hb dX6_quarrels_43 (by decide) (fun hc3 => ?_) (fun hc3 => ?_)
    · rw [if_pos hc3] at hm
      refine lv_aload_n hx hb dX6_quarrels_99 rfl (lv_at hl 0 rfl) ?_
      refine gM_s C hW q787 dX6_quarrels_100 ?_
      refine lv_iconst (v := 2) hx hb dX6_quarrels_103 (by decide) ?_
      refine lM_s_k (k := 2) C hW (by decide) (by decide) dX6_quarrels_104 ?_
      obtain ⟨rfl, rfl⟩ := Prod.mk.inj (Option.some.inj hm)
      exact en_i C hr hlk hW dX6_quarrels_105
    · rw [if_neg hc3] at hm
      refine lv_aload_n hx hb dX6_quarrels_46 rfl (lv_at hl 0 rfl) ?_
      obtain ⟨q5, e4, hm⟩ := mi_bind hm
      refine cs_i (q0 := 0) (As := []) (rest := []) C hW (c_X6_draw e4) kX6_draw q1124 rfl rfl rfl rfl rfl hl.1 ⟨Nat.le_of_ble_eq_true rfl, Nat.le_of_ble_eq_true rfl⟩ ⟨Nat.le_refl 0, Nat.le_refl 0⟩ (Nat.le_of_ble_eq_true rfl) dX6_quarrels_47 (fun H locs hW => ?_)
      refine lv_bipush (v := 8) hx hb dX6_quarrels_50 (by decide) ?_
      refine lv_irem hx hb dX6_quarrels_52 (by decide) ?_
      refine lv_istore_n (lv' := [(3, .int (q5.1 - q5.1 / (8 : Int32) * (8 : Int32))), (0, .ref (a 0)), (1, .int x1), (2, .int x2)]) hx hb dX6_quarrels_53 rfl hl (by decide) rfl (fun ls hl => ?_)
      refine lv_aload_n hx hb dX6_quarrels_54 rfl (lv_at hl 1 rfl) ?_
      obtain ⟨q7, e6, hm⟩ := mi_bind hm
      refine cs_i (q0 := 0) (As := []) (rest := []) C hW (c_X6_draw e6) kX6_draw q1124 rfl rfl rfl rfl rfl hl.1 ⟨Nat.le_of_ble_eq_true rfl, Nat.le_of_ble_eq_true rfl⟩ ⟨Nat.le_refl 0, Nat.le_refl 0⟩ (Nat.le_of_ble_eq_true rfl) dX6_quarrels_55 (fun H locs hW => ?_)
      refine lv_bipush (v := 8) hx hb dX6_quarrels_58 (by decide) ?_
      refine lv_irem hx hb dX6_quarrels_60 (by decide) ?_
      refine lv_istore (lv' := [(4, .int (q7.1 - q7.1 / (8 : Int32) * (8 : Int32))), (3, .int (q5.1 - q5.1 / (8 : Int32) * (8 : Int32))), (0, .ref (a 0)), (1, .int x1), (2, .int x2)]) hx hb dX6_quarrels_61 hl (by decide) rfl (fun ls hl => ?_)
      refine lv_aload_n hx hb dX6_quarrels_63 rfl (lv_at hl 2 rfl) ?_
      refine lv_iload_n hx hb dX6_quarrels_64 rfl (lv_at hl 1 rfl) ?_
      refine lv_iload hx hb dX6_quarrels_65 (lv_at hl 0 rfl) ?_
      obtain ⟨v9, e8, hm⟩ := mi_bind hm
      refine cs_i (q0 := 0) (As := [.int (q5.1 - q5.1 / (8 : Int32) * (8 : Int32)), .int (q7.1 - q7.1 / (8 : Int32) * (8 : Int32))]) (rest := []) C hW (c_X6_areTwo e8) kX6_areTwo q935 rfl rfl rfl rfl rfl hl.1 ⟨Nat.le_of_ble_eq_true rfl, Nat.le_of_ble_eq_true rfl⟩ ⟨Nat.le_refl 0, Nat.le_refl 0⟩ (Nat.le_of_ble_eq_true rfl) dX6_quarrels_67 (fun H locs hW => ?_)
      refine lv_if_eq (tgt := 89) hx hb dX6_quarrels_70 (by decide) (fun hc10 => ?_) (fun hc10 => ?_)
      · rw [if_pos hc10] at hm
        exact wX6_quarrels_b89 C hr hlk ih q7.2 x1 x2 _ _ _ hm hW (lv_sub hl [2, 3, 4] rfl)
      · rw [if_neg hc10] at hm
        refine lv_aload_n hx hb dX6_quarrels_73 rfl (lv_at hl 2 rfl) ?_
        refine gM_s C hW q787 dX6_quarrels_74 ?_
        refine lv_iconst (v := 5) hx hb dX6_quarrels_77 (by decide) ?_
        refine lv_iload_n hx hb dX6_quarrels_78 rfl (lv_at hl 1 rfl) ?_
        refine tM_s_k (k := 5) C hW (by decide) (by decide) dX6_quarrels_79 (fun H locs hW => ?_)
        refine lv_aload_n hx hb dX6_quarrels_80 rfl (lv_at hl 2 rfl) ?_
        refine gM_s C hW q787 dX6_quarrels_81 ?_
        refine lv_bipush (v := 6) hx hb dX6_quarrels_84 (by decide) ?_
        refine lv_iload hx hb dX6_quarrels_86 (lv_at hl 0 rfl) ?_
        refine tM_s_k (k := 6) C hW (by decide) (by decide) dX6_quarrels_88 (fun H locs hW => ?_)
        exact wX6_quarrels_b89 C hr hlk ih (su (su q7.2 0 5 (q5.1 - q5.1 / (8 : Int32) * (8 : Int32))) 0 6 (q7.1 - q7.1 / (8 : Int32) * (8 : Int32))) x1 x2 _ _ _ hm hW (lv_sub hl [2, 3, 4] rfl)
def X6_quarrels (σ : MS) (p1 : Int32) : Option (Int32 × MS) := (X6_in (Int32.toInt64 p1) (1 : Int64) (20 : Int64)).bind fun v12 => if v12 = (0 : Int32) then ((X6_finds σ (-1000001 : Int32)).bind fun q18 => some (q18.1, q18.2)) else (if ((σ 0 0) + p1) ≤ (99999 : Int32) then (X6_quarrels_b41 FU σ p1 (0 : Int32)) else ((X6_finds σ (-1000005 : Int32)).bind fun q16 => some (q16.1, q16.2)))
set_option maxHeartbeats 4000000 in
set_option maxRecDepth 100000 in
theorem c_X6_quarrels {l : Launch} {D : va_G} {cy cz : ClassId} {G : GT} {a : Nat → Nat} {σ : MS} {p1 : Int32} {r : Int32} {σr : MS} (hm : X6_quarrels σ p1 = some (r, σr)) : CtI l D cy cz G yX6_quarrels cX6_quarrels 5 (some .int) 5 114 [.ref (a 0), .int p1] (cM a cy σ) (cM a cy σr) r := by
  refine ct_i (own := "PumpTalkModel") (by decide) rfl (Nat.le_of_ble_eq_true rfl) ?_
  intro p e s m below meth c ls A C hr hlk hW hl
  have hx := C.1
  have hb := C.2.1
  have hl : lv_has ls 5 [(0, .ref (a 0)), (1, .int p1)] := hl
  unfold X6_quarrels at hm
  refine lv_iload_n hx hb dX6_quarrels_0 rfl (lv_at hl 1 rfl) ?_
  refine lv_i2l hx hb dX6_quarrels_1 rfl ?_
  refine lv_lconst (v := 1) hx hb dX6_quarrels_2 (by decide) ?_
  refine lv_ldc2 hx hb C.2.2.2.1 (C.2.2.2.2.1 _ q1123) dX6_quarrels_3 ?_
  obtain ⟨v12, e11, hm⟩ := mi_bind hm
  refine cS_i (As := [.long (Int32.toInt64 p1), .long (1 : Int64), .long (20 : Int64)]) (rest := []) C hW (c_X6_in e11) kX6_in q862 rfl rfl hl.1 ⟨Nat.le_of_ble_eq_true rfl, Nat.le_of_ble_eq_true rfl⟩ ⟨Nat.le_refl 0, Nat.le_refl 0⟩ (Nat.le_of_ble_eq_true rfl) dX6_quarrels_6 (fun H locs hW => ?_)
  refine lv_if_ne (tgt := 19) hx hb dX6_quarrels_9 (by decide) (fun hc13 => ?_) (fun hc13 => ?_)
  · rw [if_neg hc13] at hm
    refine lv_aload_n hx hb dX6_quarrels_19 rfl (lv_at hl 0 rfl) ?_
    refine gM_s C hW q787 dX6_quarrels_20 ?_
    refine lv_iconst (v := 0) hx hb dX6_quarrels_23 (by decide) ?_
    refine lM_s_k (k := 0) C hW (by decide) (by decide) dX6_quarrels_24 ?_
    refine lv_iload_n hx hb dX6_quarrels_25 rfl (lv_at hl 1 rfl) ?_
    refine lv_iadd hx hb dX6_quarrels_26 ?_
    refine lv_ldc hx hb C.2.2.2.1 (C.2.2.2.2.1 _ q963) dX6_quarrels_27 ?_
    refine lv_icmp_le (tgt := 39) hx hb dX6_quarrels_29 (by decide) (fun hc14 => ?_) (fun hc14 => ?_)
    · rw [if_pos hc14] at hm
      refine lv_iconst (v := 0) hx hb dX6_quarrels_39 (by decide) ?_
      refine lv_istore_n (lv' := [(2, .int (0 : Int32)), (0, .ref (a 0)), (1, .int p1)]) hx hb dX6_quarrels_40 rfl hl (by decide) rfl (fun ls hl => ?_)
      exact wX6_quarrels_b41 C hr hlk FU σ p1 (0 : Int32) _ _ _ hm hW (lv_sub hl [1, 2, 0] rfl)
    · rw [if_neg hc14] at hm
      refine lv_aload_n hx hb dX6_quarrels_32 rfl (lv_at hl 0 rfl) ?_
      refine lv_ldc hx hb C.2.2.2.1 (C.2.2.2.2.1 _ q964) dX6_quarrels_33 ?_
      obtain ⟨q16, e15, hm⟩ := mi_bind hm
      refine cs_i (q0 := 0) (As := [.int (-1000005 : Int32)]) (rest := []) C hW (c_X6_finds e15) kX6_finds q866 rfl rfl rfl rfl rfl hl.1 ⟨Nat.le_of_ble_eq_true rfl, Nat.le_of_ble_eq_true rfl⟩ ⟨Nat.le_refl 0, Nat.le_refl 0⟩ (Nat.le_of_ble_eq_true rfl) dX6_quarrels_35 (fun H locs hW => ?_)
      obtain ⟨rfl, rfl⟩ := Prod.mk.inj (Option.some.inj hm)
      exact en_i C hr hlk hW dX6_quarrels_38
  · rw [if_pos hc13] at hm
    refine lv_aload_n hx hb dX6_quarrels_12 rfl (lv_at hl 0 rfl) ?_
    refine lv_ldc hx hb C.2.2.2.1 (C.2.2.2.2.1 _ q865) dX6_quarrels_13 ?_
    obtain ⟨q18, e17, hm⟩ := mi_bind hm
    refine cs_i (q0 := 0) (As := [.int (-1000001 : Int32)]) (rest := []) C hW (c_X6_finds e17) kX6_finds q866 rfl rfl rfl rfl rfl hl.1 ⟨Nat.le_of_ble_eq_true rfl, Nat.le_of_ble_eq_true rfl⟩ ⟨Nat.le_refl 0, Nat.le_refl 0⟩ (Nat.le_of_ble_eq_true rfl) dX6_quarrels_15 (fun H locs hW => ?_)
    obtain ⟨rfl, rfl⟩ := Prod.mk.inj (Option.some.inj hm)
    exact en_i C hr hlk hW dX6_quarrels_18
theorem kX6_quarrels : KM yX6_quarrels cX6_quarrels 5 (some .int) 1 := ⟨q1120, q1121, q72, q1122, by decide +kernel, by decide +kernel, by decide +kernel⟩
def X6_odds_b113 (k87 : MS → Int32 → Int32 → Int32 → Int32 → Int64 → Int32 → Option (Int64 × MS)) (σ : MS) (x1 : Int32) (x2 : Int32) (x3 : Int32) (x4 : Int32) (x7 : Int32) (y0 : Int64) (y1 : Int64) : Option (Int64 × MS) := k87 σ x1 x2 x3 x4 (y0 * y1) ((x7 + (1 : Int32)))
set_option maxHeartbeats 4000000 in
set_option maxRecDepth 100000 in
theorem wX6_odds_b113 {p : Program} {l : Launch} {e : Env} {s : State} {m : MethodId} {below : List Frame} {meth : Method} {c : Code} {D : va_G} {cy cz : ClassId} {G : GT} {A : Nat → Prop} {args : Array Value} {a : Nat → Nat} {r : Int64} {σr : MS} (C : Cx p s m args c cX6_odds 8 "PumpTalkModel" D cy cz G A) (hr : meth.sig.returnType = some .long) (hlk : meth.locks = false) {k87 : MS → Int32 → Int32 → Int32 → Int32 → Int64 → Int32 → Option (Int64 × MS)} (hk87 : ∀ (σ : MS) (x1 : Int32) (x2 : Int32) (x3 : Int32) (x4 : Int32) (x5 : Int64) (x7 : Int32) (H : Heap) (locs : List Loc) (ls : Array Slot), k87 σ x1 x2 x3 x4 x5 x7 = some (r, σr) → Wd D A s.heap H locs (cM a cy σ) → lv_has ls 8 [(1, .int x1), (2, .int x2), (3, .int x3), (4, .int x4), (5, .long x5), (7, .int x7)] → W p l e (rmz 1 25) s m args below meth c H locs 0 0 (MQ below (QL D cy cz A (cM a cy σr) r) args s 0 0 A) (F0 m 87 ls [])) : ∀ (σ : MS) (x1 : Int32) (x2 : Int32) (x3 : Int32) (x4 : Int32) (x7 : Int32) (y0 : Int64) (y1 : Int64) (H : Heap) (locs : List Loc) (ls : Array Slot), X6_odds_b113 k87 σ x1 x2 x3 x4 x7 y0 y1 = some (r, σr) → Wd D A s.heap H locs (cM a cy σ) → lv_has ls 8 [(1, .int x1), (2, .int x2), (3, .int x3), (4, .int x4), (7, .int x7)] → W p l e (rmz 1 25) s m args below meth c H locs 0 0 (MQ below (QL D cy cz A (cM a cy σr) r) args s 0 0 A) (F0 m 113 ls [.long y1, .long y0]) := by
  have hx := C.1
  have hb := C.2.1
  intro σ x1 x2 x3 x4 x7 y0 y1 H locs ls hm hW hl
  unfold X6_odds_b113 at hm
  refine lv_lmul hx hb dX6_odds_113 ?_
  refine lv_lstore (lv' := [(5, .long (y0 * y1)), (1, .int x1), (2, .int x2), (3, .int x3), (4, .int x4), (7, .int x7)]) hx hb dX6_odds_114 hl (by decide) rfl (fun ls hl => ?_)
  refine lv_iinc (v := (x7 + (1 : Int32))) (lv' := [(7, .int (x7 + (1 : Int32))), (5, .long (y0 * y1)), (1, .int x1), (2, .int x2), (3, .int x3), (4, .int x4)]) hx hb dX6_odds_116 hl (k := 5) rfl (congrArg (fun z : Int32 => x7 + z) (by decide)) (by decide) rfl (fun ls hl => ?_)
  refine lv_goto (tgt := 87) hx hb dX6_odds_119 (by decide) ?_
  exact hk87 σ x1 x2 x3 x4 (y0 * y1) ((x7 + (1 : Int32))) _ _ _ hm hW (lv_sub hl [2, 3, 4, 5, 1, 0] rfl)
def X6_odds_b87 : Nat → MS → Int32 → Int32 → Int32 → Int32 → Int64 → Int32 → Option (Int64 × MS)
  | 0, _, _, _, _, _, _, _ => none
  | n + 1, σ, x1, x2, x3, x4, x5, x7 => if x1 ≤ x7 then (some (x5, σ)) else (if x2 = (0 : Int32) then (nz x4 (X6_odds_b113 (X6_odds_b87 n) σ x1 x2 x3 x4 x7 x5 ((Int32.toInt64 (x3 / x4))))) else (nz x4 (X6_odds_b113 (X6_odds_b87 n) σ x1 x2 x3 x4 x7 x5 ((Int32.toInt64 ((64 : Int32) / x4))))))
set_option maxHeartbeats 4000000 in
set_option maxRecDepth 100000 in
theorem wX6_odds_b87 {p : Program} {l : Launch} {e : Env} {s : State} {m : MethodId} {below : List Frame} {meth : Method} {c : Code} {D : va_G} {cy cz : ClassId} {G : GT} {A : Nat → Prop} {args : Array Value} {a : Nat → Nat} {r : Int64} {σr : MS} (C : Cx p s m args c cX6_odds 8 "PumpTalkModel" D cy cz G A) (hr : meth.sig.returnType = some .long) (hlk : meth.locks = false) : ∀ (n : Nat) (σ : MS) (x1 : Int32) (x2 : Int32) (x3 : Int32) (x4 : Int32) (x5 : Int64) (x7 : Int32) (H : Heap) (locs : List Loc) (ls : Array Slot), X6_odds_b87 n σ x1 x2 x3 x4 x5 x7 = some (r, σr) → Wd D A s.heap H locs (cM a cy σ) → lv_has ls 8 [(1, .int x1), (2, .int x2), (3, .int x3), (4, .int x4), (5, .long x5), (7, .int x7)] → W p l e (rmz 1 25) s m args below meth c H locs 0 0 (MQ below (QL D cy cz A (cM a cy σr) r) args s 0 0 A) (F0 m 87 ls []) := by
  have hx := C.1
  have hb := C.2.1
  intro n
  induction n with
  | zero =>
    intro σ x1 x2 x3 x4 x5 x7 H locs ls hm
    rw [X6_odds_b87] at hm
    cases hm
  | succ n ih =>
    intro σ x1 x2 x3 x4 x5 x7 H locs ls hm hW hl
    rw [X6_odds_b87] at hm
    refine lv_iload hx hb dX6_odds_87 (lv_at hl 5 rfl) ?_
    refine lv_iload_n hx hb dX6_odds_89 rfl (lv_at hl 0 rfl) ?_
    refine lv_icmp_ge (tgt := 122) hx hb dX6_odds_90 (by decide) (fun hc1 => ?_) (fun hc1 => ?_)
    · rw [if_pos hc1] at hm
      refine lv_lload hx hb dX6_odds_122 (lv_at hl 4 rfl) ?_
      obtain ⟨rfl, rfl⟩ := Prod.mk.inj (Option.some.inj hm)
      exact en_l C hr hlk hW dX6_odds_124
    · rw [if_neg hc1] at hm
      refine lv_lload hx hb dX6_odds_93 (lv_at hl 4 rfl) ?_
      refine lv_iload_n hx hb dX6_odds_95 rfl (lv_at hl 1 rfl) ?_
      refine lv_if_ne (tgt := 107) hx hb dX6_odds_96 (by decide) (fun hc2 => ?_) (fun hc2 => ?_)
      · rw [if_neg hc2] at hm
        refine lv_bipush (v := 64) hx hb dX6_odds_107 (by decide) ?_
        refine lv_iload hx hb dX6_odds_109 (lv_at hl 3 rfl) ?_
        obtain ⟨hz3, hm⟩ := mi_nz hm
        refine lv_idiv hx hb dX6_odds_111 hz3 ?_
        refine lv_i2l hx hb dX6_odds_112 rfl ?_
        exact wX6_odds_b113 C hr hlk ih σ x1 x2 x3 x4 x7 x5 ((Int32.toInt64 ((64 : Int32) / x4))) _ _ _ hm hW (lv_sub hl [0, 1, 2, 3, 5] rfl)
      · rw [if_pos hc2] at hm
        refine lv_iload_n hx hb dX6_odds_99 rfl (lv_at hl 2 rfl) ?_
        refine lv_iload hx hb dX6_odds_100 (lv_at hl 3 rfl) ?_
        obtain ⟨hz4, hm⟩ := mi_nz hm
        refine lv_idiv hx hb dX6_odds_102 hz4 ?_
        refine lv_i2l hx hb dX6_odds_103 rfl ?_
        refine lv_goto (tgt := 113) hx hb dX6_odds_104 (by decide) ?_
        exact wX6_odds_b113 C hr hlk ih σ x1 x2 x3 x4 x7 x5 ((Int32.toInt64 (x3 / x4))) _ _ _ hm hW (lv_sub hl [0, 1, 2, 3, 5] rfl)
def X6_odds_b60 : Nat → MS → Int32 → Int32 → Int32 → Int32 → Option (Int64 × MS)
  | 0, _, _, _, _, _ => none
  | n + 1, σ, x1, x2, x3, x4 => nz x4 (if (x3 - x3 / x4 * x4) = (0 : Int32) then (nz x4 (if ((64 : Int32) - (64 : Int32) / x4 * x4) = (0 : Int32) then (X6_odds_b87 FU σ x1 x2 x3 x4 (1 : Int64) (0 : Int32)) else (X6_odds_b60 n σ x1 x2 x3 ((x4 + (-1 : Int32)))))) else (X6_odds_b60 n σ x1 x2 x3 ((x4 + (-1 : Int32)))))
set_option maxHeartbeats 4000000 in
set_option maxRecDepth 100000 in
theorem wX6_odds_b60 {p : Program} {l : Launch} {e : Env} {s : State} {m : MethodId} {below : List Frame} {meth : Method} {c : Code} {D : va_G} {cy cz : ClassId} {G : GT} {A : Nat → Prop} {args : Array Value} {a : Nat → Nat} {r : Int64} {σr : MS} (C : Cx p s m args c cX6_odds 8 "PumpTalkModel" D cy cz G A) (hr : meth.sig.returnType = some .long) (hlk : meth.locks = false) : ∀ (n : Nat) (σ : MS) (x1 : Int32) (x2 : Int32) (x3 : Int32) (x4 : Int32) (H : Heap) (locs : List Loc) (ls : Array Slot), X6_odds_b60 n σ x1 x2 x3 x4 = some (r, σr) → Wd D A s.heap H locs (cM a cy σ) → lv_has ls 8 [(1, .int x1), (2, .int x2), (3, .int x3), (4, .int x4)] → W p l e (rmz 1 25) s m args below meth c H locs 0 0 (MQ below (QL D cy cz A (cM a cy σr) r) args s 0 0 A) (F0 m 60 ls []) := by
  have hx := C.1
  have hb := C.2.1
  intro n
  induction n with
  | zero =>
    intro σ x1 x2 x3 x4 H locs ls hm
    rw [X6_odds_b60] at hm
    cases hm
  | succ n ih =>
    intro σ x1 x2 x3 x4 H locs ls hm hW hl
    rw [X6_odds_b60] at hm
    refine lv_iload_n hx hb dX6_odds_60 rfl (lv_at hl 2 rfl) ?_
    refine lv_iload hx hb dX6_odds_61 (lv_at hl 3 rfl) ?_
    obtain ⟨hz5, hm⟩ := mi_nz hm
    refine lv_irem hx hb dX6_odds_63 hz5 ?_
    refine lv_if_ne (tgt := 75) hx hb dX6_odds_64 (by decide) (fun hc6 => ?_) (fun hc6 => ?_)
    · rw [if_neg hc6] at hm
      refine lv_iinc (v := (x4 + (-1 : Int32))) (lv' := [(4, .int (x4 + (-1 : Int32))), (1, .int x1), (2, .int x2), (3, .int x3)]) hx hb dX6_odds_75 hl (k := 3) rfl (congrArg (fun z : Int32 => x4 + z) (by decide)) (by decide) rfl (fun ls hl => ?_)
      refine lv_goto (tgt := 60) hx hb dX6_odds_78 (by decide) ?_
      exact ih σ x1 x2 x3 ((x4 + (-1 : Int32))) _ _ _ hm hW (lv_sub hl [1, 2, 3, 0] rfl)
    · rw [if_pos hc6] at hm
      refine lv_bipush (v := 64) hx hb dX6_odds_67 (by decide) ?_
      refine lv_iload hx hb dX6_odds_69 (lv_at hl 3 rfl) ?_
      obtain ⟨hz7, hm⟩ := mi_nz hm
      refine lv_irem hx hb dX6_odds_71 hz7 ?_
      refine lv_if_eq (tgt := 81) hx hb dX6_odds_72 (by decide) (fun hc8 => ?_) (fun hc8 => ?_)
      · rw [if_pos hc8] at hm
        refine lv_lconst (v := 1) hx hb dX6_odds_81 (by decide) ?_
        refine lv_lstore (lv' := [(5, .long (1 : Int64)), (1, .int x1), (2, .int x2), (3, .int x3), (4, .int x4)]) hx hb dX6_odds_82 hl (by decide) rfl (fun ls hl => ?_)
        refine lv_iconst (v := 0) hx hb dX6_odds_84 (by decide) ?_
        refine lv_istore (lv' := [(7, .int (0 : Int32)), (5, .long (1 : Int64)), (1, .int x1), (2, .int x2), (3, .int x3), (4, .int x4)]) hx hb dX6_odds_85 hl (by decide) rfl (fun ls hl => ?_)
        exact wX6_odds_b87 C hr hlk FU σ x1 x2 x3 x4 (1 : Int64) (0 : Int32) _ _ _ hm hW (lv_sub hl [2, 3, 4, 5, 1, 0] rfl)
      · rw [if_neg hc8] at hm
        refine lv_iinc (v := (x4 + (-1 : Int32))) (lv' := [(4, .int (x4 + (-1 : Int32))), (1, .int x1), (2, .int x2), (3, .int x3)]) hx hb dX6_odds_75 hl (k := 3) rfl (congrArg (fun z : Int32 => x4 + z) (by decide)) (by decide) rfl (fun ls hl => ?_)
        refine lv_goto (tgt := 60) hx hb dX6_odds_78 (by decide) ?_
        exact ih σ x1 x2 x3 ((x4 + (-1 : Int32))) _ _ _ hm hW (lv_sub hl [1, 2, 3, 0] rfl)
def X6_odds_b55 (σ : MS) (x1 : Int32) (x2 : Int32) (y0 : Int32) : Option (Int64 × MS) := X6_odds_b60 FU σ x1 x2 y0 (64 : Int32)
set_option maxHeartbeats 4000000 in
set_option maxRecDepth 100000 in
theorem wX6_odds_b55 {p : Program} {l : Launch} {e : Env} {s : State} {m : MethodId} {below : List Frame} {meth : Method} {c : Code} {D : va_G} {cy cz : ClassId} {G : GT} {A : Nat → Prop} {args : Array Value} {a : Nat → Nat} {r : Int64} {σr : MS} (C : Cx p s m args c cX6_odds 8 "PumpTalkModel" D cy cz G A) (hr : meth.sig.returnType = some .long) (hlk : meth.locks = false) : ∀ (σ : MS) (x1 : Int32) (x2 : Int32) (y0 : Int32) (H : Heap) (locs : List Loc) (ls : Array Slot), X6_odds_b55 σ x1 x2 y0 = some (r, σr) → Wd D A s.heap H locs (cM a cy σ) → lv_has ls 8 [(1, .int x1), (2, .int x2)] → W p l e (rmz 1 25) s m args below meth c H locs 0 0 (MQ below (QL D cy cz A (cM a cy σr) r) args s 0 0 A) (F0 m 55 ls [.int y0]) := by
  have hx := C.1
  have hb := C.2.1
  intro σ x1 x2 y0 H locs ls hm hW hl
  unfold X6_odds_b55 at hm
  refine lv_istore_n (lv' := [(3, .int y0), (1, .int x1), (2, .int x2)]) hx hb dX6_odds_55 rfl hl (by decide) rfl (fun ls hl => ?_)
  refine lv_bipush (v := 64) hx hb dX6_odds_56 (by decide) ?_
  refine lv_istore (lv' := [(4, .int (64 : Int32)), (3, .int y0), (1, .int x1), (2, .int x2)]) hx hb dX6_odds_58 hl (by decide) rfl (fun ls hl => ?_)
  exact wX6_odds_b60 C hr hlk FU σ x1 x2 y0 (64 : Int32) _ _ _ hm hW (lv_sub hl [2, 3, 1, 0] rfl)
def X6_odds_b22 (σ : MS) : Option (Int64 × MS) := (X6_finds σ (-1000001 : Int32)).bind fun q10 => some ((Int32.toInt64 q10.1), q10.2)
set_option maxHeartbeats 4000000 in
set_option maxRecDepth 100000 in
theorem wX6_odds_b22 {p : Program} {l : Launch} {e : Env} {s : State} {m : MethodId} {below : List Frame} {meth : Method} {c : Code} {D : va_G} {cy cz : ClassId} {G : GT} {A : Nat → Prop} {args : Array Value} {a : Nat → Nat} {r : Int64} {σr : MS} (C : Cx p s m args c cX6_odds 8 "PumpTalkModel" D cy cz G A) (hr : meth.sig.returnType = some .long) (hlk : meth.locks = false) : ∀ (σ : MS) (H : Heap) (locs : List Loc) (ls : Array Slot), X6_odds_b22 σ = some (r, σr) → Wd D A s.heap H locs (cM a cy σ) → lv_has ls 8 [(0, .ref (a 0))] → W p l e (rmz 1 25) s m args below meth c H locs 0 0 (MQ below (QL D cy cz A (cM a cy σr) r) args s 0 0 A) (F0 m 22 ls []) := by
  have hx := C.1
  have hb := C.2.1
  intro σ H locs ls hm hW hl
  unfold X6_odds_b22 at hm
  refine lv_aload_n hx hb dX6_odds_22 rfl (lv_at hl 0 rfl) ?_
  refine lv_ldc hx hb C.2.2.2.1 (C.2.2.2.2.1 _ q865) dX6_odds_23 ?_
  obtain ⟨q10, e9, hm⟩ := mi_bind hm
  refine cs_i (q0 := 0) (As := [.int (-1000001 : Int32)]) (rest := []) C hW (c_X6_finds e9) kX6_finds q866 rfl rfl rfl rfl rfl hl.1 ⟨Nat.le_of_ble_eq_true rfl, Nat.le_of_ble_eq_true rfl⟩ ⟨Nat.le_refl 0, Nat.le_refl 0⟩ (Nat.le_of_ble_eq_true rfl) dX6_odds_25 (fun H locs hW => ?_)
  refine lv_i2l hx hb dX6_odds_28 rfl ?_
  obtain ⟨rfl, rfl⟩ := Prod.mk.inj (Option.some.inj hm)
  exact en_l C hr hlk hW dX6_odds_29
def X6_odds (σ : MS) (p1 : Int32) (p2 : Int32) : Option (Int64 × MS) := (X6_in (Int32.toInt64 p1) (0 : Int64) (10 : Int64)).bind fun v12 => if v12 = (0 : Int32) then (X6_odds_b22 σ) else ((X6_in (Int32.toInt64 p2) (0 : Int64) (1 : Int64)).bind fun v15 => if v15 = (0 : Int32) then (X6_odds_b22 σ) else (if (0 : Int32) ≤ ((σ 0 1) * ((σ 0 1) - (1 : Int32))) then (X6_odds_b55 σ p1 p2 (((σ 0 1) * ((σ 0 1) - (1 : Int32))))) else (X6_odds_b55 σ p1 p2 (0 : Int32))))
set_option maxHeartbeats 4000000 in
set_option maxRecDepth 100000 in
theorem c_X6_odds {l : Launch} {D : va_G} {cy cz : ClassId} {G : GT} {a : Nat → Nat} {σ : MS} {p1 : Int32} {p2 : Int32} {r : Int64} {σr : MS} (hm : X6_odds σ p1 p2 = some (r, σr)) : CtL l D cy cz G yX6_odds cX6_odds 8 (some .long) 1 25 [.ref (a 0), .int p1, .int p2] (cM a cy σ) (cM a cy σr) r := by
  refine ct_l (own := "PumpTalkModel") (by decide) rfl (Nat.le_of_ble_eq_true rfl) ?_
  intro p e s m below meth c ls A C hr hlk hW hl
  have hx := C.1
  have hb := C.2.1
  have hl : lv_has ls 8 [(0, .ref (a 0)), (1, .int p1), (2, .int p2)] := hl
  unfold X6_odds at hm
  refine lv_iload_n hx hb dX6_odds_0 rfl (lv_at hl 1 rfl) ?_
  refine lv_i2l hx hb dX6_odds_1 rfl ?_
  refine lv_lconst (v := 0) hx hb dX6_odds_2 (by decide) ?_
  refine lv_ldc2 hx hb C.2.2.2.1 (C.2.2.2.2.1 _ q1133) dX6_odds_3 ?_
  obtain ⟨v12, e11, hm⟩ := mi_bind hm
  refine cS_i (As := [.long (Int32.toInt64 p1), .long (0 : Int64), .long (10 : Int64)]) (rest := []) C hW (c_X6_in e11) kX6_in q862 rfl rfl hl.1 ⟨Nat.le_of_ble_eq_true rfl, Nat.le_of_ble_eq_true rfl⟩ ⟨Nat.le_refl 0, Nat.le_refl 0⟩ (Nat.le_of_ble_eq_true rfl) dX6_odds_6 (fun H locs hW => ?_)
  refine lv_if_eq (tgt := 22) hx hb dX6_odds_9 (by decide) (fun hc13 => ?_) (fun hc13 => ?_)
  · rw [if_pos hc13] at hm
    exact wX6_odds_b22 C hr hlk σ _ _ _ hm hW (lv_sub hl [0] rfl)
  · rw [if_neg hc13] at hm
    refine lv_iload_n hx hb dX6_odds_12 rfl (lv_at hl 2 rfl) ?_
    refine lv_i2l hx hb dX6_odds_13 rfl ?_
    refine lv_lconst (v := 0) hx hb dX6_odds_14 (by decide) ?_
    refine lv_lconst (v := 1) hx hb dX6_odds_15 (by decide) ?_
    obtain ⟨v15, e14, hm⟩ := mi_bind hm
    refine cS_i (As := [.long (Int32.toInt64 p2), .long (0 : Int64), .long (1 : Int64)]) (rest := []) C hW (c_X6_in e14) kX6_in q862 rfl rfl hl.1 ⟨Nat.le_of_ble_eq_true rfl, Nat.le_of_ble_eq_true rfl⟩ ⟨Nat.le_refl 0, Nat.le_refl 0⟩ (Nat.le_of_ble_eq_true rfl) dX6_odds_16 (fun H locs hW => ?_)
    refine lv_if_ne (tgt := 30) hx hb dX6_odds_19 (by decide) (fun hc16 => ?_) (fun hc16 => ?_)
    · rw [if_neg hc16] at hm
      refine lv_aload_n hx hb dX6_odds_30 rfl (lv_at hl 0 rfl) ?_
      refine gM_s C hW q787 dX6_odds_31 ?_
      refine lv_iconst (v := 1) hx hb dX6_odds_34 (by decide) ?_
      refine lM_s_k (k := 1) C hW (by decide) (by decide) dX6_odds_35 ?_
      refine lv_aload_n hx hb dX6_odds_36 rfl (lv_at hl 0 rfl) ?_
      refine gM_s C hW q787 dX6_odds_37 ?_
      refine lv_iconst (v := 1) hx hb dX6_odds_40 (by decide) ?_
      refine lM_s_k (k := 1) C hW (by decide) (by decide) dX6_odds_41 ?_
      refine lv_iconst (v := 1) hx hb dX6_odds_42 (by decide) ?_
      refine lv_isub hx hb dX6_odds_43 ?_
      refine lv_imul hx hb dX6_odds_44 ?_
      refine lv_istore_n (lv' := [(3, .int ((σ 0 1) * ((σ 0 1) - (1 : Int32)))), (0, .ref (a 0)), (1, .int p1), (2, .int p2)]) hx hb dX6_odds_45 rfl hl (by decide) rfl (fun ls hl => ?_)
      refine lv_iload_n hx hb dX6_odds_46 rfl (lv_at hl 0 rfl) ?_
      refine lv_if_ge (tgt := 54) hx hb dX6_odds_47 (by decide) (fun hc17 => ?_) (fun hc17 => ?_)
      · rw [if_pos hc17] at hm
        refine lv_iload_n hx hb dX6_odds_54 rfl (lv_at hl 0 rfl) ?_
        exact wX6_odds_b55 C hr hlk σ p1 p2 (((σ 0 1) * ((σ 0 1) - (1 : Int32)))) _ _ _ hm hW (lv_sub hl [2, 3] rfl)
      · rw [if_neg hc17] at hm
        refine lv_iconst (v := 0) hx hb dX6_odds_50 (by decide) ?_
        refine lv_goto (tgt := 55) hx hb dX6_odds_51 (by decide) ?_
        exact wX6_odds_b55 C hr hlk σ p1 p2 (0 : Int32) _ _ _ hm hW (lv_sub hl [2, 3] rfl)
    · rw [if_pos hc16] at hm
      exact wX6_odds_b22 C hr hlk σ _ _ _ hm hW (lv_sub hl [0] rfl)
theorem kX6_odds : KM yX6_odds cX6_odds 8 (some .long) 2 := ⟨q1130, q1131, q72, q1132, by decide +kernel, by decide +kernel, by decide +kernel⟩
def X6_seed (σ : MS) (p1 : Int32) : Option (Int32 × MS) := (X6_becomes σ (4 : Int32) p1).bind fun q2 => some (q2.1, q2.2)
set_option maxHeartbeats 4000000 in
set_option maxRecDepth 100000 in
theorem c_X6_seed {l : Launch} {D : va_G} {cy cz : ClassId} {G : GT} {a : Nat → Nat} {σ : MS} {p1 : Int32} {r : Int32} {σr : MS} (hm : X6_seed σ p1 = some (r, σr)) : CtI l D cy cz G yX6_seed cX6_seed 2 (some .int) 1 23 [.ref (a 0), .int p1] (cM a cy σ) (cM a cy σr) r := by
  refine ct_i (own := "PumpTalkModel") (by decide) rfl (Nat.le_of_ble_eq_true rfl) ?_
  intro p e s m below meth c ls A C hr hlk hW hl
  have hx := C.1
  have hb := C.2.1
  have hl : lv_has ls 2 [(0, .ref (a 0)), (1, .int p1)] := hl
  unfold X6_seed at hm
  refine lv_aload_n hx hb dX6_seed_0 rfl (lv_at hl 0 rfl) ?_
  refine lv_iconst (v := 4) hx hb dX6_seed_1 (by decide) ?_
  refine lv_iload_n hx hb dX6_seed_2 rfl (lv_at hl 1 rfl) ?_
  obtain ⟨q2, e1, hm⟩ := mi_bind hm
  refine cs_i (q0 := 0) (As := [.int (4 : Int32), .int p1]) (rest := []) C hW (c_X6_becomes e1) kX6_becomes q902 rfl rfl rfl rfl rfl hl.1 ⟨Nat.le_of_ble_eq_true rfl, Nat.le_of_ble_eq_true rfl⟩ ⟨Nat.le_refl 0, Nat.le_refl 0⟩ (Nat.le_of_ble_eq_true rfl) dX6_seed_3 (fun H locs hW => ?_)
  obtain ⟨rfl, rfl⟩ := Prod.mk.inj (Option.some.inj hm)
  exact en_i C hr hlk hW dX6_seed_6
theorem kX6_seed : KM yX6_seed cX6_seed 2 (some .int) 1 := ⟨q1135, q1136, q72, q1137, by decide +kernel, by decide +kernel, by decide +kernel⟩
def X6_feed_b41 : Nat → MS → Int32 → Int32 → Option (Int32 × MS)
  | 0, _, _, _ => none
  | n + 1, σ, x1, x3 => if x3 < (0 : Int32) then (some ((σ 22 13), σ)) else (ai (σ 22 13) 120 (X6_feed_b41 n (su (su σ 12 (Int32.toNatClampNeg (σ 22 13)) ((x1 >>> (((8 : Int32) * x3) &&& 31)) &&& (255 : Int32))) 22 13 (((su σ 12 (Int32.toNatClampNeg (σ 22 13)) ((x1 >>> (((8 : Int32) * x3) &&& 31)) &&& (255 : Int32))) 22 13) + (1 : Int32))) x1 ((x3 + (-1 : Int32)))))
set_option maxHeartbeats 4000000 in
set_option maxRecDepth 100000 in
theorem wX6_feed_b41 {p : Program} {l : Launch} {e : Env} {s : State} {m : MethodId} {below : List Frame} {meth : Method} {c : Code} {D : va_G} {cy cz : ClassId} {G : GT} {A : Nat → Prop} {args : Array Value} {a : Nat → Nat} {r : Int32} {σr : MS} (C : Cx p s m args c cX6_feed 4 "PumpTalkModel" D cy cz G A) (hr : meth.sig.returnType = some .int) (hlk : meth.locks = false) : ∀ (n : Nat) (σ : MS) (x1 : Int32) (x3 : Int32) (H : Heap) (locs : List Loc) (ls : Array Slot), X6_feed_b41 n σ x1 x3 = some (r, σr) → Wd D A s.heap H locs (cM a cy σ) → lv_has ls 4 [(0, .ref (a 0)), (1, .int x1), (3, .int x3)] → W p l e (rmz 1 25) s m args below meth c H locs 0 0 (MQ below (QI D cy cz A (cM a cy σr) r) args s 0 0 A) (F0 m 41 ls []) := by
  have hx := C.1
  have hb := C.2.1
  intro n
  induction n with
  | zero =>
    intro σ x1 x3 H locs ls hm
    rw [X6_feed_b41] at hm
    cases hm
  | succ n ih =>
    intro σ x1 x3 H locs ls hm hW hl
    rw [X6_feed_b41] at hm
    refine lv_iload_n hx hb dX6_feed_41 rfl (lv_at hl 2 rfl) ?_
    refine lv_if_lt (tgt := 80) hx hb dX6_feed_42 (by decide) (fun hc1 => ?_) (fun hc1 => ?_)
    · rw [if_pos hc1] at hm
      refine lv_aload_n hx hb dX6_feed_80 rfl (lv_at hl 0 rfl) ?_
      refine gM_taped C hW q800 dX6_feed_81 ?_
      obtain ⟨rfl, rfl⟩ := Prod.mk.inj (Option.some.inj hm)
      exact en_i C hr hlk hW dX6_feed_84
    · rw [if_neg hc1] at hm
      refine lv_aload_n hx hb dX6_feed_45 rfl (lv_at hl 0 rfl) ?_
      refine gM_tape C hW q799 dX6_feed_46 ?_
      refine lv_aload_n hx hb dX6_feed_49 rfl (lv_at hl 0 rfl) ?_
      refine gM_taped C hW q800 dX6_feed_50 ?_
      refine lv_iload_n hx hb dX6_feed_53 rfl (lv_at hl 1 rfl) ?_
      refine lv_bipush (v := 8) hx hb dX6_feed_54 (by decide) ?_
      refine lv_iload_n hx hb dX6_feed_56 rfl (lv_at hl 2 rfl) ?_
      refine lv_imul hx hb dX6_feed_57 ?_
      refine lv_ishr hx hb dX6_feed_58 ?_
      refine lv_sipush (v := 255) hx hb dX6_feed_59 (by decide) ?_
      refine lv_iand hx hb dX6_feed_62 ?_
      obtain ⟨hi2, hm⟩ := mi_ai hm
      refine tM_tape C hW hi2 dX6_feed_63 (fun H locs hW => ?_)
      refine lv_aload_n hx hb dX6_feed_64 rfl (lv_at hl 0 rfl) ?_
      refine lv_dup hx hb dX6_feed_65 rfl ?_
      refine gM_taped C hW q800 dX6_feed_66 ?_
      refine lv_iconst (v := 1) hx hb dX6_feed_69 (by decide) ?_
      refine lv_iadd hx hb dX6_feed_70 ?_
      refine pM_taped C hW q800 dX6_feed_71 (fun H locs hW => ?_)
      refine lv_iinc (v := (x3 + (-1 : Int32))) (lv' := [(3, .int (x3 + (-1 : Int32))), (0, .ref (a 0)), (1, .int x1)]) hx hb dX6_feed_74 hl (k := 2) rfl (congrArg (fun z : Int32 => x3 + z) (by decide)) (by decide) rfl (fun ls hl => ?_)
      refine lv_goto (tgt := 41) hx hb dX6_feed_77 (by decide) ?_
      exact ih (su (su σ 12 (Int32.toNatClampNeg (σ 22 13)) ((x1 >>> (((8 : Int32) * x3) &&& 31)) &&& (255 : Int32))) 22 13 (((su σ 12 (Int32.toNatClampNeg (σ 22 13)) ((x1 >>> (((8 : Int32) * x3) &&& 31)) &&& (255 : Int32))) 22 13) + (1 : Int32))) x1 ((x3 + (-1 : Int32))) _ _ _ hm hW (lv_sub hl [1, 2, 0] rfl)
def X6_feed (σ : MS) (p1 : Int32) (p2 : Int32) : Option (Int32 × MS) := (X6_in (Int32.toInt64 p2) (1 : Int64) (4 : Int64)).bind fun v4 => if v4 = (0 : Int32) then ((X6_finds σ (-1000001 : Int32)).bind fun q10 => some (q10.1, q10.2)) else (if ((σ 22 13) + p2) ≤ (120 : Int32) then (X6_feed_b41 FU σ p1 ((p2 - (1 : Int32)))) else ((X6_finds σ (-1000002 : Int32)).bind fun q8 => some (q8.1, q8.2)))
set_option maxHeartbeats 4000000 in
set_option maxRecDepth 100000 in
theorem c_X6_feed {l : Launch} {D : va_G} {cy cz : ClassId} {G : GT} {a : Nat → Nat} {σ : MS} {p1 : Int32} {p2 : Int32} {r : Int32} {σr : MS} (hm : X6_feed σ p1 p2 = some (r, σr)) : CtI l D cy cz G yX6_feed cX6_feed 4 (some .int) 1 25 [.ref (a 0), .int p1, .int p2] (cM a cy σ) (cM a cy σr) r := by
  refine ct_i (own := "PumpTalkModel") (by decide) rfl (Nat.le_of_ble_eq_true rfl) ?_
  intro p e s m below meth c ls A C hr hlk hW hl
  have hx := C.1
  have hb := C.2.1
  have hl : lv_has ls 4 [(0, .ref (a 0)), (1, .int p1), (2, .int p2)] := hl
  unfold X6_feed at hm
  refine lv_iload_n hx hb dX6_feed_0 rfl (lv_at hl 2 rfl) ?_
  refine lv_i2l hx hb dX6_feed_1 rfl ?_
  refine lv_lconst (v := 1) hx hb dX6_feed_2 (by decide) ?_
  refine lv_ldc2 hx hb C.2.2.2.1 (C.2.2.2.2.1 _ q1142) dX6_feed_3 ?_
  obtain ⟨v4, e3, hm⟩ := mi_bind hm
  refine cS_i (As := [.long (Int32.toInt64 p2), .long (1 : Int64), .long (4 : Int64)]) (rest := []) C hW (c_X6_in e3) kX6_in q862 rfl rfl hl.1 ⟨Nat.le_of_ble_eq_true rfl, Nat.le_of_ble_eq_true rfl⟩ ⟨Nat.le_refl 0, Nat.le_refl 0⟩ (Nat.le_of_ble_eq_true rfl) dX6_feed_6 (fun H locs hW => ?_)
  refine lv_if_ne (tgt := 19) hx hb dX6_feed_9 (by decide) (fun hc5 => ?_) (fun hc5 => ?_)
  · rw [if_neg hc5] at hm
    refine lv_aload_n hx hb dX6_feed_19 rfl (lv_at hl 0 rfl) ?_
    refine gM_taped C hW q800 dX6_feed_20 ?_
    refine lv_iload_n hx hb dX6_feed_23 rfl (lv_at hl 2 rfl) ?_
    refine lv_iadd hx hb dX6_feed_24 ?_
    refine lv_bipush (v := 120) hx hb dX6_feed_25 (by decide) ?_
    refine lv_icmp_le (tgt := 37) hx hb dX6_feed_27 (by decide) (fun hc6 => ?_) (fun hc6 => ?_)
    · rw [if_pos hc6] at hm
      refine lv_iload_n hx hb dX6_feed_37 rfl (lv_at hl 2 rfl) ?_
      refine lv_iconst (v := 1) hx hb dX6_feed_38 (by decide) ?_
      refine lv_isub hx hb dX6_feed_39 ?_
      refine lv_istore_n (lv' := [(3, .int (p2 - (1 : Int32))), (0, .ref (a 0)), (1, .int p1), (2, .int p2)]) hx hb dX6_feed_40 rfl hl (by decide) rfl (fun ls hl => ?_)
      exact wX6_feed_b41 C hr hlk FU σ p1 ((p2 - (1 : Int32))) _ _ _ hm hW (lv_sub hl [1, 2, 0] rfl)
    · rw [if_neg hc6] at hm
      refine lv_aload_n hx hb dX6_feed_30 rfl (lv_at hl 0 rfl) ?_
      refine lv_ldc hx hb C.2.2.2.1 (C.2.2.2.2.1 _ q870) dX6_feed_31 ?_
      obtain ⟨q8, e7, hm⟩ := mi_bind hm
      refine cs_i (q0 := 0) (As := [.int (-1000002 : Int32)]) (rest := []) C hW (c_X6_finds e7) kX6_finds q866 rfl rfl rfl rfl rfl hl.1 ⟨Nat.le_of_ble_eq_true rfl, Nat.le_of_ble_eq_true rfl⟩ ⟨Nat.le_refl 0, Nat.le_refl 0⟩ (Nat.le_of_ble_eq_true rfl) dX6_feed_33 (fun H locs hW => ?_)
      obtain ⟨rfl, rfl⟩ := Prod.mk.inj (Option.some.inj hm)
      exact en_i C hr hlk hW dX6_feed_36
  · rw [if_pos hc5] at hm
    refine lv_aload_n hx hb dX6_feed_12 rfl (lv_at hl 0 rfl) ?_
    refine lv_ldc hx hb C.2.2.2.1 (C.2.2.2.2.1 _ q865) dX6_feed_13 ?_
    obtain ⟨q10, e9, hm⟩ := mi_bind hm
    refine cs_i (q0 := 0) (As := [.int (-1000001 : Int32)]) (rest := []) C hW (c_X6_finds e9) kX6_finds q866 rfl rfl rfl rfl rfl hl.1 ⟨Nat.le_of_ble_eq_true rfl, Nat.le_of_ble_eq_true rfl⟩ ⟨Nat.le_refl 0, Nat.le_refl 0⟩ (Nat.le_of_ble_eq_true rfl) dX6_feed_15 (fun H locs hW => ?_)
    obtain ⟨rfl, rfl⟩ := Prod.mk.inj (Option.some.inj hm)
    exact en_i C hr hlk hW dX6_feed_18
theorem kX6_feed : KM yX6_feed cX6_feed 4 (some .int) 2 := ⟨q1139, q1140, q72, q1141, by decide +kernel, by decide +kernel, by decide +kernel⟩
def X6_wipe (σ : MS) : Option (Int32 × MS) := some ((σ 22 13), su σ 22 13 (0 : Int32))
set_option maxHeartbeats 4000000 in
set_option maxRecDepth 100000 in
theorem c_X6_wipe {l : Launch} {D : va_G} {cy cz : ClassId} {G : GT} {a : Nat → Nat} {σ : MS} {r : Int32} {σr : MS} (hm : X6_wipe σ = some (r, σr)) : CtI l D cy cz G yX6_wipe cX6_wipe 2 (some .int) 0 0 [.ref (a 0)] (cM a cy σ) (cM a cy σr) r := by
  refine ct_i (own := "PumpTalkModel") (by decide) rfl (Nat.le_of_ble_eq_true rfl) ?_
  intro p e s m below meth c ls A C hr hlk hW hl
  have hx := C.1
  have hb := C.2.1
  have hl : lv_has ls 2 [(0, .ref (a 0))] := hl
  unfold X6_wipe at hm
  refine lv_aload_n hx hb dX6_wipe_0 rfl (lv_at hl 0 rfl) ?_
  refine gM_taped C hW q800 dX6_wipe_1 ?_
  refine lv_istore_n (lv' := [(1, .int (σ 22 13)), (0, .ref (a 0))]) hx hb dX6_wipe_4 rfl hl (by decide) rfl (fun ls hl => ?_)
  refine lv_aload_n hx hb dX6_wipe_5 rfl (lv_at hl 1 rfl) ?_
  refine lv_iconst (v := 0) hx hb dX6_wipe_6 (by decide) ?_
  refine pM_taped C hW q800 dX6_wipe_7 (fun H locs hW => ?_)
  refine lv_iload_n hx hb dX6_wipe_10 rfl (lv_at hl 0 rfl) ?_
  obtain ⟨rfl, rfl⟩ := Prod.mk.inj (Option.some.inj hm)
  exact en_i C hr hlk hW dX6_wipe_11
theorem kX6_wipe : KM yX6_wipe cX6_wipe 2 (some .int) 0 := ⟨q1144, q1145, q72, q1146, by decide +kernel, by decide +kernel, by decide +kernel⟩
def X6_saves_b2 : Nat → MS → Int32 → Option (MS)
  | 0, _, _ => none
  | n + 1, σ, x1 => if (81 : Int32) ≤ x1 then (some σ) else (ai x1 81 (ai x1 81 (X6_saves_b2 n (su σ 2 (Int32.toNatClampNeg x1) (σ 0 (Int32.toNatClampNeg x1))) ((x1 + (1 : Int32))))))
set_option maxHeartbeats 4000000 in
set_option maxRecDepth 100000 in
theorem wX6_saves_b2 {p : Program} {l : Launch} {e : Env} {s : State} {m : MethodId} {below : List Frame} {meth : Method} {c : Code} {D : va_G} {cy cz : ClassId} {G : GT} {A : Nat → Prop} {args : Array Value} {a : Nat → Nat} {σr : MS} (C : Cx p s m args c cX6_saves 2 "PumpTalkModel" D cy cz G A) (hr : meth.sig.returnType = none) (hlk : meth.locks = false) : ∀ (n : Nat) (σ : MS) (x1 : Int32) (H : Heap) (locs : List Loc) (ls : Array Slot), X6_saves_b2 n σ x1 = some σr → Wd D A s.heap H locs (cM a cy σ) → lv_has ls 2 [(0, .ref (a 0)), (1, .int x1)] → W p l e (rmz 0 0) s m args below meth c H locs 0 0 (MQ below (QV D cy cz A (cM a cy σr) ()) args s 0 0 A) (F0 m 2 ls []) := by
  have hx := C.1
  have hb := C.2.1
  intro n
  induction n with
  | zero =>
    intro σ x1 H locs ls hm
    rw [X6_saves_b2] at hm
    cases hm
  | succ n ih =>
    intro σ x1 H locs ls hm hW hl
    rw [X6_saves_b2] at hm
    refine lv_iload_n hx hb dX6_saves_2 rfl (lv_at hl 1 rfl) ?_
    refine lv_bipush (v := 81) hx hb dX6_saves_3 (by decide) ?_
    refine lv_icmp_ge (tgt := 26) hx hb dX6_saves_5 (by decide) (fun hc1 => ?_) (fun hc1 => ?_)
    · rw [if_pos hc1] at hm
      obtain rfl := Option.some.inj hm
      exact en_v C hr hlk hW dX6_saves_26
    · rw [if_neg hc1] at hm
      refine lv_aload_n hx hb dX6_saves_8 rfl (lv_at hl 0 rfl) ?_
      refine gM_other C hW q789 dX6_saves_9 ?_
      refine lv_iload_n hx hb dX6_saves_12 rfl (lv_at hl 1 rfl) ?_
      refine lv_aload_n hx hb dX6_saves_13 rfl (lv_at hl 0 rfl) ?_
      refine gM_s C hW q787 dX6_saves_14 ?_
      refine lv_iload_n hx hb dX6_saves_17 rfl (lv_at hl 1 rfl) ?_
      obtain ⟨hi2, hm⟩ := mi_ai hm
      refine lM_s C hW hi2 dX6_saves_18 ?_
      obtain ⟨hi3, hm⟩ := mi_ai hm
      refine tM_other C hW hi3 dX6_saves_19 (fun H locs hW => ?_)
      refine lv_iinc (v := (x1 + (1 : Int32))) (lv' := [(1, .int (x1 + (1 : Int32))), (0, .ref (a 0))]) hx hb dX6_saves_20 hl (k := 1) rfl (congrArg (fun z : Int32 => x1 + z) (by decide)) (by decide) rfl (fun ls hl => ?_)
      refine lv_goto (tgt := 2) hx hb dX6_saves_23 (by decide) ?_
      exact ih (su σ 2 (Int32.toNatClampNeg x1) (σ 0 (Int32.toNatClampNeg x1))) ((x1 + (1 : Int32))) _ _ _ hm hW (lv_sub hl [1, 0] rfl)
def X6_saves (σ : MS) : Option (MS) := X6_saves_b2 FU σ (0 : Int32)
set_option maxHeartbeats 4000000 in
set_option maxRecDepth 100000 in
theorem c_X6_saves {l : Launch} {D : va_G} {cy cz : ClassId} {G : GT} {a : Nat → Nat} {σ : MS} {σr : MS} (hm : X6_saves σ = some σr) : CtV l D cy cz G yX6_saves cX6_saves 2 none 0 0 [.ref (a 0)] (cM a cy σ) (cM a cy σr) () := by
  refine ct_v (own := "PumpTalkModel") (by decide) rfl (Nat.le_of_ble_eq_true rfl) ?_
  intro p e s m below meth c ls A C hr hlk hW hl
  have hx := C.1
  have hb := C.2.1
  have hl : lv_has ls 2 [(0, .ref (a 0))] := hl
  unfold X6_saves at hm
  refine lv_iconst (v := 0) hx hb dX6_saves_0 (by decide) ?_
  refine lv_istore_n (lv' := [(1, .int (0 : Int32)), (0, .ref (a 0))]) hx hb dX6_saves_1 rfl hl (by decide) rfl (fun ls hl => ?_)
  exact wX6_saves_b2 C hr hlk FU σ (0 : Int32) _ _ _ hm hW (lv_sub hl [1, 0] rfl)
theorem kX6_saves : KM yX6_saves cX6_saves 2 none 0 := ⟨q1153, q51, q72, q1154, by decide +kernel, by decide +kernel, by decide +kernel⟩
def X6_byteAt (σ : MS) (p1 : Int32) : Option (Int32) := if (σ 22 13) ≤ p1 then (some (-1 : Int32)) else (ai p1 120 (some (σ 12 (Int32.toNatClampNeg p1))))
set_option maxHeartbeats 4000000 in
set_option maxRecDepth 100000 in
theorem c_X6_byteAt {l : Launch} {D : va_G} {cy cz : ClassId} {G : GT} {a : Nat → Nat} {σ : MS} {p1 : Int32} {r : Int32} (hm : X6_byteAt σ p1 = some r) : CtI l D cy cz G yX6_byteAt cX6_byteAt 2 (some .int) 0 0 [.ref (a 0), .int p1] (cM a cy σ) (cM a cy σ) r := by
  refine ct_i (own := "PumpTalkModel") (by decide) rfl (Nat.le_of_ble_eq_true rfl) ?_
  intro p e s m below meth c ls A C hr hlk hW hl
  have hx := C.1
  have hb := C.2.1
  have hl : lv_has ls 2 [(0, .ref (a 0)), (1, .int p1)] := hl
  unfold X6_byteAt at hm
  refine lv_iload_n hx hb dX6_byteAt_0 rfl (lv_at hl 1 rfl) ?_
  refine lv_aload_n hx hb dX6_byteAt_1 rfl (lv_at hl 0 rfl) ?_
  refine gM_taped C hW q800 dX6_byteAt_2 ?_
  refine lv_icmp_ge (tgt := 17) hx hb dX6_byteAt_5 (by decide) (fun hc1 => ?_) (fun hc1 => ?_)
  · rw [if_pos hc1] at hm
    refine lv_iconst (v := -1) hx hb dX6_byteAt_17 (by decide) ?_
    obtain rfl := Option.some.inj hm
    exact en_i C hr hlk hW dX6_byteAt_18
  · rw [if_neg hc1] at hm
    refine lv_aload_n hx hb dX6_byteAt_8 rfl (lv_at hl 0 rfl) ?_
    refine gM_tape C hW q799 dX6_byteAt_9 ?_
    refine lv_iload_n hx hb dX6_byteAt_12 rfl (lv_at hl 1 rfl) ?_
    obtain ⟨hi2, hm⟩ := mi_ai hm
    refine lM_tape C hW hi2 dX6_byteAt_13 ?_
    refine lv_goto (tgt := 18) hx hb dX6_byteAt_14 (by decide) ?_
    obtain rfl := Option.some.inj hm
    exact en_i C hr hlk hW dX6_byteAt_18
theorem kX6_byteAt : KM yX6_byteAt cX6_byteAt 2 (some .int) 1 := ⟨q1161, q53, q72, q1162, by decide +kernel, by decide +kernel, by decide +kernel⟩
def X6_isLetter (p1 : Int32) : Option (Int32) := (X6_in (Int32.toInt64 p1) (97 : Int64) (122 : Int64)).bind fun v2 => zb v2 (some v2)
set_option maxHeartbeats 4000000 in
set_option maxRecDepth 100000 in
theorem c_X6_isLetter {l : Launch} {D : va_G} {cy cz : ClassId} {G : GT} {p1 : Int32} {r : Int32} (hm : X6_isLetter p1 = some r) : CtI l D cy cz G yX6_isLetter cX6_isLetter 1 (some .boolean) 1 25 [.int p1] ([] : va_W) ([] : va_W) r := by
  refine ct_i (own := "PumpTalkModel") (by decide) rfl (Nat.le_of_ble_eq_true rfl) ?_
  intro p e s m below meth c ls A C hr hlk hW hl
  have hx := C.1
  have hb := C.2.1
  have hl : lv_has ls 1 [(0, .int p1)] := hl
  unfold X6_isLetter at hm
  refine lv_iload_n hx hb dX6_isLetter_0 rfl (lv_at hl 0 rfl) ?_
  refine lv_i2l hx hb dX6_isLetter_1 rfl ?_
  refine lv_ldc2 hx hb C.2.2.2.1 (C.2.2.2.2.1 _ q1166) dX6_isLetter_2 ?_
  refine lv_ldc2 hx hb C.2.2.2.1 (C.2.2.2.2.1 _ q1167) dX6_isLetter_5 ?_
  obtain ⟨v2, e1, hm⟩ := mi_bind hm
  refine cS_i (As := [.long (Int32.toInt64 p1), .long (97 : Int64), .long (122 : Int64)]) (rest := []) C hW (c_X6_in e1) kX6_in q862 rfl rfl hl.1 ⟨Nat.le_of_ble_eq_true rfl, Nat.le_of_ble_eq_true rfl⟩ ⟨Nat.le_refl 0, Nat.le_refl 0⟩ (Nat.le_of_ble_eq_true rfl) dX6_isLetter_8 (fun H locs hW => ?_)
  obtain ⟨hz3, hm⟩ := mi_zb hm
  obtain rfl := Option.some.inj hm
  exact en_z C hr hlk hz3.1 hW dX6_isLetter_11
theorem kX6_isLetter : KS yX6_isLetter cX6_isLetter 1 (some .boolean) 1 := ⟨q1164, q72, q1165, by decide +kernel, by decide +kernel, by decide +kernel⟩
def X6_isDigit (p1 : Int32) : Option (Int32) := (X6_in (Int32.toInt64 p1) (48 : Int64) (57 : Int64)).bind fun v2 => zb v2 (some v2)
set_option maxHeartbeats 4000000 in
set_option maxRecDepth 100000 in
theorem c_X6_isDigit {l : Launch} {D : va_G} {cy cz : ClassId} {G : GT} {p1 : Int32} {r : Int32} (hm : X6_isDigit p1 = some r) : CtI l D cy cz G yX6_isDigit cX6_isDigit 1 (some .boolean) 1 25 [.int p1] ([] : va_W) ([] : va_W) r := by
  refine ct_i (own := "PumpTalkModel") (by decide) rfl (Nat.le_of_ble_eq_true rfl) ?_
  intro p e s m below meth c ls A C hr hlk hW hl
  have hx := C.1
  have hb := C.2.1
  have hl : lv_has ls 1 [(0, .int p1)] := hl
  unfold X6_isDigit at hm
  refine lv_iload_n hx hb dX6_isDigit_0 rfl (lv_at hl 0 rfl) ?_
  refine lv_i2l hx hb dX6_isDigit_1 rfl ?_
  refine lv_ldc2 hx hb C.2.2.2.1 (C.2.2.2.2.1 _ q1171) dX6_isDigit_2 ?_
  refine lv_ldc2 hx hb C.2.2.2.1 (C.2.2.2.2.1 _ q1172) dX6_isDigit_5 ?_
  obtain ⟨v2, e1, hm⟩ := mi_bind hm
  refine cS_i (As := [.long (Int32.toInt64 p1), .long (48 : Int64), .long (57 : Int64)]) (rest := []) C hW (c_X6_in e1) kX6_in q862 rfl rfl hl.1 ⟨Nat.le_of_ble_eq_true rfl, Nat.le_of_ble_eq_true rfl⟩ ⟨Nat.le_refl 0, Nat.le_refl 0⟩ (Nat.le_of_ble_eq_true rfl) dX6_isDigit_8 (fun H locs hW => ?_)
  obtain ⟨hz3, hm⟩ := mi_zb hm
  obtain rfl := Option.some.inj hm
  exact en_z C hr hlk hz3.1 hW dX6_isDigit_11
theorem kX6_isDigit : KS yX6_isDigit cX6_isDigit 1 (some .boolean) 1 := ⟨q1169, q72, q1170, by decide +kernel, by decide +kernel, by decide +kernel⟩
def X6_token_b122 (k86 : MS → Int32 → Int32 → Option (MS)) (σ : MS) (x1 : Int32) (x2 : Int32) : Option (MS) := k86 (su σ 22 15 ((σ 22 15) + (1 : Int32))) x1 x2
set_option maxHeartbeats 4000000 in
set_option maxRecDepth 100000 in
theorem wX6_token_b122 {p : Program} {l : Launch} {e : Env} {s : State} {m : MethodId} {below : List Frame} {meth : Method} {c : Code} {D : va_G} {cy cz : ClassId} {G : GT} {A : Nat → Prop} {args : Array Value} {a : Nat → Nat} {σr : MS} (C : Cx p s m args c cX6_token 3 "PumpTalkModel" D cy cz G A) (hr : meth.sig.returnType = none) (hlk : meth.locks = false) {k86 : MS → Int32 → Int32 → Option (MS)} (hk86 : ∀ (σ : MS) (x1 : Int32) (x2 : Int32) (H : Heap) (locs : List Loc) (ls : Array Slot), k86 σ x1 x2 = some σr → Wd D A s.heap H locs (cM a cy σ) → lv_has ls 3 [(0, .ref (a 0)), (1, .int x1), (2, .int x2)] → W p l e (rmz 2 45) s m args below meth c H locs 0 0 (MQ below (QV D cy cz A (cM a cy σr) ()) args s 0 0 A) (F0 m 86 ls [])) : ∀ (σ : MS) (x1 : Int32) (x2 : Int32) (H : Heap) (locs : List Loc) (ls : Array Slot), X6_token_b122 k86 σ x1 x2 = some σr → Wd D A s.heap H locs (cM a cy σ) → lv_has ls 3 [(0, .ref (a 0)), (1, .int x1), (2, .int x2)] → W p l e (rmz 2 45) s m args below meth c H locs 0 0 (MQ below (QV D cy cz A (cM a cy σr) ()) args s 0 0 A) (F0 m 122 ls []) := by
  have hx := C.1
  have hb := C.2.1
  intro σ x1 x2 H locs ls hm hW hl
  unfold X6_token_b122 at hm
  refine lv_aload_n hx hb dX6_token_122 rfl (lv_at hl 0 rfl) ?_
  refine lv_dup hx hb dX6_token_123 rfl ?_
  refine gM_to C hW q802 dX6_token_124 ?_
  refine lv_iconst (v := 1) hx hb dX6_token_127 (by decide) ?_
  refine lv_iadd hx hb dX6_token_128 ?_
  refine pM_to C hW q802 dX6_token_129 (fun H locs hW => ?_)
  refine lv_goto (tgt := 86) hx hb dX6_token_132 (by decide) ?_
  exact hk86 (su σ 22 15 ((σ 22 15) + (1 : Int32))) x1 x2 _ _ _ hm hW (lv_sub hl [0, 1, 2] rfl)
def X6_token_b104 (k86 : MS → Int32 → Int32 → Option (MS)) (σ : MS) (x1 : Int32) (x2 : Int32) : Option (MS) := if x2 = (0 : Int32) then (some σ) else ((X6_byteAt σ (σ 22 15)).bind fun v3 => (X6_isDigit v3).bind fun v5 => if v5 = (0 : Int32) then (some σ) else (X6_token_b122 k86 σ x1 x2))
set_option maxHeartbeats 4000000 in
set_option maxRecDepth 100000 in
theorem wX6_token_b104 {p : Program} {l : Launch} {e : Env} {s : State} {m : MethodId} {below : List Frame} {meth : Method} {c : Code} {D : va_G} {cy cz : ClassId} {G : GT} {A : Nat → Prop} {args : Array Value} {a : Nat → Nat} {σr : MS} (C : Cx p s m args c cX6_token 3 "PumpTalkModel" D cy cz G A) (hr : meth.sig.returnType = none) (hlk : meth.locks = false) {k86 : MS → Int32 → Int32 → Option (MS)} (hk86 : ∀ (σ : MS) (x1 : Int32) (x2 : Int32) (H : Heap) (locs : List Loc) (ls : Array Slot), k86 σ x1 x2 = some σr → Wd D A s.heap H locs (cM a cy σ) → lv_has ls 3 [(0, .ref (a 0)), (1, .int x1), (2, .int x2)] → W p l e (rmz 2 45) s m args below meth c H locs 0 0 (MQ below (QV D cy cz A (cM a cy σr) ()) args s 0 0 A) (F0 m 86 ls [])) : ∀ (σ : MS) (x1 : Int32) (x2 : Int32) (H : Heap) (locs : List Loc) (ls : Array Slot), X6_token_b104 k86 σ x1 x2 = some σr → Wd D A s.heap H locs (cM a cy σ) → lv_has ls 3 [(0, .ref (a 0)), (1, .int x1), (2, .int x2)] → W p l e (rmz 2 45) s m args below meth c H locs 0 0 (MQ below (QV D cy cz A (cM a cy σr) ()) args s 0 0 A) (F0 m 104 ls []) := by
  have hx := C.1
  have hb := C.2.1
  intro σ x1 x2 H locs ls hm hW hl
  unfold X6_token_b104 at hm
  refine lv_iload_n hx hb dX6_token_104 rfl (lv_at hl 2 rfl) ?_
  refine lv_if_eq (tgt := 135) hx hb dX6_token_105 (by decide) (fun hc1 => ?_) (fun hc1 => ?_)
  · rw [if_pos hc1] at hm
    obtain rfl := Option.some.inj hm
    exact en_v C hr hlk hW dX6_token_135
  · rw [if_neg hc1] at hm
    refine lv_aload_n hx hb dX6_token_108 rfl (lv_at hl 0 rfl) ?_
    refine lv_aload_n hx hb dX6_token_109 rfl (lv_at hl 0 rfl) ?_
    refine gM_to C hW q802 dX6_token_110 ?_
    obtain ⟨v3, e2, hm⟩ := mi_bind hm
    refine cs_i (q0 := 0) (As := [.int (σ 22 15)]) (rest := []) C hW (c_X6_byteAt e2) kX6_byteAt q1159 rfl rfl rfl rfl rfl hl.1 ⟨Nat.le_of_ble_eq_true rfl, Nat.le_of_ble_eq_true rfl⟩ ⟨Nat.le_refl 0, Nat.le_refl 0⟩ (Nat.le_of_ble_eq_true rfl) dX6_token_113 (fun H locs hW => ?_)
    obtain ⟨v5, e4, hm⟩ := mi_bind hm
    refine cS_i (As := [.int v3]) (rest := []) C hW (c_X6_isDigit e4) kX6_isDigit q1168 rfl rfl hl.1 ⟨Nat.le_of_ble_eq_true rfl, Nat.le_of_ble_eq_true rfl⟩ ⟨Nat.le_refl 0, Nat.le_refl 0⟩ (Nat.le_of_ble_eq_true rfl) dX6_token_116 (fun H locs hW => ?_)
    refine lv_if_eq (tgt := 135) hx hb dX6_token_119 (by decide) (fun hc6 => ?_) (fun hc6 => ?_)
    · rw [if_pos hc6] at hm
      obtain rfl := Option.some.inj hm
      exact en_v C hr hlk hW dX6_token_135
    · rw [if_neg hc6] at hm
      exact wX6_token_b122 C hr hlk hk86 σ x1 x2 _ _ _ hm hW (lv_sub hl [0, 1, 2] rfl)
def X6_token_b86 : Nat → MS → Int32 → Int32 → Option (MS)
  | 0, _, _, _ => none
  | n + 1, σ, x1, x2 => if x1 = (0 : Int32) then (X6_token_b104 (X6_token_b86 n) σ x1 x2) else ((X6_byteAt σ (σ 22 15)).bind fun v9 => (X6_isLetter v9).bind fun v11 => if v11 = (0 : Int32) then (X6_token_b104 (X6_token_b86 n) σ x1 x2) else (X6_token_b122 (X6_token_b86 n) σ x1 x2))
set_option maxHeartbeats 4000000 in
set_option maxRecDepth 100000 in
theorem wX6_token_b86 {p : Program} {l : Launch} {e : Env} {s : State} {m : MethodId} {below : List Frame} {meth : Method} {c : Code} {D : va_G} {cy cz : ClassId} {G : GT} {A : Nat → Prop} {args : Array Value} {a : Nat → Nat} {σr : MS} (C : Cx p s m args c cX6_token 3 "PumpTalkModel" D cy cz G A) (hr : meth.sig.returnType = none) (hlk : meth.locks = false) : ∀ (n : Nat) (σ : MS) (x1 : Int32) (x2 : Int32) (H : Heap) (locs : List Loc) (ls : Array Slot), X6_token_b86 n σ x1 x2 = some σr → Wd D A s.heap H locs (cM a cy σ) → lv_has ls 3 [(0, .ref (a 0)), (1, .int x1), (2, .int x2)] → W p l e (rmz 2 45) s m args below meth c H locs 0 0 (MQ below (QV D cy cz A (cM a cy σr) ()) args s 0 0 A) (F0 m 86 ls []) := by
  have hx := C.1
  have hb := C.2.1
  intro n
  induction n with
  | zero =>
    intro σ x1 x2 H locs ls hm
    rw [X6_token_b86] at hm
    cases hm
  | succ n ih =>
    intro σ x1 x2 H locs ls hm hW hl
    rw [X6_token_b86] at hm
    refine lv_iload_n hx hb dX6_token_86 rfl (lv_at hl 1 rfl) ?_
    refine lv_if_eq (tgt := 104) hx hb dX6_token_87 (by decide) (fun hc7 => ?_) (fun hc7 => ?_)
    · rw [if_pos hc7] at hm
      exact wX6_token_b104 C hr hlk ih σ x1 x2 _ _ _ hm hW (lv_sub hl [0, 1, 2] rfl)
    · rw [if_neg hc7] at hm
      refine lv_aload_n hx hb dX6_token_90 rfl (lv_at hl 0 rfl) ?_
      refine lv_aload_n hx hb dX6_token_91 rfl (lv_at hl 0 rfl) ?_
      refine gM_to C hW q802 dX6_token_92 ?_
      obtain ⟨v9, e8, hm⟩ := mi_bind hm
      refine cs_i (q0 := 0) (As := [.int (σ 22 15)]) (rest := []) C hW (c_X6_byteAt e8) kX6_byteAt q1159 rfl rfl rfl rfl rfl hl.1 ⟨Nat.le_of_ble_eq_true rfl, Nat.le_of_ble_eq_true rfl⟩ ⟨Nat.le_refl 0, Nat.le_refl 0⟩ (Nat.le_of_ble_eq_true rfl) dX6_token_95 (fun H locs hW => ?_)
      obtain ⟨v11, e10, hm⟩ := mi_bind hm
      refine cS_i (As := [.int v9]) (rest := []) C hW (c_X6_isLetter e10) kX6_isLetter q1163 rfl rfl hl.1 ⟨Nat.le_of_ble_eq_true rfl, Nat.le_of_ble_eq_true rfl⟩ ⟨Nat.le_refl 0, Nat.le_refl 0⟩ (Nat.le_of_ble_eq_true rfl) dX6_token_98 (fun H locs hW => ?_)
      refine lv_if_ne (tgt := 122) hx hb dX6_token_101 (by decide) (fun hc12 => ?_) (fun hc12 => ?_)
      · rw [if_neg hc12] at hm
        exact wX6_token_b122 C hr hlk ih σ x1 x2 _ _ _ hm hW (lv_sub hl [0, 1, 2] rfl)
      · rw [if_pos hc12] at hm
        exact wX6_token_b104 C hr hlk ih σ x1 x2 _ _ _ hm hW (lv_sub hl [0, 1, 2] rfl)
def X6_token_b83 (σ : MS) (x1 : Int32) (x2 : Int32) (y1 : Int32) : Option (MS) := X6_token_b86 FU (su σ 22 15 y1) x1 x2
set_option maxHeartbeats 4000000 in
set_option maxRecDepth 100000 in
theorem wX6_token_b83 {p : Program} {l : Launch} {e : Env} {s : State} {m : MethodId} {below : List Frame} {meth : Method} {c : Code} {D : va_G} {cy cz : ClassId} {G : GT} {A : Nat → Prop} {args : Array Value} {a : Nat → Nat} {σr : MS} (C : Cx p s m args c cX6_token 3 "PumpTalkModel" D cy cz G A) (hr : meth.sig.returnType = none) (hlk : meth.locks = false) : ∀ (σ : MS) (x1 : Int32) (x2 : Int32) (y1 : Int32) (H : Heap) (locs : List Loc) (ls : Array Slot), X6_token_b83 σ x1 x2 y1 = some σr → Wd D A s.heap H locs (cM a cy σ) → lv_has ls 3 [(0, .ref (a 0)), (1, .int x1), (2, .int x2)] → W p l e (rmz 2 45) s m args below meth c H locs 0 0 (MQ below (QV D cy cz A (cM a cy σr) ()) args s 0 0 A) (F0 m 83 ls [.int y1, .ref (a 0)]) := by
  have hx := C.1
  have hb := C.2.1
  intro σ x1 x2 y1 H locs ls hm hW hl
  unfold X6_token_b83 at hm
  refine pM_to C hW q802 dX6_token_83 (fun H locs hW => ?_)
  exact wX6_token_b86 C hr hlk FU (su σ 22 15 y1) x1 x2 _ _ _ hm hW (lv_sub hl [0, 1, 2] rfl)
def X6_token_b8 : Nat → MS → Option (MS)
  | 0, _ => none
  | n + 1, σ => (X6_byteAt σ (σ 22 14)).bind fun v14 => if v14 = (32 : Int32) then (X6_token_b8 n (su σ 22 14 ((σ 22 14) + (1 : Int32)))) else ((X6_byteAt σ (σ 22 14)).bind fun v17 => (X6_isLetter v17).bind fun v19 => (X6_byteAt σ (σ 22 14)).bind fun v21 => (X6_isDigit v21).bind fun v23 => if (σ 22 13) ≤ (σ 22 14) then (X6_token_b83 σ v19 v23 (σ 22 14)) else (X6_token_b83 σ v19 v23 (((σ 22 14) + (1 : Int32)))))
set_option maxHeartbeats 4000000 in
set_option maxRecDepth 100000 in
theorem wX6_token_b8 {p : Program} {l : Launch} {e : Env} {s : State} {m : MethodId} {below : List Frame} {meth : Method} {c : Code} {D : va_G} {cy cz : ClassId} {G : GT} {A : Nat → Prop} {args : Array Value} {a : Nat → Nat} {σr : MS} (C : Cx p s m args c cX6_token 3 "PumpTalkModel" D cy cz G A) (hr : meth.sig.returnType = none) (hlk : meth.locks = false) : ∀ (n : Nat) (σ : MS) (H : Heap) (locs : List Loc) (ls : Array Slot), X6_token_b8 n σ = some σr → Wd D A s.heap H locs (cM a cy σ) → lv_has ls 3 [(0, .ref (a 0))] → W p l e (rmz 2 45) s m args below meth c H locs 0 0 (MQ below (QV D cy cz A (cM a cy σr) ()) args s 0 0 A) (F0 m 8 ls []) := by
  have hx := C.1
  have hb := C.2.1
  intro n
  induction n with
  | zero =>
    intro σ H locs ls hm
    rw [X6_token_b8] at hm
    cases hm
  | succ n ih =>
    intro σ H locs ls hm hW hl
    rw [X6_token_b8] at hm
    refine lv_aload_n hx hb dX6_token_8 rfl (lv_at hl 0 rfl) ?_
    refine lv_aload_n hx hb dX6_token_9 rfl (lv_at hl 0 rfl) ?_
    refine gM_from C hW q801 dX6_token_10 ?_
    obtain ⟨v14, e13, hm⟩ := mi_bind hm
    refine cs_i (q0 := 0) (As := [.int (σ 22 14)]) (rest := []) C hW (c_X6_byteAt e13) kX6_byteAt q1159 rfl rfl rfl rfl rfl hl.1 ⟨Nat.le_of_ble_eq_true rfl, Nat.le_of_ble_eq_true rfl⟩ ⟨Nat.le_refl 0, Nat.le_refl 0⟩ (Nat.le_of_ble_eq_true rfl) dX6_token_13 (fun H locs hW => ?_)
    refine lv_bipush (v := 32) hx hb dX6_token_16 (by decide) ?_
    refine lv_icmp_ne (tgt := 34) hx hb dX6_token_18 (by decide) (fun hc15 => ?_) (fun hc15 => ?_)
    · rw [if_neg hc15] at hm
      refine lv_aload_n hx hb dX6_token_34 rfl (lv_at hl 0 rfl) ?_
      refine lv_aload_n hx hb dX6_token_35 rfl (lv_at hl 0 rfl) ?_
      refine gM_from C hW q801 dX6_token_36 ?_
      obtain ⟨v17, e16, hm⟩ := mi_bind hm
      refine cs_i (q0 := 0) (As := [.int (σ 22 14)]) (rest := []) C hW (c_X6_byteAt e16) kX6_byteAt q1159 rfl rfl rfl rfl rfl hl.1 ⟨Nat.le_of_ble_eq_true rfl, Nat.le_of_ble_eq_true rfl⟩ ⟨Nat.le_refl 0, Nat.le_refl 0⟩ (Nat.le_of_ble_eq_true rfl) dX6_token_39 (fun H locs hW => ?_)
      obtain ⟨v19, e18, hm⟩ := mi_bind hm
      refine cS_i (As := [.int v17]) (rest := []) C hW (c_X6_isLetter e18) kX6_isLetter q1163 rfl rfl hl.1 ⟨Nat.le_of_ble_eq_true rfl, Nat.le_of_ble_eq_true rfl⟩ ⟨Nat.le_refl 0, Nat.le_refl 0⟩ (Nat.le_of_ble_eq_true rfl) dX6_token_42 (fun H locs hW => ?_)
      refine lv_istore_n (lv' := [(1, .int v19), (0, .ref (a 0))]) hx hb dX6_token_45 rfl hl (by decide) rfl (fun ls hl => ?_)
      refine lv_aload_n hx hb dX6_token_46 rfl (lv_at hl 1 rfl) ?_
      refine lv_aload_n hx hb dX6_token_47 rfl (lv_at hl 1 rfl) ?_
      refine gM_from C hW q801 dX6_token_48 ?_
      obtain ⟨v21, e20, hm⟩ := mi_bind hm
      refine cs_i (q0 := 0) (As := [.int (σ 22 14)]) (rest := []) C hW (c_X6_byteAt e20) kX6_byteAt q1159 rfl rfl rfl rfl rfl hl.1 ⟨Nat.le_of_ble_eq_true rfl, Nat.le_of_ble_eq_true rfl⟩ ⟨Nat.le_refl 0, Nat.le_refl 0⟩ (Nat.le_of_ble_eq_true rfl) dX6_token_51 (fun H locs hW => ?_)
      obtain ⟨v23, e22, hm⟩ := mi_bind hm
      refine cS_i (As := [.int v21]) (rest := []) C hW (c_X6_isDigit e22) kX6_isDigit q1168 rfl rfl hl.1 ⟨Nat.le_of_ble_eq_true rfl, Nat.le_of_ble_eq_true rfl⟩ ⟨Nat.le_refl 0, Nat.le_refl 0⟩ (Nat.le_of_ble_eq_true rfl) dX6_token_54 (fun H locs hW => ?_)
      refine lv_istore_n (lv' := [(2, .int v23), (1, .int v19), (0, .ref (a 0))]) hx hb dX6_token_57 rfl hl (by decide) rfl (fun ls hl => ?_)
      refine lv_aload_n hx hb dX6_token_58 rfl (lv_at hl 2 rfl) ?_
      refine lv_aload_n hx hb dX6_token_59 rfl (lv_at hl 2 rfl) ?_
      refine gM_from C hW q801 dX6_token_60 ?_
      refine lv_aload_n hx hb dX6_token_63 rfl (lv_at hl 2 rfl) ?_
      refine gM_taped C hW q800 dX6_token_64 ?_
      refine lv_icmp_ge (tgt := 79) hx hb dX6_token_67 (by decide) (fun hc24 => ?_) (fun hc24 => ?_)
      · rw [if_pos hc24] at hm
        refine lv_aload_n hx hb dX6_token_79 rfl (lv_at hl 2 rfl) ?_
        refine gM_from C hW q801 dX6_token_80 ?_
        exact wX6_token_b83 C hr hlk σ v19 v23 (σ 22 14) _ _ _ hm hW (lv_sub hl [2, 1, 0] rfl)
      · rw [if_neg hc24] at hm
        refine lv_aload_n hx hb dX6_token_70 rfl (lv_at hl 2 rfl) ?_
        refine gM_from C hW q801 dX6_token_71 ?_
        refine lv_iconst (v := 1) hx hb dX6_token_74 (by decide) ?_
        refine lv_iadd hx hb dX6_token_75 ?_
        refine lv_goto (tgt := 83) hx hb dX6_token_76 (by decide) ?_
        exact wX6_token_b83 C hr hlk σ v19 v23 (((σ 22 14) + (1 : Int32))) _ _ _ hm hW (lv_sub hl [2, 1, 0] rfl)
    · rw [if_pos hc15] at hm
      refine lv_aload_n hx hb dX6_token_21 rfl (lv_at hl 0 rfl) ?_
      refine lv_dup hx hb dX6_token_22 rfl ?_
      refine gM_from C hW q801 dX6_token_23 ?_
      refine lv_iconst (v := 1) hx hb dX6_token_26 (by decide) ?_
      refine lv_iadd hx hb dX6_token_27 ?_
      refine pM_from C hW q801 dX6_token_28 (fun H locs hW => ?_)
      refine lv_goto (tgt := 8) hx hb dX6_token_31 (by decide) ?_
      exact ih (su σ 22 14 ((σ 22 14) + (1 : Int32))) _ _ _ hm hW (lv_sub hl [0] rfl)
def X6_token (σ : MS) : Option (MS) := X6_token_b8 FU (su σ 22 14 (σ 22 15))
set_option maxHeartbeats 4000000 in
set_option maxRecDepth 100000 in
theorem c_X6_token {l : Launch} {D : va_G} {cy cz : ClassId} {G : GT} {a : Nat → Nat} {σ : MS} {σr : MS} (hm : X6_token σ = some σr) : CtV l D cy cz G yX6_token cX6_token 3 none 2 45 [.ref (a 0)] (cM a cy σ) (cM a cy σr) () := by
  refine ct_v (own := "PumpTalkModel") (by decide) rfl (Nat.le_of_ble_eq_true rfl) ?_
  intro p e s m below meth c ls A C hr hlk hW hl
  have hx := C.1
  have hb := C.2.1
  have hl : lv_has ls 3 [(0, .ref (a 0))] := hl
  unfold X6_token at hm
  refine lv_aload_n hx hb dX6_token_0 rfl (lv_at hl 0 rfl) ?_
  refine lv_aload_n hx hb dX6_token_1 rfl (lv_at hl 0 rfl) ?_
  refine gM_to C hW q802 dX6_token_2 ?_
  refine pM_from C hW q801 dX6_token_5 (fun H locs hW => ?_)
  exact wX6_token_b8 C hr hlk FU (su σ 22 14 (σ 22 15)) _ _ _ hm hW (lv_sub hl [0] rfl)
theorem kX6_token : KM yX6_token cX6_token 3 none 0 := ⟨q1157, q52, q72, q1158, by decide +kernel, by decide +kernel, by decide +kernel⟩
def X6_word_b7 (σ : MS) : Nat → Int64 → Int32 → Option (Int64)
  | 0, _, _ => none
  | n + 1, x1, x3 => if (σ 22 15) ≤ x3 then (if (σ 22 17) = (0 : Int32) then ((X6_byteAt σ (σ 22 14)).bind fun v4 => (X6_isLetter v4).bind fun v6 => if v6 = (0 : Int32) then (some (0 : Int64)) else (some x1)) else (some (0 : Int64))) else (if (lg_cmp x1 (36028797018963967 : Int64)) ≤ (0 : Int32) then (ai x3 120 (X6_word_b7 σ n ((((32 : Int64) * x1) + (Int32.toInt64 ((σ 12 (Int32.toNatClampNeg x3)) - (96 : Int32))))) ((x3 + (1 : Int32))))) else (X6_word_b7 σ n x1 ((x3 + (1 : Int32)))))
set_option maxHeartbeats 4000000 in
set_option maxRecDepth 100000 in
theorem wX6_word_b7 {p : Program} {l : Launch} {e : Env} {s : State} {m : MethodId} {below : List Frame} {meth : Method} {c : Code} {D : va_G} {cy cz : ClassId} {G : GT} {A : Nat → Prop} {args : Array Value} {a : Nat → Nat} {r : Int64} {σ : MS} (C : Cx p s m args c cX6_word 4 "PumpTalkModel" D cy cz G A) (hr : meth.sig.returnType = some .long) (hlk : meth.locks = false) : ∀ (n : Nat) (x1 : Int64) (x3 : Int32) (H : Heap) (locs : List Loc) (ls : Array Slot), X6_word_b7 σ n x1 x3 = some r → Wd D A s.heap H locs (cM a cy σ) → lv_has ls 4 [(0, .ref (a 0)), (1, .long x1), (3, .int x3)] → W p l e (rmz 2 45) s m args below meth c H locs 0 0 (MQ below (QL D cy cz A (cM a cy σ) r) args s 0 0 A) (F0 m 7 ls []) := by
  have hx := C.1
  have hb := C.2.1
  intro n
  induction n with
  | zero =>
    intro x1 x3 H locs ls hm
    rw [X6_word_b7] at hm
    cases hm
  | succ n ih =>
    intro x1 x3 H locs ls hm hW hl
    rw [X6_word_b7] at hm
    refine lv_iload_n hx hb dX6_word_7 rfl (lv_at hl 2 rfl) ?_
    refine lv_aload_n hx hb dX6_word_8 rfl (lv_at hl 0 rfl) ?_
    refine gM_to C hW q802 dX6_word_9 ?_
    refine lv_icmp_ge (tgt := 50) hx hb dX6_word_12 (by decide) (fun hc1 => ?_) (fun hc1 => ?_)
    · rw [if_pos hc1] at hm
      refine lv_aload_n hx hb dX6_word_50 rfl (lv_at hl 0 rfl) ?_
      refine gM_isWrong C hW q804 dX6_word_51 ?_
      refine lv_if_ne (tgt := 71) hx hb dX6_word_54 (by decide) (fun hc2 => ?_) (fun hc2 => ?_)
      · rw [if_neg hc2] at hm
        refine lv_lconst (v := 0) hx hb dX6_word_71 (by decide) ?_
        refine lv_goto (tgt := 76) hx hb dX6_word_72 (by decide) ?_
        obtain rfl := Option.some.inj hm
        exact en_l C hr hlk hW dX6_word_76
      · rw [if_pos hc2] at hm
        refine lv_aload_n hx hb dX6_word_57 rfl (lv_at hl 0 rfl) ?_
        refine lv_aload_n hx hb dX6_word_58 rfl (lv_at hl 0 rfl) ?_
        refine gM_from C hW q801 dX6_word_59 ?_
        obtain ⟨v4, e3, hm⟩ := mi_bind hm
        refine cs_i (q0 := 0) (As := [.int (σ 22 14)]) (rest := []) C hW (c_X6_byteAt e3) kX6_byteAt q1159 rfl rfl rfl rfl rfl hl.1 ⟨Nat.le_of_ble_eq_true rfl, Nat.le_of_ble_eq_true rfl⟩ ⟨Nat.le_refl 0, Nat.le_refl 0⟩ (Nat.le_of_ble_eq_true rfl) dX6_word_62 (fun H locs hW => ?_)
        obtain ⟨v6, e5, hm⟩ := mi_bind hm
        refine cS_i (As := [.int v4]) (rest := []) C hW (c_X6_isLetter e5) kX6_isLetter q1163 rfl rfl hl.1 ⟨Nat.le_of_ble_eq_true rfl, Nat.le_of_ble_eq_true rfl⟩ ⟨Nat.le_refl 0, Nat.le_refl 0⟩ (Nat.le_of_ble_eq_true rfl) dX6_word_65 (fun H locs hW => ?_)
        refine lv_if_ne (tgt := 75) hx hb dX6_word_68 (by decide) (fun hc7 => ?_) (fun hc7 => ?_)
        · rw [if_neg hc7] at hm
          refine lv_lload_n hx hb dX6_word_75 rfl (lv_at hl 1 rfl) ?_
          obtain rfl := Option.some.inj hm
          exact en_l C hr hlk hW dX6_word_76
        · rw [if_pos hc7] at hm
          refine lv_lconst (v := 0) hx hb dX6_word_71 (by decide) ?_
          refine lv_goto (tgt := 76) hx hb dX6_word_72 (by decide) ?_
          obtain rfl := Option.some.inj hm
          exact en_l C hr hlk hW dX6_word_76
    · rw [if_neg hc1] at hm
      refine lv_lload_n hx hb dX6_word_15 rfl (lv_at hl 1 rfl) ?_
      refine lv_ldc2 hx hb C.2.2.2.1 (C.2.2.2.2.1 _ q1185) dX6_word_16 ?_
      refine W.lcmp hx hb dX6_word_19 ?_
      refine lv_if_le (tgt := 27) hx hb dX6_word_20 (by decide) (fun hc8 => ?_) (fun hc8 => ?_)
      · rw [if_pos hc8] at hm
        refine lv_ldc2 hx hb C.2.2.2.1 (C.2.2.2.2.1 _ q1186) dX6_word_27 ?_
        refine lv_lload_n hx hb dX6_word_30 rfl (lv_at hl 1 rfl) ?_
        refine lv_lmul hx hb dX6_word_31 ?_
        refine lv_aload_n hx hb dX6_word_32 rfl (lv_at hl 0 rfl) ?_
        refine gM_tape C hW q799 dX6_word_33 ?_
        refine lv_iload_n hx hb dX6_word_36 rfl (lv_at hl 2 rfl) ?_
        obtain ⟨hi9, hm⟩ := mi_ai hm
        refine lM_tape C hW hi9 dX6_word_37 ?_
        refine lv_bipush (v := 96) hx hb dX6_word_38 (by decide) ?_
        refine lv_isub hx hb dX6_word_40 ?_
        refine lv_i2l hx hb dX6_word_41 rfl ?_
        refine lv_ladd hx hb dX6_word_42 ?_
        refine lv_lstore_n (lv' := [(1, .long (((32 : Int64) * x1) + (Int32.toInt64 ((σ 12 (Int32.toNatClampNeg x3)) - (96 : Int32))))), (0, .ref (a 0)), (3, .int x3)]) hx hb dX6_word_43 rfl hl (by decide) rfl (fun ls hl => ?_)
        refine lv_iinc (v := (x3 + (1 : Int32))) (lv' := [(3, .int (x3 + (1 : Int32))), (1, .long (((32 : Int64) * x1) + (Int32.toInt64 ((σ 12 (Int32.toNatClampNeg x3)) - (96 : Int32))))), (0, .ref (a 0))]) hx hb dX6_word_44 hl (k := 2) rfl (congrArg (fun z : Int32 => x3 + z) (by decide)) (by decide) rfl (fun ls hl => ?_)
        refine lv_goto (tgt := 7) hx hb dX6_word_47 (by decide) ?_
        exact ih ((((32 : Int64) * x1) + (Int32.toInt64 ((σ 12 (Int32.toNatClampNeg x3)) - (96 : Int32))))) ((x3 + (1 : Int32))) _ _ _ hm hW (lv_sub hl [2, 1, 0] rfl)
      · rw [if_neg hc8] at hm
        refine lv_lload_n hx hb dX6_word_23 rfl (lv_at hl 1 rfl) ?_
        refine lv_goto (tgt := 43) hx hb dX6_word_24 (by decide) ?_
        refine lv_lstore_n (lv' := [(1, .long x1), (0, .ref (a 0)), (3, .int x3)]) hx hb dX6_word_43 rfl hl (by decide) rfl (fun ls hl => ?_)
        refine lv_iinc (v := (x3 + (1 : Int32))) (lv' := [(3, .int (x3 + (1 : Int32))), (1, .long x1), (0, .ref (a 0))]) hx hb dX6_word_44 hl (k := 2) rfl (congrArg (fun z : Int32 => x3 + z) (by decide)) (by decide) rfl (fun ls hl => ?_)
        refine lv_goto (tgt := 7) hx hb dX6_word_47 (by decide) ?_
        exact ih x1 ((x3 + (1 : Int32))) _ _ _ hm hW (lv_sub hl [2, 1, 0] rfl)
def X6_word (σ : MS) : Option (Int64) := X6_word_b7 σ FU (0 : Int64) (σ 22 14)
set_option maxHeartbeats 4000000 in
set_option maxRecDepth 100000 in
theorem c_X6_word {l : Launch} {D : va_G} {cy cz : ClassId} {G : GT} {a : Nat → Nat} {σ : MS} {r : Int64} (hm : X6_word σ = some r) : CtL l D cy cz G yX6_word cX6_word 4 (some .long) 2 45 [.ref (a 0)] (cM a cy σ) (cM a cy σ) r := by
  refine ct_l (own := "PumpTalkModel") (by decide) rfl (Nat.le_of_ble_eq_true rfl) ?_
  intro p e s m below meth c ls A C hr hlk hW hl
  have hx := C.1
  have hb := C.2.1
  have hl : lv_has ls 4 [(0, .ref (a 0))] := hl
  unfold X6_word at hm
  refine lv_lconst (v := 0) hx hb dX6_word_0 (by decide) ?_
  refine lv_lstore_n (lv' := [(1, .long (0 : Int64)), (0, .ref (a 0))]) hx hb dX6_word_1 rfl hl (by decide) rfl (fun ls hl => ?_)
  refine lv_aload_n hx hb dX6_word_2 rfl (lv_at hl 1 rfl) ?_
  refine gM_from C hW q801 dX6_word_3 ?_
  refine lv_istore_n (lv' := [(3, .int (σ 22 14)), (1, .long (0 : Int64)), (0, .ref (a 0))]) hx hb dX6_word_6 rfl hl (by decide) rfl (fun ls hl => ?_)
  exact wX6_word_b7 C hr hlk FU (0 : Int64) (σ 22 14) _ _ _ hm hW (lv_sub hl [2, 1, 0] rfl)
theorem kX6_word : KM yX6_word cX6_word 4 (some .long) 0 := ⟨q1183, q56, q72, q1184, by decide +kernel, by decide +kernel, by decide +kernel⟩
def X6_kindHere (σ : MS) : Option (Int32) := (X6_word σ).bind fun v2 => if (lg_cmp v2 (542723566 : Int64)) = (0 : Int32) then (some (0 : Int32)) else (if (lg_cmp v2 (136230 : Int64)) = (0 : Int32) then (some (1 : Int32)) else (if (lg_cmp v2 (404481202 : Int64)) = (0 : Int32) then (some (2 : Int32)) else (if (lg_cmp v2 (437899442 : Int64)) = (0 : Int32) then (some (3 : Int32)) else (if (lg_cmp v2 (22088722073 : Int64)) = (0 : Int32) then (some (4 : Int32)) else (if (lg_cmp v2 (23716 : Int64)) = (0 : Int32) then (some (5 : Int32)) else (if (lg_cmp v2 (220501444 : Int64)) = (0 : Int32) then (some (6 : Int32)) else (some (-1 : Int32))))))))
set_option maxHeartbeats 4000000 in
set_option maxRecDepth 100000 in
theorem c_X6_kindHere {l : Launch} {D : va_G} {cy cz : ClassId} {G : GT} {a : Nat → Nat} {σ : MS} {r : Int32} (hm : X6_kindHere σ = some r) : CtI l D cy cz G yX6_kindHere cX6_kindHere 3 (some .int) 3 68 [.ref (a 0)] (cM a cy σ) (cM a cy σ) r := by
  refine ct_i (own := "PumpTalkModel") (by decide) rfl (Nat.le_of_ble_eq_true rfl) ?_
  intro p e s m below meth c ls A C hr hlk hW hl
  have hx := C.1
  have hb := C.2.1
  have hl : lv_has ls 3 [(0, .ref (a 0))] := hl
  unfold X6_kindHere at hm
  refine lv_aload_n hx hb dX6_kindHere_0 rfl (lv_at hl 0 rfl) ?_
  obtain ⟨v2, e1, hm⟩ := mi_bind hm
  refine cs_l (q0 := 0) (As := []) (rest := []) C hW (c_X6_word e1) kX6_word q1181 rfl rfl rfl rfl rfl hl.1 ⟨Nat.le_of_ble_eq_true rfl, Nat.le_of_ble_eq_true rfl⟩ ⟨Nat.le_refl 0, Nat.le_refl 0⟩ (Nat.le_of_ble_eq_true rfl) dX6_kindHere_1 (fun H locs hW => ?_)
  refine lv_lstore_n (lv' := [(1, .long v2), (0, .ref (a 0))]) hx hb dX6_kindHere_4 rfl hl (by decide) rfl (fun ls hl => ?_)
  refine lv_lload_n hx hb dX6_kindHere_5 rfl (lv_at hl 0 rfl) ?_
  refine lv_ldc2 hx hb C.2.2.2.1 (C.2.2.2.2.1 _ q1187) dX6_kindHere_6 ?_
  refine W.lcmp hx hb dX6_kindHere_9 ?_
  refine lv_if_ne (tgt := 17) hx hb dX6_kindHere_10 (by decide) (fun hc3 => ?_) (fun hc3 => ?_)
  · rw [if_neg hc3] at hm
    refine lv_lload_n hx hb dX6_kindHere_17 rfl (lv_at hl 0 rfl) ?_
    refine lv_ldc2 hx hb C.2.2.2.1 (C.2.2.2.2.1 _ q1188) dX6_kindHere_18 ?_
    refine W.lcmp hx hb dX6_kindHere_21 ?_
    refine lv_if_ne (tgt := 29) hx hb dX6_kindHere_22 (by decide) (fun hc4 => ?_) (fun hc4 => ?_)
    · rw [if_neg hc4] at hm
      refine lv_lload_n hx hb dX6_kindHere_29 rfl (lv_at hl 0 rfl) ?_
      refine lv_ldc2 hx hb C.2.2.2.1 (C.2.2.2.2.1 _ q1189) dX6_kindHere_30 ?_
      refine W.lcmp hx hb dX6_kindHere_33 ?_
      refine lv_if_ne (tgt := 41) hx hb dX6_kindHere_34 (by decide) (fun hc5 => ?_) (fun hc5 => ?_)
      · rw [if_neg hc5] at hm
        refine lv_lload_n hx hb dX6_kindHere_41 rfl (lv_at hl 0 rfl) ?_
        refine lv_ldc2 hx hb C.2.2.2.1 (C.2.2.2.2.1 _ q1190) dX6_kindHere_42 ?_
        refine W.lcmp hx hb dX6_kindHere_45 ?_
        refine lv_if_ne (tgt := 53) hx hb dX6_kindHere_46 (by decide) (fun hc6 => ?_) (fun hc6 => ?_)
        · rw [if_neg hc6] at hm
          refine lv_lload_n hx hb dX6_kindHere_53 rfl (lv_at hl 0 rfl) ?_
          refine lv_ldc2 hx hb C.2.2.2.1 (C.2.2.2.2.1 _ q1191) dX6_kindHere_54 ?_
          refine W.lcmp hx hb dX6_kindHere_57 ?_
          refine lv_if_ne (tgt := 65) hx hb dX6_kindHere_58 (by decide) (fun hc7 => ?_) (fun hc7 => ?_)
          · rw [if_neg hc7] at hm
            refine lv_lload_n hx hb dX6_kindHere_65 rfl (lv_at hl 0 rfl) ?_
            refine lv_ldc2 hx hb C.2.2.2.1 (C.2.2.2.2.1 _ q1192) dX6_kindHere_66 ?_
            refine W.lcmp hx hb dX6_kindHere_69 ?_
            refine lv_if_ne (tgt := 77) hx hb dX6_kindHere_70 (by decide) (fun hc8 => ?_) (fun hc8 => ?_)
            · rw [if_neg hc8] at hm
              refine lv_lload_n hx hb dX6_kindHere_77 rfl (lv_at hl 0 rfl) ?_
              refine lv_ldc2 hx hb C.2.2.2.1 (C.2.2.2.2.1 _ q1193) dX6_kindHere_78 ?_
              refine W.lcmp hx hb dX6_kindHere_81 ?_
              refine lv_if_ne (tgt := 90) hx hb dX6_kindHere_82 (by decide) (fun hc9 => ?_) (fun hc9 => ?_)
              · rw [if_neg hc9] at hm
                refine lv_iconst (v := -1) hx hb dX6_kindHere_90 (by decide) ?_
                obtain rfl := Option.some.inj hm
                exact en_i C hr hlk hW dX6_kindHere_91
              · rw [if_pos hc9] at hm
                refine lv_bipush (v := 6) hx hb dX6_kindHere_85 (by decide) ?_
                refine lv_goto (tgt := 91) hx hb dX6_kindHere_87 (by decide) ?_
                obtain rfl := Option.some.inj hm
                exact en_i C hr hlk hW dX6_kindHere_91
            · rw [if_pos hc8] at hm
              refine lv_iconst (v := 5) hx hb dX6_kindHere_73 (by decide) ?_
              refine lv_goto (tgt := 91) hx hb dX6_kindHere_74 (by decide) ?_
              obtain rfl := Option.some.inj hm
              exact en_i C hr hlk hW dX6_kindHere_91
          · rw [if_pos hc7] at hm
            refine lv_iconst (v := 4) hx hb dX6_kindHere_61 (by decide) ?_
            refine lv_goto (tgt := 91) hx hb dX6_kindHere_62 (by decide) ?_
            obtain rfl := Option.some.inj hm
            exact en_i C hr hlk hW dX6_kindHere_91
        · rw [if_pos hc6] at hm
          refine lv_iconst (v := 3) hx hb dX6_kindHere_49 (by decide) ?_
          refine lv_goto (tgt := 91) hx hb dX6_kindHere_50 (by decide) ?_
          obtain rfl := Option.some.inj hm
          exact en_i C hr hlk hW dX6_kindHere_91
      · rw [if_pos hc5] at hm
        refine lv_iconst (v := 2) hx hb dX6_kindHere_37 (by decide) ?_
        refine lv_goto (tgt := 91) hx hb dX6_kindHere_38 (by decide) ?_
        obtain rfl := Option.some.inj hm
        exact en_i C hr hlk hW dX6_kindHere_91
    · rw [if_pos hc4] at hm
      refine lv_iconst (v := 1) hx hb dX6_kindHere_25 (by decide) ?_
      refine lv_goto (tgt := 91) hx hb dX6_kindHere_26 (by decide) ?_
      obtain rfl := Option.some.inj hm
      exact en_i C hr hlk hW dX6_kindHere_91
  · rw [if_pos hc3] at hm
    refine lv_iconst (v := 0) hx hb dX6_kindHere_13 (by decide) ?_
    refine lv_goto (tgt := 91) hx hb dX6_kindHere_14 (by decide) ?_
    obtain rfl := Option.some.inj hm
    exact en_i C hr hlk hW dX6_kindHere_91
theorem kX6_kindHere : KM yX6_kindHere cX6_kindHere 3 (some .int) 0 := ⟨q1179, q55, q72, q1180, by decide +kernel, by decide +kernel, by decide +kernel⟩
def X6_must_b17 (σ : MS) (y1 : Int32) : Option (MS) := zb y1 (if ((su σ 22 17 y1) 22 17) = (0 : Int32) then ((X6_token (su σ 22 17 y1)).bind fun s4 => some s4) else (some (su σ 22 17 y1)))
set_option maxHeartbeats 4000000 in
set_option maxRecDepth 100000 in
theorem wX6_must_b17 {p : Program} {l : Launch} {e : Env} {s : State} {m : MethodId} {below : List Frame} {meth : Method} {c : Code} {D : va_G} {cy cz : ClassId} {G : GT} {A : Nat → Prop} {args : Array Value} {a : Nat → Nat} {σr : MS} (C : Cx p s m args c cX6_must 2 "PumpTalkModel" D cy cz G A) (hr : meth.sig.returnType = none) (hlk : meth.locks = false) : ∀ (σ : MS) (y1 : Int32) (H : Heap) (locs : List Loc) (ls : Array Slot), X6_must_b17 σ y1 = some σr → Wd D A s.heap H locs (cM a cy σ) → lv_has ls 2 [(0, .ref (a 0))] → W p l e (rmz 3 67) s m args below meth c H locs 0 0 (MQ below (QV D cy cz A (cM a cy σr) ()) args s 0 0 A) (F0 m 17 ls [.int y1, .ref (a 0)]) := by
  have hx := C.1
  have hb := C.2.1
  intro σ y1 H locs ls hm hW hl
  unfold X6_must_b17 at hm
  obtain ⟨hz1, hm⟩ := mi_zb hm
  refine pM_isWrong C hW hz1.1 hz1.2 q804 dX6_must_17 (fun H locs hW => ?_)
  refine lv_aload_n hx hb dX6_must_20 rfl (lv_at hl 0 rfl) ?_
  refine gM_isWrong C hW q804 dX6_must_21 ?_
  refine lv_if_ne (tgt := 31) hx hb dX6_must_24 (by decide) (fun hc2 => ?_) (fun hc2 => ?_)
  · rw [if_neg hc2] at hm
    obtain rfl := Option.some.inj hm
    exact en_v C hr hlk hW dX6_must_31
  · rw [if_pos hc2] at hm
    refine lv_aload_n hx hb dX6_must_27 rfl (lv_at hl 0 rfl) ?_
    obtain ⟨s4, e3, hm⟩ := mi_bind hm
    refine cs_v (q0 := 0) (As := []) (rest := []) C hW (c_X6_token e3) kX6_token q1155 rfl rfl rfl rfl rfl hl.1 ⟨Nat.le_of_ble_eq_true rfl, Nat.le_of_ble_eq_true rfl⟩ ⟨Nat.le_refl 0, Nat.le_refl 0⟩ (Nat.le_of_ble_eq_true rfl) dX6_must_28 (fun H locs hW => ?_)
    obtain rfl := Option.some.inj hm
    exact en_v C hr hlk hW dX6_must_31
def X6_must (σ : MS) (p1 : Int32) : Option (MS) := if (σ 22 17) = (0 : Int32) then (if p1 = (0 : Int32) then (X6_must_b17 σ (1 : Int32)) else (X6_must_b17 σ (0 : Int32))) else (X6_must_b17 σ (1 : Int32))
set_option maxHeartbeats 4000000 in
set_option maxRecDepth 100000 in
theorem c_X6_must {l : Launch} {D : va_G} {cy cz : ClassId} {G : GT} {a : Nat → Nat} {σ : MS} {p1 : Int32} {σr : MS} (hm : X6_must σ p1 = some σr) : CtV l D cy cz G yX6_must cX6_must 2 none 3 67 [.ref (a 0), .int p1] (cM a cy σ) (cM a cy σr) () := by
  refine ct_v (own := "PumpTalkModel") (by decide) rfl (Nat.le_of_ble_eq_true rfl) ?_
  intro p e s m below meth c ls A C hr hlk hW hl
  have hx := C.1
  have hb := C.2.1
  have hl : lv_has ls 2 [(0, .ref (a 0)), (1, .int p1)] := hl
  unfold X6_must at hm
  refine lv_aload_n hx hb dX6_must_0 rfl (lv_at hl 0 rfl) ?_
  refine lv_aload_n hx hb dX6_must_1 rfl (lv_at hl 0 rfl) ?_
  refine gM_isWrong C hW q804 dX6_must_2 ?_
  refine lv_if_ne (tgt := 12) hx hb dX6_must_5 (by decide) (fun hc5 => ?_) (fun hc5 => ?_)
  · rw [if_neg hc5] at hm
    refine lv_iconst (v := 1) hx hb dX6_must_12 (by decide) ?_
    refine lv_goto (tgt := 17) hx hb dX6_must_13 (by decide) ?_
    exact wX6_must_b17 C hr hlk σ (1 : Int32) _ _ _ hm hW (lv_sub hl [0] rfl)
  · rw [if_pos hc5] at hm
    refine lv_iload_n hx hb dX6_must_8 rfl (lv_at hl 1 rfl) ?_
    refine lv_if_ne (tgt := 16) hx hb dX6_must_9 (by decide) (fun hc6 => ?_) (fun hc6 => ?_)
    · rw [if_neg hc6] at hm
      refine lv_iconst (v := 0) hx hb dX6_must_16 (by decide) ?_
      exact wX6_must_b17 C hr hlk σ (0 : Int32) _ _ _ hm hW (lv_sub hl [0] rfl)
    · rw [if_pos hc6] at hm
      refine lv_iconst (v := 1) hx hb dX6_must_12 (by decide) ?_
      refine lv_goto (tgt := 17) hx hb dX6_must_13 (by decide) ?_
      exact wX6_must_b17 C hr hlk σ (1 : Int32) _ _ _ hm hW (lv_sub hl [0] rfl)
theorem kX6_must : KM yX6_must cX6_must 2 none 1 := ⟨q1200, q58, q72, q1201, by decide +kernel, by decide +kernel, by decide +kernel⟩
def X6_number_b79 (σ : MS) (x1 : Int32) (x2 : Int32) (x3 : Int32) (x4 : Int32) : Option (MS) := if x3 = (0 : Int32) then ((X6_must (su σ 22 16 x4) (0 : Int32)).bind fun s3 => some s3) else ((X6_in (Int32.toInt64 x4) (Int32.toInt64 x1) (Int32.toInt64 x2)).bind fun v5 => if v5 = (0 : Int32) then ((X6_must (su σ 22 16 x4) (0 : Int32)).bind fun s8 => some s8) else ((X6_must (su σ 22 16 x4) (1 : Int32)).bind fun s10 => some s10))
set_option maxHeartbeats 4000000 in
set_option maxRecDepth 100000 in
theorem wX6_number_b79 {p : Program} {l : Launch} {e : Env} {s : State} {m : MethodId} {below : List Frame} {meth : Method} {c : Code} {D : va_G} {cy cz : ClassId} {G : GT} {A : Nat → Prop} {args : Array Value} {a : Nat → Nat} {σr : MS} (C : Cx p s m args c cX6_number 6 "PumpTalkModel" D cy cz G A) (hr : meth.sig.returnType = none) (hlk : meth.locks = false) : ∀ (σ : MS) (x1 : Int32) (x2 : Int32) (x3 : Int32) (x4 : Int32) (H : Heap) (locs : List Loc) (ls : Array Slot), X6_number_b79 σ x1 x2 x3 x4 = some σr → Wd D A s.heap H locs (cM a cy σ) → lv_has ls 6 [(0, .ref (a 0)), (1, .int x1), (2, .int x2), (3, .int x3), (4, .int x4)] → W p l e (rmz 4 88) s m args below meth c H locs 0 0 (MQ below (QV D cy cz A (cM a cy σr) ()) args s 0 0 A) (F0 m 79 ls []) := by
  have hx := C.1
  have hb := C.2.1
  intro σ x1 x2 x3 x4 H locs ls hm hW hl
  unfold X6_number_b79 at hm
  refine lv_aload_n hx hb dX6_number_79 rfl (lv_at hl 0 rfl) ?_
  refine lv_iload hx hb dX6_number_80 (lv_at hl 4 rfl) ?_
  refine pM_value C hW q803 dX6_number_82 (fun H locs hW => ?_)
  refine lv_aload_n hx hb dX6_number_85 rfl (lv_at hl 0 rfl) ?_
  refine lv_iload_n hx hb dX6_number_86 rfl (lv_at hl 3 rfl) ?_
  refine lv_if_eq (tgt := 107) hx hb dX6_number_87 (by decide) (fun hc1 => ?_) (fun hc1 => ?_)
  · rw [if_pos hc1] at hm
    refine lv_iconst (v := 0) hx hb dX6_number_107 (by decide) ?_
    obtain ⟨s3, e2, hm⟩ := mi_bind hm
    refine cs_v (q0 := 0) (As := [.int (0 : Int32)]) (rest := []) C hW (c_X6_must e2) kX6_must q1198 rfl rfl rfl rfl rfl hl.1 ⟨Nat.le_of_ble_eq_true rfl, Nat.le_of_ble_eq_true rfl⟩ ⟨Nat.le_refl 0, Nat.le_refl 0⟩ (Nat.le_of_ble_eq_true rfl) dX6_number_108 (fun H locs hW => ?_)
    obtain rfl := Option.some.inj hm
    exact en_v C hr hlk hW dX6_number_111
  · rw [if_neg hc1] at hm
    refine lv_iload hx hb dX6_number_90 (lv_at hl 4 rfl) ?_
    refine lv_i2l hx hb dX6_number_92 rfl ?_
    refine lv_iload_n hx hb dX6_number_93 rfl (lv_at hl 1 rfl) ?_
    refine lv_i2l hx hb dX6_number_94 rfl ?_
    refine lv_iload_n hx hb dX6_number_95 rfl (lv_at hl 2 rfl) ?_
    refine lv_i2l hx hb dX6_number_96 rfl ?_
    obtain ⟨v5, e4, hm⟩ := mi_bind hm
    refine cS_i (As := [.long (Int32.toInt64 x4), .long (Int32.toInt64 x1), .long (Int32.toInt64 x2)]) (rest := [.ref (a 0)]) C hW (c_X6_in e4) kX6_in q862 rfl rfl hl.1 ⟨Nat.le_of_ble_eq_true rfl, Nat.le_of_ble_eq_true rfl⟩ ⟨Nat.le_refl 0, Nat.le_refl 0⟩ (Nat.le_of_ble_eq_true rfl) dX6_number_97 (fun H locs hW => ?_)
    refine lv_if_eq (tgt := 107) hx hb dX6_number_100 (by decide) (fun hc6 => ?_) (fun hc6 => ?_)
    · rw [if_pos hc6] at hm
      refine lv_iconst (v := 0) hx hb dX6_number_107 (by decide) ?_
      obtain ⟨s8, e7, hm⟩ := mi_bind hm
      refine cs_v (q0 := 0) (As := [.int (0 : Int32)]) (rest := []) C hW (c_X6_must e7) kX6_must q1198 rfl rfl rfl rfl rfl hl.1 ⟨Nat.le_of_ble_eq_true rfl, Nat.le_of_ble_eq_true rfl⟩ ⟨Nat.le_refl 0, Nat.le_refl 0⟩ (Nat.le_of_ble_eq_true rfl) dX6_number_108 (fun H locs hW => ?_)
      obtain rfl := Option.some.inj hm
      exact en_v C hr hlk hW dX6_number_111
    · rw [if_neg hc6] at hm
      refine lv_iconst (v := 1) hx hb dX6_number_103 (by decide) ?_
      refine lv_goto (tgt := 108) hx hb dX6_number_104 (by decide) ?_
      obtain ⟨s10, e9, hm⟩ := mi_bind hm
      refine cs_v (q0 := 0) (As := [.int (1 : Int32)]) (rest := []) C hW (c_X6_must e9) kX6_must q1198 rfl rfl rfl rfl rfl hl.1 ⟨Nat.le_of_ble_eq_true rfl, Nat.le_of_ble_eq_true rfl⟩ ⟨Nat.le_refl 0, Nat.le_refl 0⟩ (Nat.le_of_ble_eq_true rfl) dX6_number_108 (fun H locs hW => ?_)
      obtain rfl := Option.some.inj hm
      exact en_v C hr hlk hW dX6_number_111
def X6_number_b29 : Nat → MS → Int32 → Int32 → Int32 → Int32 → Int32 → Option (MS)
  | 0, _, _, _, _, _, _ => none
  | n + 1, σ, x1, x2, x3, x4, x5 => if (σ 22 15) ≤ x5 then (X6_number_b79 σ x1 x2 x3 x4) else (if x3 = (0 : Int32) then (X6_number_b79 σ x1 x2 x3 x4) else (if x4 ≤ (999 : Int32) then (ai x5 120 (X6_number_b29 n σ x1 x2 x3 (((((10 : Int32) * x4) + (σ 12 (Int32.toNatClampNeg x5))) - (48 : Int32))) ((x5 + (1 : Int32))))) else (X6_number_b29 n σ x1 x2 x3 x4 ((x5 + (1 : Int32))))))
set_option maxHeartbeats 4000000 in
set_option maxRecDepth 100000 in
theorem wX6_number_b29 {p : Program} {l : Launch} {e : Env} {s : State} {m : MethodId} {below : List Frame} {meth : Method} {c : Code} {D : va_G} {cy cz : ClassId} {G : GT} {A : Nat → Prop} {args : Array Value} {a : Nat → Nat} {σr : MS} (C : Cx p s m args c cX6_number 6 "PumpTalkModel" D cy cz G A) (hr : meth.sig.returnType = none) (hlk : meth.locks = false) : ∀ (n : Nat) (σ : MS) (x1 : Int32) (x2 : Int32) (x3 : Int32) (x4 : Int32) (x5 : Int32) (H : Heap) (locs : List Loc) (ls : Array Slot), X6_number_b29 n σ x1 x2 x3 x4 x5 = some σr → Wd D A s.heap H locs (cM a cy σ) → lv_has ls 6 [(0, .ref (a 0)), (1, .int x1), (2, .int x2), (3, .int x3), (4, .int x4), (5, .int x5)] → W p l e (rmz 4 88) s m args below meth c H locs 0 0 (MQ below (QV D cy cz A (cM a cy σr) ()) args s 0 0 A) (F0 m 29 ls []) := by
  have hx := C.1
  have hb := C.2.1
  intro n
  induction n with
  | zero =>
    intro σ x1 x2 x3 x4 x5 H locs ls hm
    rw [X6_number_b29] at hm
    cases hm
  | succ n ih =>
    intro σ x1 x2 x3 x4 x5 H locs ls hm hW hl
    rw [X6_number_b29] at hm
    refine lv_iload hx hb dX6_number_29 (lv_at hl 5 rfl) ?_
    refine lv_aload_n hx hb dX6_number_31 rfl (lv_at hl 0 rfl) ?_
    refine gM_to C hW q802 dX6_number_32 ?_
    refine lv_icmp_ge (tgt := 79) hx hb dX6_number_35 (by decide) (fun hc11 => ?_) (fun hc11 => ?_)
    · rw [if_pos hc11] at hm
      exact wX6_number_b79 C hr hlk σ x1 x2 x3 x4 _ _ _ hm hW (lv_sub hl [0, 1, 2, 3, 4] rfl)
    · rw [if_neg hc11] at hm
      refine lv_iload_n hx hb dX6_number_38 rfl (lv_at hl 3 rfl) ?_
      refine lv_if_eq (tgt := 79) hx hb dX6_number_39 (by decide) (fun hc12 => ?_) (fun hc12 => ?_)
      · rw [if_pos hc12] at hm
        exact wX6_number_b79 C hr hlk σ x1 x2 x3 x4 _ _ _ hm hW (lv_sub hl [0, 1, 2, 3, 4] rfl)
      · rw [if_neg hc12] at hm
        refine lv_iload hx hb dX6_number_42 (lv_at hl 4 rfl) ?_
        refine lv_sipush (v := 999) hx hb dX6_number_44 (by decide) ?_
        refine lv_icmp_le (tgt := 55) hx hb dX6_number_47 (by decide) (fun hc13 => ?_) (fun hc13 => ?_)
        · rw [if_pos hc13] at hm
          refine lv_bipush (v := 10) hx hb dX6_number_55 (by decide) ?_
          refine lv_iload hx hb dX6_number_57 (lv_at hl 4 rfl) ?_
          refine lv_imul hx hb dX6_number_59 ?_
          refine lv_aload_n hx hb dX6_number_60 rfl (lv_at hl 0 rfl) ?_
          refine gM_tape C hW q799 dX6_number_61 ?_
          refine lv_iload hx hb dX6_number_64 (lv_at hl 5 rfl) ?_
          obtain ⟨hi14, hm⟩ := mi_ai hm
          refine lM_tape C hW hi14 dX6_number_66 ?_
          refine lv_iadd hx hb dX6_number_67 ?_
          refine lv_bipush (v := 48) hx hb dX6_number_68 (by decide) ?_
          refine lv_isub hx hb dX6_number_70 ?_
          refine lv_istore (lv' := [(4, .int ((((10 : Int32) * x4) + (σ 12 (Int32.toNatClampNeg x5))) - (48 : Int32))), (0, .ref (a 0)), (1, .int x1), (2, .int x2), (3, .int x3), (5, .int x5)]) hx hb dX6_number_71 hl (by decide) rfl (fun ls hl => ?_)
          refine lv_iinc (v := (x5 + (1 : Int32))) (lv' := [(5, .int (x5 + (1 : Int32))), (4, .int ((((10 : Int32) * x4) + (σ 12 (Int32.toNatClampNeg x5))) - (48 : Int32))), (0, .ref (a 0)), (1, .int x1), (2, .int x2), (3, .int x3)]) hx hb dX6_number_73 hl (k := 5) rfl (congrArg (fun z : Int32 => x5 + z) (by decide)) (by decide) rfl (fun ls hl => ?_)
          refine lv_goto (tgt := 29) hx hb dX6_number_76 (by decide) ?_
          exact ih σ x1 x2 x3 (((((10 : Int32) * x4) + (σ 12 (Int32.toNatClampNeg x5))) - (48 : Int32))) ((x5 + (1 : Int32))) _ _ _ hm hW (lv_sub hl [2, 3, 4, 5, 1, 0] rfl)
        · rw [if_neg hc13] at hm
          refine lv_iload hx hb dX6_number_50 (lv_at hl 4 rfl) ?_
          refine lv_goto (tgt := 71) hx hb dX6_number_52 (by decide) ?_
          refine lv_istore (lv' := [(4, .int x4), (0, .ref (a 0)), (1, .int x1), (2, .int x2), (3, .int x3), (5, .int x5)]) hx hb dX6_number_71 hl (by decide) rfl (fun ls hl => ?_)
          refine lv_iinc (v := (x5 + (1 : Int32))) (lv' := [(5, .int (x5 + (1 : Int32))), (4, .int x4), (0, .ref (a 0)), (1, .int x1), (2, .int x2), (3, .int x3)]) hx hb dX6_number_73 hl (k := 5) rfl (congrArg (fun z : Int32 => x5 + z) (by decide)) (by decide) rfl (fun ls hl => ?_)
          refine lv_goto (tgt := 29) hx hb dX6_number_76 (by decide) ?_
          exact ih σ x1 x2 x3 x4 ((x5 + (1 : Int32))) _ _ _ hm hW (lv_sub hl [2, 3, 4, 5, 1, 0] rfl)
def X6_number (σ : MS) (p1 : Int32) (p2 : Int32) : Option (MS) := if (σ 22 17) = (0 : Int32) then ((X6_byteAt σ (σ 22 14)).bind fun v17 => (X6_isDigit v17).bind fun v19 => X6_number_b29 FU σ p1 p2 v19 (0 : Int32) (σ 22 14)) else (some σ)
set_option maxHeartbeats 4000000 in
set_option maxRecDepth 100000 in
theorem c_X6_number {l : Launch} {D : va_G} {cy cz : ClassId} {G : GT} {a : Nat → Nat} {σ : MS} {p1 : Int32} {p2 : Int32} {σr : MS} (hm : X6_number σ p1 p2 = some σr) : CtV l D cy cz G yX6_number cX6_number 6 none 4 88 [.ref (a 0), .int p1, .int p2] (cM a cy σ) (cM a cy σr) () := by
  refine ct_v (own := "PumpTalkModel") (by decide) rfl (Nat.le_of_ble_eq_true rfl) ?_
  intro p e s m below meth c ls A C hr hlk hW hl
  have hx := C.1
  have hb := C.2.1
  have hl : lv_has ls 6 [(0, .ref (a 0)), (1, .int p1), (2, .int p2)] := hl
  unfold X6_number at hm
  refine lv_aload_n hx hb dX6_number_0 rfl (lv_at hl 0 rfl) ?_
  refine gM_isWrong C hW q804 dX6_number_1 ?_
  refine lv_if_eq (tgt := 8) hx hb dX6_number_4 (by decide) (fun hc15 => ?_) (fun hc15 => ?_)
  · rw [if_pos hc15] at hm
    refine lv_aload_n hx hb dX6_number_8 rfl (lv_at hl 0 rfl) ?_
    refine lv_aload_n hx hb dX6_number_9 rfl (lv_at hl 0 rfl) ?_
    refine gM_from C hW q801 dX6_number_10 ?_
    obtain ⟨v17, e16, hm⟩ := mi_bind hm
    refine cs_i (q0 := 0) (As := [.int (σ 22 14)]) (rest := []) C hW (c_X6_byteAt e16) kX6_byteAt q1159 rfl rfl rfl rfl rfl hl.1 ⟨Nat.le_of_ble_eq_true rfl, Nat.le_of_ble_eq_true rfl⟩ ⟨Nat.le_refl 0, Nat.le_refl 0⟩ (Nat.le_of_ble_eq_true rfl) dX6_number_13 (fun H locs hW => ?_)
    obtain ⟨v19, e18, hm⟩ := mi_bind hm
    refine cS_i (As := [.int v17]) (rest := []) C hW (c_X6_isDigit e18) kX6_isDigit q1168 rfl rfl hl.1 ⟨Nat.le_of_ble_eq_true rfl, Nat.le_of_ble_eq_true rfl⟩ ⟨Nat.le_refl 0, Nat.le_refl 0⟩ (Nat.le_of_ble_eq_true rfl) dX6_number_16 (fun H locs hW => ?_)
    refine lv_istore_n (lv' := [(3, .int v19), (0, .ref (a 0)), (1, .int p1), (2, .int p2)]) hx hb dX6_number_19 rfl hl (by decide) rfl (fun ls hl => ?_)
    refine lv_iconst (v := 0) hx hb dX6_number_20 (by decide) ?_
    refine lv_istore (lv' := [(4, .int (0 : Int32)), (3, .int v19), (0, .ref (a 0)), (1, .int p1), (2, .int p2)]) hx hb dX6_number_21 hl (by decide) rfl (fun ls hl => ?_)
    refine lv_aload_n hx hb dX6_number_23 rfl (lv_at hl 2 rfl) ?_
    refine gM_from C hW q801 dX6_number_24 ?_
    refine lv_istore (lv' := [(5, .int (σ 22 14)), (4, .int (0 : Int32)), (3, .int v19), (0, .ref (a 0)), (1, .int p1), (2, .int p2)]) hx hb dX6_number_27 hl (by decide) rfl (fun ls hl => ?_)
    exact wX6_number_b29 C hr hlk FU σ p1 p2 v19 (0 : Int32) (σ 22 14) _ _ _ hm hW (lv_sub hl [3, 4, 5, 2, 1, 0] rfl)
  · rw [if_neg hc15] at hm
    obtain rfl := Option.some.inj hm
    exact en_v C hr hlk hW dX6_number_7
theorem kX6_number : KM yX6_number cX6_number 6 none 2 := ⟨q1205, q59, q72, q1206, by decide +kernel, by decide +kernel, by decide +kernel⟩
def X6_isHere (σ : MS) (p1 : Int32) : Option (Int32) := if (σ 22 17) = (0 : Int32) then ((X6_byteAt σ (σ 22 14)).bind fun v3 => if v3 = p1 then (some (1 : Int32)) else (some (0 : Int32))) else (some (0 : Int32))
set_option maxHeartbeats 4000000 in
set_option maxRecDepth 100000 in
theorem c_X6_isHere {l : Launch} {D : va_G} {cy cz : ClassId} {G : GT} {a : Nat → Nat} {σ : MS} {p1 : Int32} {r : Int32} (hm : X6_isHere σ p1 = some r) : CtI l D cy cz G yX6_isHere cX6_isHere 2 (some .boolean) 1 21 [.ref (a 0), .int p1] (cM a cy σ) (cM a cy σ) r := by
  refine ct_i (own := "PumpTalkModel") (by decide) rfl (Nat.le_of_ble_eq_true rfl) ?_
  intro p e s m below meth c ls A C hr hlk hW hl
  have hx := C.1
  have hb := C.2.1
  have hl : lv_has ls 2 [(0, .ref (a 0)), (1, .int p1)] := hl
  unfold X6_isHere at hm
  refine lv_aload_n hx hb dX6_isHere_0 rfl (lv_at hl 0 rfl) ?_
  refine gM_isWrong C hW q804 dX6_isHere_1 ?_
  refine lv_if_ne (tgt := 23) hx hb dX6_isHere_4 (by decide) (fun hc1 => ?_) (fun hc1 => ?_)
  · rw [if_neg hc1] at hm
    refine lv_iconst (v := 0) hx hb dX6_isHere_23 (by decide) ?_
    obtain rfl := Option.some.inj hm
    exact en_z C hr hlk rfl hW dX6_isHere_24
  · rw [if_pos hc1] at hm
    refine lv_aload_n hx hb dX6_isHere_7 rfl (lv_at hl 0 rfl) ?_
    refine lv_aload_n hx hb dX6_isHere_8 rfl (lv_at hl 0 rfl) ?_
    refine gM_from C hW q801 dX6_isHere_9 ?_
    obtain ⟨v3, e2, hm⟩ := mi_bind hm
    refine cs_i (q0 := 0) (As := [.int (σ 22 14)]) (rest := []) C hW (c_X6_byteAt e2) kX6_byteAt q1159 rfl rfl rfl rfl rfl hl.1 ⟨Nat.le_of_ble_eq_true rfl, Nat.le_of_ble_eq_true rfl⟩ ⟨Nat.le_refl 0, Nat.le_refl 0⟩ (Nat.le_of_ble_eq_true rfl) dX6_isHere_12 (fun H locs hW => ?_)
    refine lv_iload_n hx hb dX6_isHere_15 rfl (lv_at hl 1 rfl) ?_
    refine lv_icmp_ne (tgt := 23) hx hb dX6_isHere_16 (by decide) (fun hc4 => ?_) (fun hc4 => ?_)
    · rw [if_neg hc4] at hm
      refine lv_iconst (v := 0) hx hb dX6_isHere_23 (by decide) ?_
      obtain rfl := Option.some.inj hm
      exact en_z C hr hlk rfl hW dX6_isHere_24
    · rw [if_pos hc4] at hm
      refine lv_iconst (v := 1) hx hb dX6_isHere_19 (by decide) ?_
      refine lv_goto (tgt := 24) hx hb dX6_isHere_20 (by decide) ?_
      obtain rfl := Option.some.inj hm
      exact en_z C hr hlk rfl hW dX6_isHere_24
theorem kX6_isHere : KM yX6_isHere cX6_isHere 2 (some .boolean) 1 := ⟨q1214, q61, q72, q1215, by decide +kernel, by decide +kernel, by decide +kernel⟩
def X6_viewHere_b16 (σ : MS) (x1 : Int32) : Option (Int32 × MS) := (X6_number σ (0 : Int32) (9 : Int32)).bind fun s2 => if x1 = (0 : Int32) then (some ((s2 22 16), s2)) else (some ((-(s2 22 16)), s2))
set_option maxHeartbeats 4000000 in
set_option maxRecDepth 100000 in
theorem wX6_viewHere_b16 {p : Program} {l : Launch} {e : Env} {s : State} {m : MethodId} {below : List Frame} {meth : Method} {c : Code} {D : va_G} {cy cz : ClassId} {G : GT} {A : Nat → Prop} {args : Array Value} {a : Nat → Nat} {r : Int32} {σr : MS} (C : Cx p s m args c cX6_viewHere 2 "PumpTalkModel" D cy cz G A) (hr : meth.sig.returnType = some .int) (hlk : meth.locks = false) : ∀ (σ : MS) (x1 : Int32) (H : Heap) (locs : List Loc) (ls : Array Slot), X6_viewHere_b16 σ x1 = some (r, σr) → Wd D A s.heap H locs (cM a cy σ) → lv_has ls 2 [(0, .ref (a 0)), (1, .int x1)] → W p l e (rmz 5 113) s m args below meth c H locs 0 0 (MQ below (QI D cy cz A (cM a cy σr) r) args s 0 0 A) (F0 m 16 ls []) := by
  have hx := C.1
  have hb := C.2.1
  intro σ x1 H locs ls hm hW hl
  unfold X6_viewHere_b16 at hm
  refine lv_aload_n hx hb dX6_viewHere_16 rfl (lv_at hl 0 rfl) ?_
  refine lv_iconst (v := 0) hx hb dX6_viewHere_17 (by decide) ?_
  refine lv_bipush (v := 9) hx hb dX6_viewHere_18 (by decide) ?_
  obtain ⟨s2, e1, hm⟩ := mi_bind hm
  refine cs_v (q0 := 0) (As := [.int (0 : Int32), .int (9 : Int32)]) (rest := []) C hW (c_X6_number e1) kX6_number q1203 rfl rfl rfl rfl rfl hl.1 ⟨Nat.le_of_ble_eq_true rfl, Nat.le_of_ble_eq_true rfl⟩ ⟨Nat.le_refl 0, Nat.le_refl 0⟩ (Nat.le_of_ble_eq_true rfl) dX6_viewHere_20 (fun H locs hW => ?_)
  refine lv_iload_n hx hb dX6_viewHere_23 rfl (lv_at hl 1 rfl) ?_
  refine lv_if_eq (tgt := 35) hx hb dX6_viewHere_24 (by decide) (fun hc3 => ?_) (fun hc3 => ?_)
  · rw [if_pos hc3] at hm
    refine lv_aload_n hx hb dX6_viewHere_35 rfl (lv_at hl 0 rfl) ?_
    refine gM_value C hW q803 dX6_viewHere_36 ?_
    obtain ⟨rfl, rfl⟩ := Prod.mk.inj (Option.some.inj hm)
    exact en_i C hr hlk hW dX6_viewHere_39
  · rw [if_neg hc3] at hm
    refine lv_aload_n hx hb dX6_viewHere_27 rfl (lv_at hl 0 rfl) ?_
    refine gM_value C hW q803 dX6_viewHere_28 ?_
    refine lv_ineg hx hb dX6_viewHere_31 ?_
    refine lv_goto (tgt := 39) hx hb dX6_viewHere_32 (by decide) ?_
    obtain ⟨rfl, rfl⟩ := Prod.mk.inj (Option.some.inj hm)
    exact en_i C hr hlk hW dX6_viewHere_39
def X6_viewHere (σ : MS) : Option (Int32 × MS) := (X6_isHere σ (45 : Int32)).bind fun v5 => if v5 = (0 : Int32) then (X6_viewHere_b16 σ v5) else ((X6_must σ (1 : Int32)).bind fun s8 => X6_viewHere_b16 s8 v5)
set_option maxHeartbeats 4000000 in
set_option maxRecDepth 100000 in
theorem c_X6_viewHere {l : Launch} {D : va_G} {cy cz : ClassId} {G : GT} {a : Nat → Nat} {σ : MS} {r : Int32} {σr : MS} (hm : X6_viewHere σ = some (r, σr)) : CtI l D cy cz G yX6_viewHere cX6_viewHere 2 (some .int) 5 113 [.ref (a 0)] (cM a cy σ) (cM a cy σr) r := by
  refine ct_i (own := "PumpTalkModel") (by decide) rfl (Nat.le_of_ble_eq_true rfl) ?_
  intro p e s m below meth c ls A C hr hlk hW hl
  have hx := C.1
  have hb := C.2.1
  have hl : lv_has ls 2 [(0, .ref (a 0))] := hl
  unfold X6_viewHere at hm
  refine lv_aload_n hx hb dX6_viewHere_0 rfl (lv_at hl 0 rfl) ?_
  refine lv_bipush (v := 45) hx hb dX6_viewHere_1 (by decide) ?_
  obtain ⟨v5, e4, hm⟩ := mi_bind hm
  refine cs_i (q0 := 0) (As := [.int (45 : Int32)]) (rest := []) C hW (c_X6_isHere e4) kX6_isHere q1212 rfl rfl rfl rfl rfl hl.1 ⟨Nat.le_of_ble_eq_true rfl, Nat.le_of_ble_eq_true rfl⟩ ⟨Nat.le_refl 0, Nat.le_refl 0⟩ (Nat.le_of_ble_eq_true rfl) dX6_viewHere_3 (fun H locs hW => ?_)
  refine lv_istore_n (lv' := [(1, .int v5), (0, .ref (a 0))]) hx hb dX6_viewHere_6 rfl hl (by decide) rfl (fun ls hl => ?_)
  refine lv_iload_n hx hb dX6_viewHere_7 rfl (lv_at hl 0 rfl) ?_
  refine lv_if_eq (tgt := 16) hx hb dX6_viewHere_8 (by decide) (fun hc6 => ?_) (fun hc6 => ?_)
  · rw [if_pos hc6] at hm
    exact wX6_viewHere_b16 C hr hlk σ v5 _ _ _ hm hW (lv_sub hl [1, 0] rfl)
  · rw [if_neg hc6] at hm
    refine lv_aload_n hx hb dX6_viewHere_11 rfl (lv_at hl 1 rfl) ?_
    refine lv_iconst (v := 1) hx hb dX6_viewHere_12 (by decide) ?_
    obtain ⟨s8, e7, hm⟩ := mi_bind hm
    refine cs_v (q0 := 0) (As := [.int (1 : Int32)]) (rest := []) C hW (c_X6_must e7) kX6_must q1198 rfl rfl rfl rfl rfl hl.1 ⟨Nat.le_of_ble_eq_true rfl, Nat.le_of_ble_eq_true rfl⟩ ⟨Nat.le_refl 0, Nat.le_refl 0⟩ (Nat.le_of_ble_eq_true rfl) dX6_viewHere_13 (fun H locs hW => ?_)
    exact wX6_viewHere_b16 C hr hlk s8 v5 _ _ _ hm hW (lv_sub hl [1, 0] rfl)
theorem kX6_viewHere : KM yX6_viewHere cX6_viewHere 2 (some .int) 0 := ⟨q1210, q60, q72, q1211, by decide +kernel, by decide +kernel, by decide +kernel⟩
def X6_personItem_b130 (k100 : MS → Int32 → Int32 → Option (MS)) (σ : MS) (x2 : Int32) (x3 : Int32) (y1 : Int32) (y2 : Int32) : Option (MS) := ai y1 81 (if (6 : Int32) ≤ (x3 + (1 : Int32)) then (some (su σ 0 (Int32.toNatClampNeg y1) y2)) else (if ((su σ 0 (Int32.toNatClampNeg y1) y2) 22 17) = (0 : Int32) then ((X6_isHere (su σ 0 (Int32.toNatClampNeg y1) y2) (45 : Int32)).bind fun v5 => if v5 = (0 : Int32) then ((X6_byteAt (su σ 0 (Int32.toNatClampNeg y1) y2) ((su σ 0 (Int32.toNatClampNeg y1) y2) 22 14)).bind fun v8 => (X6_isDigit v8).bind fun v10 => if v10 = (0 : Int32) then (some (su σ 0 (Int32.toNatClampNeg y1) y2)) else (k100 (su σ 0 (Int32.toNatClampNeg y1) y2) x2 ((x3 + (1 : Int32))))) else (k100 (su σ 0 (Int32.toNatClampNeg y1) y2) x2 ((x3 + (1 : Int32))))) else (some (su σ 0 (Int32.toNatClampNeg y1) y2))))
set_option maxHeartbeats 4000000 in
set_option maxRecDepth 100000 in
theorem wX6_personItem_b130 {p : Program} {l : Launch} {e : Env} {s : State} {m : MethodId} {below : List Frame} {meth : Method} {c : Code} {D : va_G} {cy cz : ClassId} {G : GT} {A : Nat → Prop} {args : Array Value} {a : Nat → Nat} {σr : MS} (C : Cx p s m args c cX6_personItem 5 "PumpTalkModel" D cy cz G A) (hr : meth.sig.returnType = none) (hlk : meth.locks = false) {k100 : MS → Int32 → Int32 → Option (MS)} (hk100 : ∀ (σ : MS) (x2 : Int32) (x3 : Int32) (H : Heap) (locs : List Loc) (ls : Array Slot), k100 σ x2 x3 = some σr → Wd D A s.heap H locs (cM a cy σ) → lv_has ls 5 [(0, .ref (a 0)), (2, .int x2), (3, .int x3)] → W p l e (rmz 6 134) s m args below meth c H locs 0 0 (MQ below (QV D cy cz A (cM a cy σr) ()) args s 0 0 A) (F0 m 100 ls [])) : ∀ (σ : MS) (x2 : Int32) (x3 : Int32) (y1 : Int32) (y2 : Int32) (H : Heap) (locs : List Loc) (ls : Array Slot), X6_personItem_b130 k100 σ x2 x3 y1 y2 = some σr → Wd D A s.heap H locs (cM a cy σ) → lv_has ls 5 [(0, .ref (a 0)), (2, .int x2), (3, .int x3)] → W p l e (rmz 6 134) s m args below meth c H locs 0 0 (MQ below (QV D cy cz A (cM a cy σr) ()) args s 0 0 A) (F0 m 130 ls [.int y2, .int y1, .ref (a 1)]) := by
  have hx := C.1
  have hb := C.2.1
  intro σ x2 x3 y1 y2 H locs ls hm hW hl
  unfold X6_personItem_b130 at hm
  obtain ⟨hi1, hm⟩ := mi_ai hm
  refine tM_s C hW hi1 dX6_personItem_130 (fun H locs hW => ?_)
  refine lv_iinc (v := (x3 + (1 : Int32))) (lv' := [(3, .int (x3 + (1 : Int32))), (0, .ref (a 0)), (2, .int x2)]) hx hb dX6_personItem_131 hl (k := 2) rfl (congrArg (fun z : Int32 => x3 + z) (by decide)) (by decide) rfl (fun ls hl => ?_)
  refine lv_iload_n hx hb dX6_personItem_134 rfl (lv_at hl 0 rfl) ?_
  refine lv_bipush (v := 6) hx hb dX6_personItem_135 (by decide) ?_
  refine lv_icmp_ge (tgt := 170) hx hb dX6_personItem_137 (by decide) (fun hc2 => ?_) (fun hc2 => ?_)
  · rw [if_pos hc2] at hm
    obtain rfl := Option.some.inj hm
    exact en_v C hr hlk hW dX6_personItem_170
  · rw [if_neg hc2] at hm
    refine lv_aload_n hx hb dX6_personItem_140 rfl (lv_at hl 1 rfl) ?_
    refine gM_isWrong C hW q804 dX6_personItem_141 ?_
    refine lv_if_ne (tgt := 170) hx hb dX6_personItem_144 (by decide) (fun hc3 => ?_) (fun hc3 => ?_)
    · rw [if_neg hc3] at hm
      obtain rfl := Option.some.inj hm
      exact en_v C hr hlk hW dX6_personItem_170
    · rw [if_pos hc3] at hm
      refine lv_aload_n hx hb dX6_personItem_147 rfl (lv_at hl 1 rfl) ?_
      refine lv_bipush (v := 45) hx hb dX6_personItem_148 (by decide) ?_
      obtain ⟨v5, e4, hm⟩ := mi_bind hm
      refine cs_i (q0 := 0) (As := [.int (45 : Int32)]) (rest := []) C hW (c_X6_isHere e4) kX6_isHere q1212 rfl rfl rfl rfl rfl hl.1 ⟨Nat.le_of_ble_eq_true rfl, Nat.le_of_ble_eq_true rfl⟩ ⟨Nat.le_refl 0, Nat.le_refl 0⟩ (Nat.le_of_ble_eq_true rfl) dX6_personItem_150 (fun H locs hW => ?_)
      refine lv_if_ne (tgt := 100) hx hb dX6_personItem_153 (by decide) (fun hc6 => ?_) (fun hc6 => ?_)
      · rw [if_neg hc6] at hm
        exact hk100 (su σ 0 (Int32.toNatClampNeg y1) y2) x2 ((x3 + (1 : Int32))) _ _ _ hm hW (lv_sub hl [1, 2, 0] rfl)
      · rw [if_pos hc6] at hm
        refine lv_aload_n hx hb dX6_personItem_156 rfl (lv_at hl 1 rfl) ?_
        refine lv_aload_n hx hb dX6_personItem_157 rfl (lv_at hl 1 rfl) ?_
        refine gM_from C hW q801 dX6_personItem_158 ?_
        obtain ⟨v8, e7, hm⟩ := mi_bind hm
        refine cs_i (q0 := 0) (As := [.int ((su σ 0 (Int32.toNatClampNeg y1) y2) 22 14)]) (rest := []) C hW (c_X6_byteAt e7) kX6_byteAt q1159 rfl rfl rfl rfl rfl hl.1 ⟨Nat.le_of_ble_eq_true rfl, Nat.le_of_ble_eq_true rfl⟩ ⟨Nat.le_refl 0, Nat.le_refl 0⟩ (Nat.le_of_ble_eq_true rfl) dX6_personItem_161 (fun H locs hW => ?_)
        obtain ⟨v10, e9, hm⟩ := mi_bind hm
        refine cS_i (As := [.int v8]) (rest := []) C hW (c_X6_isDigit e9) kX6_isDigit q1168 rfl rfl hl.1 ⟨Nat.le_of_ble_eq_true rfl, Nat.le_of_ble_eq_true rfl⟩ ⟨Nat.le_refl 0, Nat.le_refl 0⟩ (Nat.le_of_ble_eq_true rfl) dX6_personItem_164 (fun H locs hW => ?_)
        refine lv_if_ne (tgt := 100) hx hb dX6_personItem_167 (by decide) (fun hc11 => ?_) (fun hc11 => ?_)
        · rw [if_neg hc11] at hm
          exact hk100 (su σ 0 (Int32.toNatClampNeg y1) y2) x2 ((x3 + (1 : Int32))) _ _ _ hm hW (lv_sub hl [1, 2, 0] rfl)
        · rw [if_pos hc11] at hm
          obtain rfl := Option.some.inj hm
          exact en_v C hr hlk hW dX6_personItem_170
def X6_personItem_b100 : Nat → MS → Int32 → Int32 → Option (MS)
  | 0, _, _, _ => none
  | n + 1, σ, x2, x3 => (X6_viewHere σ).bind fun q13 => (X6_place x2 ((2 : Int32) + x3)).bind fun v15 => if (q13.2 22 17) = (0 : Int32) then (X6_personItem_b130 (X6_personItem_b100 n) q13.2 x2 x3 v15 q13.1) else (X6_personItem_b130 (X6_personItem_b100 n) q13.2 x2 x3 v15 (0 : Int32))
set_option maxHeartbeats 4000000 in
set_option maxRecDepth 100000 in
theorem wX6_personItem_b100 {p : Program} {l : Launch} {e : Env} {s : State} {m : MethodId} {below : List Frame} {meth : Method} {c : Code} {D : va_G} {cy cz : ClassId} {G : GT} {A : Nat → Prop} {args : Array Value} {a : Nat → Nat} {σr : MS} (C : Cx p s m args c cX6_personItem 5 "PumpTalkModel" D cy cz G A) (hr : meth.sig.returnType = none) (hlk : meth.locks = false) : ∀ (n : Nat) (σ : MS) (x2 : Int32) (x3 : Int32) (H : Heap) (locs : List Loc) (ls : Array Slot), X6_personItem_b100 n σ x2 x3 = some σr → Wd D A s.heap H locs (cM a cy σ) → lv_has ls 5 [(0, .ref (a 0)), (2, .int x2), (3, .int x3)] → W p l e (rmz 6 134) s m args below meth c H locs 0 0 (MQ below (QV D cy cz A (cM a cy σr) ()) args s 0 0 A) (F0 m 100 ls []) := by
  have hx := C.1
  have hb := C.2.1
  intro n
  induction n with
  | zero =>
    intro σ x2 x3 H locs ls hm
    rw [X6_personItem_b100] at hm
    cases hm
  | succ n ih =>
    intro σ x2 x3 H locs ls hm hW hl
    rw [X6_personItem_b100] at hm
    refine lv_aload_n hx hb dX6_personItem_100 rfl (lv_at hl 0 rfl) ?_
    obtain ⟨q13, e12, hm⟩ := mi_bind hm
    refine cs_i (q0 := 0) (As := []) (rest := []) C hW (c_X6_viewHere e12) kX6_viewHere q1208 rfl rfl rfl rfl rfl hl.1 ⟨Nat.le_of_ble_eq_true rfl, Nat.le_of_ble_eq_true rfl⟩ ⟨Nat.le_refl 0, Nat.le_refl 0⟩ (Nat.le_of_ble_eq_true rfl) dX6_personItem_101 (fun H locs hW => ?_)
    refine lv_istore (lv' := [(4, .int q13.1), (0, .ref (a 0)), (2, .int x2), (3, .int x3)]) hx hb dX6_personItem_104 hl (by decide) rfl (fun ls hl => ?_)
    refine lv_aload_n hx hb dX6_personItem_106 rfl (lv_at hl 1 rfl) ?_
    refine gM_s C hW q787 dX6_personItem_107 ?_
    refine lv_iload_n hx hb dX6_personItem_110 rfl (lv_at hl 2 rfl) ?_
    refine lv_iconst (v := 2) hx hb dX6_personItem_111 (by decide) ?_
    refine lv_iload_n hx hb dX6_personItem_112 rfl (lv_at hl 3 rfl) ?_
    refine lv_iadd hx hb dX6_personItem_113 ?_
    obtain ⟨v15, e14, hm⟩ := mi_bind hm
    refine cS_i (As := [.int x2, .int ((2 : Int32) + x3)]) (rest := [.ref (a 1)]) C hW (c_X6_place e14) kX6_place q875 rfl rfl hl.1 ⟨Nat.le_of_ble_eq_true rfl, Nat.le_of_ble_eq_true rfl⟩ ⟨Nat.le_refl 0, Nat.le_refl 0⟩ (Nat.le_of_ble_eq_true rfl) dX6_personItem_114 (fun H locs hW => ?_)
    refine lv_aload_n hx hb dX6_personItem_117 rfl (lv_at hl 1 rfl) ?_
    refine gM_isWrong C hW q804 dX6_personItem_118 ?_
    refine lv_if_eq (tgt := 128) hx hb dX6_personItem_121 (by decide) (fun hc16 => ?_) (fun hc16 => ?_)
    · rw [if_pos hc16] at hm
      refine lv_iload hx hb dX6_personItem_128 (lv_at hl 0 rfl) ?_
      exact wX6_personItem_b130 C hr hlk ih q13.2 x2 x3 v15 q13.1 _ _ _ hm hW (lv_sub hl [1, 2, 3] rfl)
    · rw [if_neg hc16] at hm
      refine lv_iconst (v := 0) hx hb dX6_personItem_124 (by decide) ?_
      refine lv_goto (tgt := 130) hx hb dX6_personItem_125 (by decide) ?_
      exact wX6_personItem_b130 C hr hlk ih q13.2 x2 x3 v15 (0 : Int32) _ _ _ hm hW (lv_sub hl [1, 2, 3] rfl)
def X6_personItem_b82 (σ : MS) (x2 : Int32) : Option (MS) := (X6_word σ).bind fun v18 => if (lg_cmp v18 (679786867 : Int64)) = (0 : Int32) then ((X6_must σ (1 : Int32)).bind fun s21 => X6_personItem_b100 FU s21 x2 (0 : Int32)) else (some σ)
set_option maxHeartbeats 4000000 in
set_option maxRecDepth 100000 in
theorem wX6_personItem_b82 {p : Program} {l : Launch} {e : Env} {s : State} {m : MethodId} {below : List Frame} {meth : Method} {c : Code} {D : va_G} {cy cz : ClassId} {G : GT} {A : Nat → Prop} {args : Array Value} {a : Nat → Nat} {σr : MS} (C : Cx p s m args c cX6_personItem 5 "PumpTalkModel" D cy cz G A) (hr : meth.sig.returnType = none) (hlk : meth.locks = false) : ∀ (σ : MS) (x2 : Int32) (H : Heap) (locs : List Loc) (ls : Array Slot), X6_personItem_b82 σ x2 = some σr → Wd D A s.heap H locs (cM a cy σ) → lv_has ls 5 [(0, .ref (a 0)), (2, .int x2)] → W p l e (rmz 6 134) s m args below meth c H locs 0 0 (MQ below (QV D cy cz A (cM a cy σr) ()) args s 0 0 A) (F0 m 82 ls []) := by
  have hx := C.1
  have hb := C.2.1
  intro σ x2 H locs ls hm hW hl
  unfold X6_personItem_b82 at hm
  refine lv_aload_n hx hb dX6_personItem_82 rfl (lv_at hl 0 rfl) ?_
  obtain ⟨v18, e17, hm⟩ := mi_bind hm
  refine cs_l (q0 := 0) (As := []) (rest := []) C hW (c_X6_word e17) kX6_word q1181 rfl rfl rfl rfl rfl hl.1 ⟨Nat.le_of_ble_eq_true rfl, Nat.le_of_ble_eq_true rfl⟩ ⟨Nat.le_refl 0, Nat.le_refl 0⟩ (Nat.le_of_ble_eq_true rfl) dX6_personItem_83 (fun H locs hW => ?_)
  refine lv_ldc2 hx hb C.2.2.2.1 (C.2.2.2.2.1 _ q1207) dX6_personItem_86 ?_
  refine W.lcmp hx hb dX6_personItem_89 ?_
  refine lv_if_ne (tgt := 170) hx hb dX6_personItem_90 (by decide) (fun hc19 => ?_) (fun hc19 => ?_)
  · rw [if_neg hc19] at hm
    obtain rfl := Option.some.inj hm
    exact en_v C hr hlk hW dX6_personItem_170
  · rw [if_pos hc19] at hm
    refine lv_aload_n hx hb dX6_personItem_93 rfl (lv_at hl 0 rfl) ?_
    refine lv_iconst (v := 1) hx hb dX6_personItem_94 (by decide) ?_
    obtain ⟨s21, e20, hm⟩ := mi_bind hm
    refine cs_v (q0 := 0) (As := [.int (1 : Int32)]) (rest := []) C hW (c_X6_must e20) kX6_must q1198 rfl rfl rfl rfl rfl hl.1 ⟨Nat.le_of_ble_eq_true rfl, Nat.le_of_ble_eq_true rfl⟩ ⟨Nat.le_refl 0, Nat.le_refl 0⟩ (Nat.le_of_ble_eq_true rfl) dX6_personItem_95 (fun H locs hW => ?_)
    refine lv_iconst (v := 0) hx hb dX6_personItem_98 (by decide) ?_
    refine lv_istore_n (lv' := [(3, .int (0 : Int32)), (0, .ref (a 0)), (2, .int x2)]) hx hb dX6_personItem_99 rfl hl (by decide) rfl (fun ls hl => ?_)
    exact wX6_personItem_b100 C hr hlk FU s21 x2 (0 : Int32) _ _ _ hm hW (lv_sub hl [1, 2, 0] rfl)
def X6_personItem_b81 (σ : MS) (x2 : Int32) (y1 : Int32) (y2 : Int32) : Option (MS) := ai y1 81 (X6_personItem_b82 (su σ 0 (Int32.toNatClampNeg y1) y2) x2)
set_option maxHeartbeats 4000000 in
set_option maxRecDepth 100000 in
theorem wX6_personItem_b81 {p : Program} {l : Launch} {e : Env} {s : State} {m : MethodId} {below : List Frame} {meth : Method} {c : Code} {D : va_G} {cy cz : ClassId} {G : GT} {A : Nat → Prop} {args : Array Value} {a : Nat → Nat} {σr : MS} (C : Cx p s m args c cX6_personItem 5 "PumpTalkModel" D cy cz G A) (hr : meth.sig.returnType = none) (hlk : meth.locks = false) : ∀ (σ : MS) (x2 : Int32) (y1 : Int32) (y2 : Int32) (H : Heap) (locs : List Loc) (ls : Array Slot), X6_personItem_b81 σ x2 y1 y2 = some σr → Wd D A s.heap H locs (cM a cy σ) → lv_has ls 5 [(0, .ref (a 0)), (2, .int x2)] → W p l e (rmz 6 134) s m args below meth c H locs 0 0 (MQ below (QV D cy cz A (cM a cy σr) ()) args s 0 0 A) (F0 m 81 ls [.int y2, .int y1, .ref (a 1)]) := by
  have hx := C.1
  have hb := C.2.1
  intro σ x2 y1 y2 H locs ls hm hW hl
  unfold X6_personItem_b81 at hm
  obtain ⟨hi22, hm⟩ := mi_ai hm
  refine tM_s C hW hi22 dX6_personItem_81 (fun H locs hW => ?_)
  exact wX6_personItem_b82 C hr hlk (su σ 0 (Int32.toNatClampNeg y1) y2) x2 _ _ _ hm hW (lv_sub hl [0, 1] rfl)
def X6_personItem_b17 (σ : MS) (x1 : Int32) (y1 : Int32) : Option (MS) := (X6_must σ y1).bind fun s24 => if (s24 22 17) = (0 : Int32) then ((X6_adds s24 x1).bind fun q27 => (X6_word q27.2).bind fun v29 => if (lg_cmp v29 (23569509 : Int64)) = (0 : Int32) then ((X6_must q27.2 (1 : Int32)).bind fun s32 => (X6_number s32 (0 : Int32) (9 : Int32)).bind fun s34 => (X6_place q27.1 (1 : Int32)).bind fun v36 => if (s34 22 17) = (0 : Int32) then (X6_personItem_b81 s34 q27.1 v36 (s34 22 16)) else (X6_personItem_b81 s34 q27.1 v36 (3 : Int32))) else (X6_personItem_b82 q27.2 q27.1)) else (some s24)
set_option maxHeartbeats 4000000 in
set_option maxRecDepth 100000 in
theorem wX6_personItem_b17 {p : Program} {l : Launch} {e : Env} {s : State} {m : MethodId} {below : List Frame} {meth : Method} {c : Code} {D : va_G} {cy cz : ClassId} {G : GT} {A : Nat → Prop} {args : Array Value} {a : Nat → Nat} {σr : MS} (C : Cx p s m args c cX6_personItem 5 "PumpTalkModel" D cy cz G A) (hr : meth.sig.returnType = none) (hlk : meth.locks = false) : ∀ (σ : MS) (x1 : Int32) (y1 : Int32) (H : Heap) (locs : List Loc) (ls : Array Slot), X6_personItem_b17 σ x1 y1 = some σr → Wd D A s.heap H locs (cM a cy σ) → lv_has ls 5 [(0, .ref (a 0)), (1, .int x1)] → W p l e (rmz 6 134) s m args below meth c H locs 0 0 (MQ below (QV D cy cz A (cM a cy σr) ()) args s 0 0 A) (F0 m 17 ls [.int y1, .ref (a 0)]) := by
  have hx := C.1
  have hb := C.2.1
  intro σ x1 y1 H locs ls hm hW hl
  unfold X6_personItem_b17 at hm
  obtain ⟨s24, e23, hm⟩ := mi_bind hm
  refine cs_v (q0 := 0) (As := [.int y1]) (rest := []) C hW (c_X6_must e23) kX6_must q1198 rfl rfl rfl rfl rfl hl.1 ⟨Nat.le_of_ble_eq_true rfl, Nat.le_of_ble_eq_true rfl⟩ ⟨Nat.le_refl 0, Nat.le_refl 0⟩ (Nat.le_of_ble_eq_true rfl) dX6_personItem_17 (fun H locs hW => ?_)
  refine lv_aload_n hx hb dX6_personItem_20 rfl (lv_at hl 0 rfl) ?_
  refine gM_isWrong C hW q804 dX6_personItem_21 ?_
  refine lv_if_eq (tgt := 28) hx hb dX6_personItem_24 (by decide) (fun hc25 => ?_) (fun hc25 => ?_)
  · rw [if_pos hc25] at hm
    refine lv_aload_n hx hb dX6_personItem_28 rfl (lv_at hl 0 rfl) ?_
    refine lv_iload_n hx hb dX6_personItem_29 rfl (lv_at hl 1 rfl) ?_
    obtain ⟨q27, e26, hm⟩ := mi_bind hm
    refine cs_i (q0 := 0) (As := [.int x1]) (rest := []) C hW (c_X6_adds e26) kX6_adds q871 rfl rfl rfl rfl rfl hl.1 ⟨Nat.le_of_ble_eq_true rfl, Nat.le_of_ble_eq_true rfl⟩ ⟨Nat.le_refl 0, Nat.le_refl 0⟩ (Nat.le_of_ble_eq_true rfl) dX6_personItem_30 (fun H locs hW => ?_)
    refine lv_istore_n (lv' := [(2, .int q27.1), (0, .ref (a 0)), (1, .int x1)]) hx hb dX6_personItem_33 rfl hl (by decide) rfl (fun ls hl => ?_)
    refine lv_aload_n hx hb dX6_personItem_34 rfl (lv_at hl 1 rfl) ?_
    obtain ⟨v29, e28, hm⟩ := mi_bind hm
    refine cs_l (q0 := 0) (As := []) (rest := []) C hW (c_X6_word e28) kX6_word q1181 rfl rfl rfl rfl rfl hl.1 ⟨Nat.le_of_ble_eq_true rfl, Nat.le_of_ble_eq_true rfl⟩ ⟨Nat.le_refl 0, Nat.le_refl 0⟩ (Nat.le_of_ble_eq_true rfl) dX6_personItem_35 (fun H locs hW => ?_)
    refine lv_ldc2 hx hb C.2.2.2.1 (C.2.2.2.2.1 _ q1202) dX6_personItem_38 ?_
    refine W.lcmp hx hb dX6_personItem_41 ?_
    refine lv_if_ne (tgt := 82) hx hb dX6_personItem_42 (by decide) (fun hc30 => ?_) (fun hc30 => ?_)
    · rw [if_neg hc30] at hm
      exact wX6_personItem_b82 C hr hlk q27.2 q27.1 _ _ _ hm hW (lv_sub hl [1, 0] rfl)
    · rw [if_pos hc30] at hm
      refine lv_aload_n hx hb dX6_personItem_45 rfl (lv_at hl 1 rfl) ?_
      refine lv_iconst (v := 1) hx hb dX6_personItem_46 (by decide) ?_
      obtain ⟨s32, e31, hm⟩ := mi_bind hm
      refine cs_v (q0 := 0) (As := [.int (1 : Int32)]) (rest := []) C hW (c_X6_must e31) kX6_must q1198 rfl rfl rfl rfl rfl hl.1 ⟨Nat.le_of_ble_eq_true rfl, Nat.le_of_ble_eq_true rfl⟩ ⟨Nat.le_refl 0, Nat.le_refl 0⟩ (Nat.le_of_ble_eq_true rfl) dX6_personItem_47 (fun H locs hW => ?_)
      refine lv_aload_n hx hb dX6_personItem_50 rfl (lv_at hl 1 rfl) ?_
      refine lv_iconst (v := 0) hx hb dX6_personItem_51 (by decide) ?_
      refine lv_bipush (v := 9) hx hb dX6_personItem_52 (by decide) ?_
      obtain ⟨s34, e33, hm⟩ := mi_bind hm
      refine cs_v (q0 := 0) (As := [.int (0 : Int32), .int (9 : Int32)]) (rest := []) C hW (c_X6_number e33) kX6_number q1203 rfl rfl rfl rfl rfl hl.1 ⟨Nat.le_of_ble_eq_true rfl, Nat.le_of_ble_eq_true rfl⟩ ⟨Nat.le_refl 0, Nat.le_refl 0⟩ (Nat.le_of_ble_eq_true rfl) dX6_personItem_54 (fun H locs hW => ?_)
      refine lv_aload_n hx hb dX6_personItem_57 rfl (lv_at hl 1 rfl) ?_
      refine gM_s C hW q787 dX6_personItem_58 ?_
      refine lv_iload_n hx hb dX6_personItem_61 rfl (lv_at hl 0 rfl) ?_
      refine lv_iconst (v := 1) hx hb dX6_personItem_62 (by decide) ?_
      obtain ⟨v36, e35, hm⟩ := mi_bind hm
      refine cS_i (As := [.int q27.1, .int (1 : Int32)]) (rest := [.ref (a 1)]) C hW (c_X6_place e35) kX6_place q875 rfl rfl hl.1 ⟨Nat.le_of_ble_eq_true rfl, Nat.le_of_ble_eq_true rfl⟩ ⟨Nat.le_refl 0, Nat.le_refl 0⟩ (Nat.le_of_ble_eq_true rfl) dX6_personItem_63 (fun H locs hW => ?_)
      refine lv_aload_n hx hb dX6_personItem_66 rfl (lv_at hl 1 rfl) ?_
      refine gM_isWrong C hW q804 dX6_personItem_67 ?_
      refine lv_if_eq (tgt := 77) hx hb dX6_personItem_70 (by decide) (fun hc37 => ?_) (fun hc37 => ?_)
      · rw [if_pos hc37] at hm
        refine lv_aload_n hx hb dX6_personItem_77 rfl (lv_at hl 1 rfl) ?_
        refine gM_value C hW q803 dX6_personItem_78 ?_
        exact wX6_personItem_b81 C hr hlk s34 q27.1 v36 (s34 22 16) _ _ _ hm hW (lv_sub hl [1, 0] rfl)
      · rw [if_neg hc37] at hm
        refine lv_iconst (v := 3) hx hb dX6_personItem_73 (by decide) ?_
        refine lv_goto (tgt := 81) hx hb dX6_personItem_74 (by decide) ?_
        exact wX6_personItem_b81 C hr hlk s34 q27.1 v36 (3 : Int32) _ _ _ hm hW (lv_sub hl [1, 0] rfl)
  · rw [if_neg hc25] at hm
    obtain rfl := Option.some.inj hm
    exact en_v C hr hlk hW dX6_personItem_27
def X6_personItem (σ : MS) (p1 : Int32) : Option (MS) := if (8 : Int32) ≤ (σ 0 1) then (X6_personItem_b17 σ p1 (0 : Int32)) else (X6_personItem_b17 σ p1 (1 : Int32))
set_option maxHeartbeats 4000000 in
set_option maxRecDepth 100000 in
theorem c_X6_personItem {l : Launch} {D : va_G} {cy cz : ClassId} {G : GT} {a : Nat → Nat} {σ : MS} {p1 : Int32} {σr : MS} (hm : X6_personItem σ p1 = some σr) : CtV l D cy cz G yX6_personItem cX6_personItem 5 none 6 134 [.ref (a 0), .int p1] (cM a cy σ) (cM a cy σr) () := by
  refine ct_v (own := "PumpTalkModel") (by decide) rfl (Nat.le_of_ble_eq_true rfl) ?_
  intro p e s m below meth c ls A C hr hlk hW hl
  have hx := C.1
  have hb := C.2.1
  have hl : lv_has ls 5 [(0, .ref (a 0)), (1, .int p1)] := hl
  unfold X6_personItem at hm
  refine lv_aload_n hx hb dX6_personItem_0 rfl (lv_at hl 0 rfl) ?_
  refine lv_aload_n hx hb dX6_personItem_1 rfl (lv_at hl 0 rfl) ?_
  refine gM_s C hW q787 dX6_personItem_2 ?_
  refine lv_iconst (v := 1) hx hb dX6_personItem_5 (by decide) ?_
  refine lM_s_k (k := 1) C hW (by decide) (by decide) dX6_personItem_6 ?_
  refine lv_bipush (v := 8) hx hb dX6_personItem_7 (by decide) ?_
  refine lv_icmp_ge (tgt := 16) hx hb dX6_personItem_9 (by decide) (fun hc38 => ?_) (fun hc38 => ?_)
  · rw [if_pos hc38] at hm
    refine lv_iconst (v := 0) hx hb dX6_personItem_16 (by decide) ?_
    exact wX6_personItem_b17 C hr hlk σ p1 (0 : Int32) _ _ _ hm hW (lv_sub hl [0, 1] rfl)
  · rw [if_neg hc38] at hm
    refine lv_iconst (v := 1) hx hb dX6_personItem_12 (by decide) ?_
    refine lv_goto (tgt := 17) hx hb dX6_personItem_13 (by decide) ?_
    exact wX6_personItem_b17 C hr hlk σ p1 (1 : Int32) _ _ _ hm hW (lv_sub hl [0, 1] rfl)
theorem kX6_personItem : KM yX6_personItem cX6_personItem 5 none 1 := ⟨q1196, q57, q72, q1197, by decide +kernel, by decide +kernel, by decide +kernel⟩
def X6_peeked_b7 (σ : MS) : Nat → Int32 → Int32 → Option (Int32)
  | 0, _, _ => none
  | n + 1, x1, x2 => if (σ 22 15) ≤ x2 then (some x1) else (if x1 ≤ (99 : Int32) then (ai x2 120 (X6_peeked_b7 σ n (((((10 : Int32) * x1) + (σ 12 (Int32.toNatClampNeg x2))) - (48 : Int32))) ((x2 + (1 : Int32))))) else (X6_peeked_b7 σ n (1000 : Int32) ((x2 + (1 : Int32)))))
set_option maxHeartbeats 4000000 in
set_option maxRecDepth 100000 in
theorem wX6_peeked_b7 {p : Program} {l : Launch} {e : Env} {s : State} {m : MethodId} {below : List Frame} {meth : Method} {c : Code} {D : va_G} {cy cz : ClassId} {G : GT} {A : Nat → Prop} {args : Array Value} {a : Nat → Nat} {r : Int32} {σ : MS} (C : Cx p s m args c cX6_peeked 3 "PumpTalkModel" D cy cz G A) (hr : meth.sig.returnType = some .int) (hlk : meth.locks = false) : ∀ (n : Nat) (x1 : Int32) (x2 : Int32) (H : Heap) (locs : List Loc) (ls : Array Slot), X6_peeked_b7 σ n x1 x2 = some r → Wd D A s.heap H locs (cM a cy σ) → lv_has ls 3 [(0, .ref (a 0)), (1, .int x1), (2, .int x2)] → W p l e (rmz 0 0) s m args below meth c H locs 0 0 (MQ below (QI D cy cz A (cM a cy σ) r) args s 0 0 A) (F0 m 7 ls []) := by
  have hx := C.1
  have hb := C.2.1
  intro n
  induction n with
  | zero =>
    intro x1 x2 H locs ls hm
    rw [X6_peeked_b7] at hm
    cases hm
  | succ n ih =>
    intro x1 x2 H locs ls hm hW hl
    rw [X6_peeked_b7] at hm
    refine lv_iload_n hx hb dX6_peeked_7 rfl (lv_at hl 2 rfl) ?_
    refine lv_aload_n hx hb dX6_peeked_8 rfl (lv_at hl 0 rfl) ?_
    refine gM_to C hW q802 dX6_peeked_9 ?_
    refine lv_icmp_ge (tgt := 48) hx hb dX6_peeked_12 (by decide) (fun hc1 => ?_) (fun hc1 => ?_)
    · rw [if_pos hc1] at hm
      refine lv_iload_n hx hb dX6_peeked_48 rfl (lv_at hl 1 rfl) ?_
      obtain rfl := Option.some.inj hm
      exact en_i C hr hlk hW dX6_peeked_49
    · rw [if_neg hc1] at hm
      refine lv_iload_n hx hb dX6_peeked_15 rfl (lv_at hl 1 rfl) ?_
      refine lv_bipush (v := 99) hx hb dX6_peeked_16 (by decide) ?_
      refine lv_icmp_le (tgt := 27) hx hb dX6_peeked_18 (by decide) (fun hc2 => ?_) (fun hc2 => ?_)
      · rw [if_pos hc2] at hm
        refine lv_bipush (v := 10) hx hb dX6_peeked_27 (by decide) ?_
        refine lv_iload_n hx hb dX6_peeked_29 rfl (lv_at hl 1 rfl) ?_
        refine lv_imul hx hb dX6_peeked_30 ?_
        refine lv_aload_n hx hb dX6_peeked_31 rfl (lv_at hl 0 rfl) ?_
        refine gM_tape C hW q799 dX6_peeked_32 ?_
        refine lv_iload_n hx hb dX6_peeked_35 rfl (lv_at hl 2 rfl) ?_
        obtain ⟨hi3, hm⟩ := mi_ai hm
        refine lM_tape C hW hi3 dX6_peeked_36 ?_
        refine lv_iadd hx hb dX6_peeked_37 ?_
        refine lv_bipush (v := 48) hx hb dX6_peeked_38 (by decide) ?_
        refine lv_isub hx hb dX6_peeked_40 ?_
        refine lv_istore_n (lv' := [(1, .int ((((10 : Int32) * x1) + (σ 12 (Int32.toNatClampNeg x2))) - (48 : Int32))), (0, .ref (a 0)), (2, .int x2)]) hx hb dX6_peeked_41 rfl hl (by decide) rfl (fun ls hl => ?_)
        refine lv_iinc (v := (x2 + (1 : Int32))) (lv' := [(2, .int (x2 + (1 : Int32))), (1, .int ((((10 : Int32) * x1) + (σ 12 (Int32.toNatClampNeg x2))) - (48 : Int32))), (0, .ref (a 0))]) hx hb dX6_peeked_42 hl (k := 2) rfl (congrArg (fun z : Int32 => x2 + z) (by decide)) (by decide) rfl (fun ls hl => ?_)
        refine lv_goto (tgt := 7) hx hb dX6_peeked_45 (by decide) ?_
        exact ih (((((10 : Int32) * x1) + (σ 12 (Int32.toNatClampNeg x2))) - (48 : Int32))) ((x2 + (1 : Int32))) _ _ _ hm hW (lv_sub hl [2, 1, 0] rfl)
      · rw [if_neg hc2] at hm
        refine lv_sipush (v := 1000) hx hb dX6_peeked_21 (by decide) ?_
        refine lv_goto (tgt := 41) hx hb dX6_peeked_24 (by decide) ?_
        refine lv_istore_n (lv' := [(1, .int (1000 : Int32)), (0, .ref (a 0)), (2, .int x2)]) hx hb dX6_peeked_41 rfl hl (by decide) rfl (fun ls hl => ?_)
        refine lv_iinc (v := (x2 + (1 : Int32))) (lv' := [(2, .int (x2 + (1 : Int32))), (1, .int (1000 : Int32)), (0, .ref (a 0))]) hx hb dX6_peeked_42 hl (k := 2) rfl (congrArg (fun z : Int32 => x2 + z) (by decide)) (by decide) rfl (fun ls hl => ?_)
        refine lv_goto (tgt := 7) hx hb dX6_peeked_45 (by decide) ?_
        exact ih (1000 : Int32) ((x2 + (1 : Int32))) _ _ _ hm hW (lv_sub hl [2, 1, 0] rfl)
def X6_peeked (σ : MS) : Option (Int32) := X6_peeked_b7 σ FU (0 : Int32) (σ 22 14)
set_option maxHeartbeats 4000000 in
set_option maxRecDepth 100000 in
theorem c_X6_peeked {l : Launch} {D : va_G} {cy cz : ClassId} {G : GT} {a : Nat → Nat} {σ : MS} {r : Int32} (hm : X6_peeked σ = some r) : CtI l D cy cz G yX6_peeked cX6_peeked 3 (some .int) 0 0 [.ref (a 0)] (cM a cy σ) (cM a cy σ) r := by
  refine ct_i (own := "PumpTalkModel") (by decide) rfl (Nat.le_of_ble_eq_true rfl) ?_
  intro p e s m below meth c ls A C hr hlk hW hl
  have hx := C.1
  have hb := C.2.1
  have hl : lv_has ls 3 [(0, .ref (a 0))] := hl
  unfold X6_peeked at hm
  refine lv_iconst (v := 0) hx hb dX6_peeked_0 (by decide) ?_
  refine lv_istore_n (lv' := [(1, .int (0 : Int32)), (0, .ref (a 0))]) hx hb dX6_peeked_1 rfl hl (by decide) rfl (fun ls hl => ?_)
  refine lv_aload_n hx hb dX6_peeked_2 rfl (lv_at hl 1 rfl) ?_
  refine gM_from C hW q801 dX6_peeked_3 ?_
  refine lv_istore_n (lv' := [(2, .int (σ 22 14)), (1, .int (0 : Int32)), (0, .ref (a 0))]) hx hb dX6_peeked_6 rfl hl (by decide) rfl (fun ls hl => ?_)
  exact wX6_peeked_b7 C hr hlk FU (0 : Int32) (σ 22 14) _ _ _ hm hW (lv_sub hl [2, 1, 0] rfl)
theorem kX6_peeked : KM yX6_peeked cX6_peeked 3 (some .int) 0 := ⟨q1223, q63, q72, q1224, by decide +kernel, by decide +kernel, by decide +kernel⟩
def X6_pairItem_b86 (σ : MS) (x1 : Int32) (x3 : Int32) (y1 : Int32) : Option (MS) := (X6_must σ y1).bind fun s2 => if (s2 22 17) = (0 : Int32) then (some (su (su s2 0 5 x1) 0 6 x3)) else (some s2)
set_option maxHeartbeats 4000000 in
set_option maxRecDepth 100000 in
theorem wX6_pairItem_b86 {p : Program} {l : Launch} {e : Env} {s : State} {m : MethodId} {below : List Frame} {meth : Method} {c : Code} {D : va_G} {cy cz : ClassId} {G : GT} {A : Nat → Prop} {args : Array Value} {a : Nat → Nat} {σr : MS} (C : Cx p s m args c cX6_pairItem 4 "PumpTalkModel" D cy cz G A) (hr : meth.sig.returnType = none) (hlk : meth.locks = false) : ∀ (σ : MS) (x1 : Int32) (x3 : Int32) (y1 : Int32) (H : Heap) (locs : List Loc) (ls : Array Slot), X6_pairItem_b86 σ x1 x3 y1 = some σr → Wd D A s.heap H locs (cM a cy σ) → lv_has ls 4 [(0, .ref (a 0)), (1, .int x1), (3, .int x3)] → W p l e (rmz 5 113) s m args below meth c H locs 0 0 (MQ below (QV D cy cz A (cM a cy σr) ()) args s 0 0 A) (F0 m 86 ls [.int y1, .ref (a 0)]) := by
  have hx := C.1
  have hb := C.2.1
  intro σ x1 x3 y1 H locs ls hm hW hl
  unfold X6_pairItem_b86 at hm
  obtain ⟨s2, e1, hm⟩ := mi_bind hm
  refine cs_v (q0 := 0) (As := [.int y1]) (rest := []) C hW (c_X6_must e1) kX6_must q1198 rfl rfl rfl rfl rfl hl.1 ⟨Nat.le_of_ble_eq_true rfl, Nat.le_of_ble_eq_true rfl⟩ ⟨Nat.le_refl 0, Nat.le_refl 0⟩ (Nat.le_of_ble_eq_true rfl) dX6_pairItem_86 (fun H locs hW => ?_)
  refine lv_aload_n hx hb dX6_pairItem_89 rfl (lv_at hl 0 rfl) ?_
  refine gM_isWrong C hW q804 dX6_pairItem_90 ?_
  refine lv_if_ne (tgt := 111) hx hb dX6_pairItem_93 (by decide) (fun hc3 => ?_) (fun hc3 => ?_)
  · rw [if_neg hc3] at hm
    obtain rfl := Option.some.inj hm
    exact en_v C hr hlk hW dX6_pairItem_111
  · rw [if_pos hc3] at hm
    refine lv_aload_n hx hb dX6_pairItem_96 rfl (lv_at hl 0 rfl) ?_
    refine gM_s C hW q787 dX6_pairItem_97 ?_
    refine lv_iconst (v := 5) hx hb dX6_pairItem_100 (by decide) ?_
    refine lv_iload_n hx hb dX6_pairItem_101 rfl (lv_at hl 1 rfl) ?_
    refine tM_s_k (k := 5) C hW (by decide) (by decide) dX6_pairItem_102 (fun H locs hW => ?_)
    refine lv_aload_n hx hb dX6_pairItem_103 rfl (lv_at hl 0 rfl) ?_
    refine gM_s C hW q787 dX6_pairItem_104 ?_
    refine lv_bipush (v := 6) hx hb dX6_pairItem_107 (by decide) ?_
    refine lv_iload_n hx hb dX6_pairItem_109 rfl (lv_at hl 2 rfl) ?_
    refine tM_s_k (k := 6) C hW (by decide) (by decide) dX6_pairItem_110 (fun H locs hW => ?_)
    obtain rfl := Option.some.inj hm
    exact en_v C hr hlk hW dX6_pairItem_111
def X6_pairItem_b85 (σ : MS) (x1 : Int32) (x3 : Int32) : Option (MS) := X6_pairItem_b86 σ x1 x3 (0 : Int32)
set_option maxHeartbeats 4000000 in
set_option maxRecDepth 100000 in
theorem wX6_pairItem_b85 {p : Program} {l : Launch} {e : Env} {s : State} {m : MethodId} {below : List Frame} {meth : Method} {c : Code} {D : va_G} {cy cz : ClassId} {G : GT} {A : Nat → Prop} {args : Array Value} {a : Nat → Nat} {σr : MS} (C : Cx p s m args c cX6_pairItem 4 "PumpTalkModel" D cy cz G A) (hr : meth.sig.returnType = none) (hlk : meth.locks = false) : ∀ (σ : MS) (x1 : Int32) (x3 : Int32) (H : Heap) (locs : List Loc) (ls : Array Slot), X6_pairItem_b85 σ x1 x3 = some σr → Wd D A s.heap H locs (cM a cy σ) → lv_has ls 4 [(0, .ref (a 0)), (1, .int x1), (3, .int x3)] → W p l e (rmz 5 113) s m args below meth c H locs 0 0 (MQ below (QV D cy cz A (cM a cy σr) ()) args s 0 0 A) (F0 m 85 ls [.ref (a 0)]) := by
  have hx := C.1
  have hb := C.2.1
  intro σ x1 x3 H locs ls hm hW hl
  unfold X6_pairItem_b85 at hm
  refine lv_iconst (v := 0) hx hb dX6_pairItem_85 (by decide) ?_
  exact wX6_pairItem_b86 C hr hlk σ x1 x3 (0 : Int32) _ _ _ hm hW (lv_sub hl [0, 1, 2] rfl)
def X6_pairItem_b62 (σ : MS) (x1 : Int32) (x2 : Int32) (y0 : Int32) : Option (MS) := if x2 = (0 : Int32) then (X6_pairItem_b85 σ x1 y0) else ((X6_isPerson σ y0).bind fun v6 => if v6 = (0 : Int32) then (X6_pairItem_b85 σ x1 y0) else (if y0 = x1 then (X6_pairItem_b85 σ x1 y0) else (X6_pairItem_b86 σ x1 y0 (1 : Int32))))
set_option maxHeartbeats 4000000 in
set_option maxRecDepth 100000 in
theorem wX6_pairItem_b62 {p : Program} {l : Launch} {e : Env} {s : State} {m : MethodId} {below : List Frame} {meth : Method} {c : Code} {D : va_G} {cy cz : ClassId} {G : GT} {A : Nat → Prop} {args : Array Value} {a : Nat → Nat} {σr : MS} (C : Cx p s m args c cX6_pairItem 4 "PumpTalkModel" D cy cz G A) (hr : meth.sig.returnType = none) (hlk : meth.locks = false) : ∀ (σ : MS) (x1 : Int32) (x2 : Int32) (y0 : Int32) (H : Heap) (locs : List Loc) (ls : Array Slot), X6_pairItem_b62 σ x1 x2 y0 = some σr → Wd D A s.heap H locs (cM a cy σ) → lv_has ls 4 [(0, .ref (a 0)), (1, .int x1), (2, .int x2)] → W p l e (rmz 5 113) s m args below meth c H locs 0 0 (MQ below (QV D cy cz A (cM a cy σr) ()) args s 0 0 A) (F0 m 62 ls [.int y0]) := by
  have hx := C.1
  have hb := C.2.1
  intro σ x1 x2 y0 H locs ls hm hW hl
  unfold X6_pairItem_b62 at hm
  refine lv_istore_n (lv' := [(3, .int y0), (0, .ref (a 0)), (1, .int x1), (2, .int x2)]) hx hb dX6_pairItem_62 rfl hl (by decide) rfl (fun ls hl => ?_)
  refine lv_aload_n hx hb dX6_pairItem_63 rfl (lv_at hl 1 rfl) ?_
  refine lv_iload_n hx hb dX6_pairItem_64 rfl (lv_at hl 3 rfl) ?_
  refine lv_if_eq (tgt := 85) hx hb dX6_pairItem_65 (by decide) (fun hc4 => ?_) (fun hc4 => ?_)
  · rw [if_pos hc4] at hm
    exact wX6_pairItem_b85 C hr hlk σ x1 y0 _ _ _ hm hW (lv_sub hl [1, 2, 0] rfl)
  · rw [if_neg hc4] at hm
    refine lv_aload_n hx hb dX6_pairItem_68 rfl (lv_at hl 1 rfl) ?_
    refine lv_iload_n hx hb dX6_pairItem_69 rfl (lv_at hl 0 rfl) ?_
    obtain ⟨v6, e5, hm⟩ := mi_bind hm
    refine cs_i (q0 := 0) (As := [.int y0]) (rest := [.ref (a 0)]) C hW (c_X6_isPerson e5) kX6_isPerson q882 rfl rfl rfl rfl rfl hl.1 ⟨Nat.le_of_ble_eq_true rfl, Nat.le_of_ble_eq_true rfl⟩ ⟨Nat.le_refl 0, Nat.le_refl 0⟩ (Nat.le_of_ble_eq_true rfl) dX6_pairItem_70 (fun H locs hW => ?_)
    refine lv_if_eq (tgt := 85) hx hb dX6_pairItem_73 (by decide) (fun hc7 => ?_) (fun hc7 => ?_)
    · rw [if_pos hc7] at hm
      exact wX6_pairItem_b85 C hr hlk σ x1 y0 _ _ _ hm hW (lv_sub hl [1, 2, 0] rfl)
    · rw [if_neg hc7] at hm
      refine lv_iload_n hx hb dX6_pairItem_76 rfl (lv_at hl 0 rfl) ?_
      refine lv_iload_n hx hb dX6_pairItem_77 rfl (lv_at hl 2 rfl) ?_
      refine lv_icmp_eq (tgt := 85) hx hb dX6_pairItem_78 (by decide) (fun hc8 => ?_) (fun hc8 => ?_)
      · rw [if_pos hc8] at hm
        exact wX6_pairItem_b85 C hr hlk σ x1 y0 _ _ _ hm hW (lv_sub hl [1, 2, 0] rfl)
      · rw [if_neg hc8] at hm
        refine lv_iconst (v := 1) hx hb dX6_pairItem_81 (by decide) ?_
        refine lv_goto (tgt := 86) hx hb dX6_pairItem_82 (by decide) ?_
        exact wX6_pairItem_b86 C hr hlk σ x1 y0 (1 : Int32) _ _ _ hm hW (lv_sub hl [1, 2, 0] rfl)
def X6_pairItem_b49 (σ : MS) (x1 : Int32) (y0 : Int32) : Option (MS) := if y0 = (0 : Int32) then (X6_pairItem_b62 σ x1 y0 (-1 : Int32)) else ((X6_peeked σ).bind fun v11 => X6_pairItem_b62 σ x1 y0 v11)
set_option maxHeartbeats 4000000 in
set_option maxRecDepth 100000 in
theorem wX6_pairItem_b49 {p : Program} {l : Launch} {e : Env} {s : State} {m : MethodId} {below : List Frame} {meth : Method} {c : Code} {D : va_G} {cy cz : ClassId} {G : GT} {A : Nat → Prop} {args : Array Value} {a : Nat → Nat} {σr : MS} (C : Cx p s m args c cX6_pairItem 4 "PumpTalkModel" D cy cz G A) (hr : meth.sig.returnType = none) (hlk : meth.locks = false) : ∀ (σ : MS) (x1 : Int32) (y0 : Int32) (H : Heap) (locs : List Loc) (ls : Array Slot), X6_pairItem_b49 σ x1 y0 = some σr → Wd D A s.heap H locs (cM a cy σ) → lv_has ls 4 [(0, .ref (a 0)), (1, .int x1)] → W p l e (rmz 5 113) s m args below meth c H locs 0 0 (MQ below (QV D cy cz A (cM a cy σr) ()) args s 0 0 A) (F0 m 49 ls [.int y0]) := by
  have hx := C.1
  have hb := C.2.1
  intro σ x1 y0 H locs ls hm hW hl
  unfold X6_pairItem_b49 at hm
  refine lv_istore_n (lv' := [(2, .int y0), (0, .ref (a 0)), (1, .int x1)]) hx hb dX6_pairItem_49 rfl hl (by decide) rfl (fun ls hl => ?_)
  refine lv_iload_n hx hb dX6_pairItem_50 rfl (lv_at hl 0 rfl) ?_
  refine lv_if_eq (tgt := 61) hx hb dX6_pairItem_51 (by decide) (fun hc9 => ?_) (fun hc9 => ?_)
  · rw [if_pos hc9] at hm
    refine lv_iconst (v := -1) hx hb dX6_pairItem_61 (by decide) ?_
    exact wX6_pairItem_b62 C hr hlk σ x1 y0 (-1 : Int32) _ _ _ hm hW (lv_sub hl [1, 2, 0] rfl)
  · rw [if_neg hc9] at hm
    refine lv_aload_n hx hb dX6_pairItem_54 rfl (lv_at hl 1 rfl) ?_
    obtain ⟨v11, e10, hm⟩ := mi_bind hm
    refine cs_i (q0 := 0) (As := []) (rest := []) C hW (c_X6_peeked e10) kX6_peeked q1221 rfl rfl rfl rfl rfl hl.1 ⟨Nat.le_of_ble_eq_true rfl, Nat.le_of_ble_eq_true rfl⟩ ⟨Nat.le_refl 0, Nat.le_refl 0⟩ (Nat.le_of_ble_eq_true rfl) dX6_pairItem_55 (fun H locs hW => ?_)
    refine lv_goto (tgt := 62) hx hb dX6_pairItem_58 (by decide) ?_
    exact wX6_pairItem_b62 C hr hlk σ x1 y0 v11 _ _ _ hm hW (lv_sub hl [1, 2, 0] rfl)
def X6_pairItem_b48 (σ : MS) (x1 : Int32) : Option (MS) := X6_pairItem_b49 σ x1 (0 : Int32)
set_option maxHeartbeats 4000000 in
set_option maxRecDepth 100000 in
theorem wX6_pairItem_b48 {p : Program} {l : Launch} {e : Env} {s : State} {m : MethodId} {below : List Frame} {meth : Method} {c : Code} {D : va_G} {cy cz : ClassId} {G : GT} {A : Nat → Prop} {args : Array Value} {a : Nat → Nat} {σr : MS} (C : Cx p s m args c cX6_pairItem 4 "PumpTalkModel" D cy cz G A) (hr : meth.sig.returnType = none) (hlk : meth.locks = false) : ∀ (σ : MS) (x1 : Int32) (H : Heap) (locs : List Loc) (ls : Array Slot), X6_pairItem_b48 σ x1 = some σr → Wd D A s.heap H locs (cM a cy σ) → lv_has ls 4 [(0, .ref (a 0)), (1, .int x1)] → W p l e (rmz 5 113) s m args below meth c H locs 0 0 (MQ below (QV D cy cz A (cM a cy σr) ()) args s 0 0 A) (F0 m 48 ls []) := by
  have hx := C.1
  have hb := C.2.1
  intro σ x1 H locs ls hm hW hl
  unfold X6_pairItem_b48 at hm
  refine lv_iconst (v := 0) hx hb dX6_pairItem_48 (by decide) ?_
  exact wX6_pairItem_b49 C hr hlk σ x1 (0 : Int32) _ _ _ hm hW (lv_sub hl [0, 1] rfl)
def X6_pairItem (σ : MS) : Option (MS) := (X6_must σ (1 : Int32)).bind fun s13 => (X6_number s13 (0 : Int32) ((s13 0 1) - (1 : Int32))).bind fun s15 => (X6_byteAt s15 (s15 22 14)).bind fun v17 => (X6_isDigit v17).bind fun v19 => if v19 = (0 : Int32) then (X6_pairItem_b48 s15 (s15 22 16)) else (if (s15 22 17) = (0 : Int32) then (X6_pairItem_b49 s15 (s15 22 16) (1 : Int32)) else (X6_pairItem_b48 s15 (s15 22 16)))
set_option maxHeartbeats 4000000 in
set_option maxRecDepth 100000 in
theorem c_X6_pairItem {l : Launch} {D : va_G} {cy cz : ClassId} {G : GT} {a : Nat → Nat} {σ : MS} {σr : MS} (hm : X6_pairItem σ = some σr) : CtV l D cy cz G yX6_pairItem cX6_pairItem 4 none 5 113 [.ref (a 0)] (cM a cy σ) (cM a cy σr) () := by
  refine ct_v (own := "PumpTalkModel") (by decide) rfl (Nat.le_of_ble_eq_true rfl) ?_
  intro p e s m below meth c ls A C hr hlk hW hl
  have hx := C.1
  have hb := C.2.1
  have hl : lv_has ls 4 [(0, .ref (a 0))] := hl
  unfold X6_pairItem at hm
  refine lv_aload_n hx hb dX6_pairItem_0 rfl (lv_at hl 0 rfl) ?_
  refine lv_iconst (v := 1) hx hb dX6_pairItem_1 (by decide) ?_
  obtain ⟨s13, e12, hm⟩ := mi_bind hm
  refine cs_v (q0 := 0) (As := [.int (1 : Int32)]) (rest := []) C hW (c_X6_must e12) kX6_must q1198 rfl rfl rfl rfl rfl hl.1 ⟨Nat.le_of_ble_eq_true rfl, Nat.le_of_ble_eq_true rfl⟩ ⟨Nat.le_refl 0, Nat.le_refl 0⟩ (Nat.le_of_ble_eq_true rfl) dX6_pairItem_2 (fun H locs hW => ?_)
  refine lv_aload_n hx hb dX6_pairItem_5 rfl (lv_at hl 0 rfl) ?_
  refine lv_iconst (v := 0) hx hb dX6_pairItem_6 (by decide) ?_
  refine lv_aload_n hx hb dX6_pairItem_7 rfl (lv_at hl 0 rfl) ?_
  refine gM_s C hW q787 dX6_pairItem_8 ?_
  refine lv_iconst (v := 1) hx hb dX6_pairItem_11 (by decide) ?_
  refine lM_s_k (k := 1) C hW (by decide) (by decide) dX6_pairItem_12 ?_
  refine lv_iconst (v := 1) hx hb dX6_pairItem_13 (by decide) ?_
  refine lv_isub hx hb dX6_pairItem_14 ?_
  obtain ⟨s15, e14, hm⟩ := mi_bind hm
  refine cs_v (q0 := 0) (As := [.int (0 : Int32), .int ((s13 0 1) - (1 : Int32))]) (rest := []) C hW (c_X6_number e14) kX6_number q1203 rfl rfl rfl rfl rfl hl.1 ⟨Nat.le_of_ble_eq_true rfl, Nat.le_of_ble_eq_true rfl⟩ ⟨Nat.le_refl 0, Nat.le_refl 0⟩ (Nat.le_of_ble_eq_true rfl) dX6_pairItem_15 (fun H locs hW => ?_)
  refine lv_aload_n hx hb dX6_pairItem_18 rfl (lv_at hl 0 rfl) ?_
  refine gM_value C hW q803 dX6_pairItem_19 ?_
  refine lv_istore_n (lv' := [(1, .int (s15 22 16)), (0, .ref (a 0))]) hx hb dX6_pairItem_22 rfl hl (by decide) rfl (fun ls hl => ?_)
  refine lv_aload_n hx hb dX6_pairItem_23 rfl (lv_at hl 1 rfl) ?_
  refine lv_aload_n hx hb dX6_pairItem_24 rfl (lv_at hl 1 rfl) ?_
  refine gM_from C hW q801 dX6_pairItem_25 ?_
  obtain ⟨v17, e16, hm⟩ := mi_bind hm
  refine cs_i (q0 := 0) (As := [.int (s15 22 14)]) (rest := []) C hW (c_X6_byteAt e16) kX6_byteAt q1159 rfl rfl rfl rfl rfl hl.1 ⟨Nat.le_of_ble_eq_true rfl, Nat.le_of_ble_eq_true rfl⟩ ⟨Nat.le_refl 0, Nat.le_refl 0⟩ (Nat.le_of_ble_eq_true rfl) dX6_pairItem_28 (fun H locs hW => ?_)
  obtain ⟨v19, e18, hm⟩ := mi_bind hm
  refine cS_i (As := [.int v17]) (rest := []) C hW (c_X6_isDigit e18) kX6_isDigit q1168 rfl rfl hl.1 ⟨Nat.le_of_ble_eq_true rfl, Nat.le_of_ble_eq_true rfl⟩ ⟨Nat.le_refl 0, Nat.le_refl 0⟩ (Nat.le_of_ble_eq_true rfl) dX6_pairItem_31 (fun H locs hW => ?_)
  refine lv_if_eq (tgt := 48) hx hb dX6_pairItem_34 (by decide) (fun hc20 => ?_) (fun hc20 => ?_)
  · rw [if_pos hc20] at hm
    exact wX6_pairItem_b48 C hr hlk s15 (s15 22 16) _ _ _ hm hW (lv_sub hl [1, 0] rfl)
  · rw [if_neg hc20] at hm
    refine lv_aload_n hx hb dX6_pairItem_37 rfl (lv_at hl 1 rfl) ?_
    refine gM_isWrong C hW q804 dX6_pairItem_38 ?_
    refine lv_if_ne (tgt := 48) hx hb dX6_pairItem_41 (by decide) (fun hc21 => ?_) (fun hc21 => ?_)
    · rw [if_neg hc21] at hm
      exact wX6_pairItem_b48 C hr hlk s15 (s15 22 16) _ _ _ hm hW (lv_sub hl [1, 0] rfl)
    · rw [if_pos hc21] at hm
      refine lv_iconst (v := 1) hx hb dX6_pairItem_44 (by decide) ?_
      refine lv_goto (tgt := 49) hx hb dX6_pairItem_45 (by decide) ?_
      exact wX6_pairItem_b49 C hr hlk s15 (s15 22 16) (1 : Int32) _ _ _ hm hW (lv_sub hl [1, 0] rfl)
theorem kX6_pairItem : KM yX6_pairItem cX6_pairItem 4 none 0 := ⟨q1219, q62, q72, q1220, by decide +kernel, by decide +kernel, by decide +kernel⟩
def X6_item_b51 (σ : MS) (y1 : Int32) : Option (MS) := (X6_must σ y1).bind fun s2 => (X6_number s2 (0 : Int32) (5 : Int32)).bind fun s4 => if (s4 22 17) = (0 : Int32) then (some (su s4 0 3 (s4 22 16))) else (some (su s4 0 3 (s4 0 3)))
set_option maxHeartbeats 4000000 in
set_option maxRecDepth 100000 in
theorem wX6_item_b51 {p : Program} {l : Launch} {e : Env} {s : State} {m : MethodId} {below : List Frame} {meth : Method} {c : Code} {D : va_G} {cy cz : ClassId} {G : GT} {A : Nat → Prop} {args : Array Value} {a : Nat → Nat} {σr : MS} (C : Cx p s m args c cX6_item 4 "PumpTalkModel" D cy cz G A) (hr : meth.sig.returnType = none) (hlk : meth.locks = false) : ∀ (σ : MS) (y1 : Int32) (H : Heap) (locs : List Loc) (ls : Array Slot), X6_item_b51 σ y1 = some σr → Wd D A s.heap H locs (cM a cy σ) → lv_has ls 4 [(0, .ref (a 0))] → W p l e (rmz 7 158) s m args below meth c H locs 0 0 (MQ below (QV D cy cz A (cM a cy σr) ()) args s 0 0 A) (F0 m 51 ls [.int y1, .ref (a 0)]) := by
  have hx := C.1
  have hb := C.2.1
  intro σ y1 H locs ls hm hW hl
  unfold X6_item_b51 at hm
  obtain ⟨s2, e1, hm⟩ := mi_bind hm
  refine cs_v (q0 := 0) (As := [.int y1]) (rest := []) C hW (c_X6_must e1) kX6_must q1198 rfl rfl rfl rfl rfl hl.1 ⟨Nat.le_of_ble_eq_true rfl, Nat.le_of_ble_eq_true rfl⟩ ⟨Nat.le_refl 0, Nat.le_refl 0⟩ (Nat.le_of_ble_eq_true rfl) dX6_item_51 (fun H locs hW => ?_)
  refine lv_aload_n hx hb dX6_item_54 rfl (lv_at hl 0 rfl) ?_
  refine lv_iconst (v := 0) hx hb dX6_item_55 (by decide) ?_
  refine lv_iconst (v := 5) hx hb dX6_item_56 (by decide) ?_
  obtain ⟨s4, e3, hm⟩ := mi_bind hm
  refine cs_v (q0 := 0) (As := [.int (0 : Int32), .int (5 : Int32)]) (rest := []) C hW (c_X6_number e3) kX6_number q1203 rfl rfl rfl rfl rfl hl.1 ⟨Nat.le_of_ble_eq_true rfl, Nat.le_of_ble_eq_true rfl⟩ ⟨Nat.le_refl 0, Nat.le_refl 0⟩ (Nat.le_of_ble_eq_true rfl) dX6_item_57 (fun H locs hW => ?_)
  refine lv_aload_n hx hb dX6_item_60 rfl (lv_at hl 0 rfl) ?_
  refine gM_s C hW q787 dX6_item_61 ?_
  refine lv_iconst (v := 3) hx hb dX6_item_64 (by decide) ?_
  refine lv_aload_n hx hb dX6_item_65 rfl (lv_at hl 0 rfl) ?_
  refine gM_isWrong C hW q804 dX6_item_66 ?_
  refine lv_if_eq (tgt := 81) hx hb dX6_item_69 (by decide) (fun hc5 => ?_) (fun hc5 => ?_)
  · rw [if_pos hc5] at hm
    refine lv_aload_n hx hb dX6_item_81 rfl (lv_at hl 0 rfl) ?_
    refine gM_value C hW q803 dX6_item_82 ?_
    refine tM_s_k (k := 3) C hW (by decide) (by decide) dX6_item_85 (fun H locs hW => ?_)
    obtain rfl := Option.some.inj hm
    exact en_v C hr hlk hW dX6_item_86
  · rw [if_neg hc5] at hm
    refine lv_aload_n hx hb dX6_item_72 rfl (lv_at hl 0 rfl) ?_
    refine gM_s C hW q787 dX6_item_73 ?_
    refine lv_iconst (v := 3) hx hb dX6_item_76 (by decide) ?_
    refine lM_s_k (k := 3) C hW (by decide) (by decide) dX6_item_77 ?_
    refine lv_goto (tgt := 85) hx hb dX6_item_78 (by decide) ?_
    refine tM_s_k (k := 3) C hW (by decide) (by decide) dX6_item_85 (fun H locs hW => ?_)
    obtain rfl := Option.some.inj hm
    exact en_v C hr hlk hW dX6_item_86
def X6_item (σ : MS) : Option (MS) := (X6_kindHere σ).bind fun v7 => (X6_word σ).bind fun v9 => if v7 < (0 : Int32) then (if (lg_cmp v9 (525618 : Int64)) = (0 : Int32) then ((X6_pairItem σ).bind fun s14 => some s14) else (if (lg_cmp v9 (494 : Int64)) = (0 : Int32) then (X6_item_b51 σ (1 : Int32)) else (X6_item_b51 σ (0 : Int32)))) else ((X6_personItem σ v7).bind fun s16 => some s16)
set_option maxHeartbeats 4000000 in
set_option maxRecDepth 100000 in
theorem c_X6_item {l : Launch} {D : va_G} {cy cz : ClassId} {G : GT} {a : Nat → Nat} {σ : MS} {σr : MS} (hm : X6_item σ = some σr) : CtV l D cy cz G yX6_item cX6_item 4 none 7 158 [.ref (a 0)] (cM a cy σ) (cM a cy σr) () := by
  refine ct_v (own := "PumpTalkModel") (by decide) rfl (Nat.le_of_ble_eq_true rfl) ?_
  intro p e s m below meth c ls A C hr hlk hW hl
  have hx := C.1
  have hb := C.2.1
  have hl : lv_has ls 4 [(0, .ref (a 0))] := hl
  unfold X6_item at hm
  refine lv_aload_n hx hb dX6_item_0 rfl (lv_at hl 0 rfl) ?_
  obtain ⟨v7, e6, hm⟩ := mi_bind hm
  refine cs_i (q0 := 0) (As := []) (rest := []) C hW (c_X6_kindHere e6) kX6_kindHere q1177 rfl rfl rfl rfl rfl hl.1 ⟨Nat.le_of_ble_eq_true rfl, Nat.le_of_ble_eq_true rfl⟩ ⟨Nat.le_refl 0, Nat.le_refl 0⟩ (Nat.le_of_ble_eq_true rfl) dX6_item_1 (fun H locs hW => ?_)
  refine lv_istore_n (lv' := [(1, .int v7), (0, .ref (a 0))]) hx hb dX6_item_4 rfl hl (by decide) rfl (fun ls hl => ?_)
  refine lv_aload_n hx hb dX6_item_5 rfl (lv_at hl 1 rfl) ?_
  obtain ⟨v9, e8, hm⟩ := mi_bind hm
  refine cs_l (q0 := 0) (As := []) (rest := []) C hW (c_X6_word e8) kX6_word q1181 rfl rfl rfl rfl rfl hl.1 ⟨Nat.le_of_ble_eq_true rfl, Nat.le_of_ble_eq_true rfl⟩ ⟨Nat.le_refl 0, Nat.le_refl 0⟩ (Nat.le_of_ble_eq_true rfl) dX6_item_6 (fun H locs hW => ?_)
  refine lv_lstore_n (lv' := [(2, .long v9), (1, .int v7), (0, .ref (a 0))]) hx hb dX6_item_9 rfl hl (by decide) rfl (fun ls hl => ?_)
  refine lv_iload_n hx hb dX6_item_10 rfl (lv_at hl 1 rfl) ?_
  refine lv_if_lt (tgt := 22) hx hb dX6_item_11 (by decide) (fun hc10 => ?_) (fun hc10 => ?_)
  · rw [if_pos hc10] at hm
    refine lv_lload_n hx hb dX6_item_22 rfl (lv_at hl 0 rfl) ?_
    refine lv_ldc2 hx hb C.2.2.2.1 (C.2.2.2.2.1 _ q1216) dX6_item_23 ?_
    refine W.lcmp hx hb dX6_item_26 ?_
    refine lv_if_ne (tgt := 37) hx hb dX6_item_27 (by decide) (fun hc11 => ?_) (fun hc11 => ?_)
    · rw [if_neg hc11] at hm
      refine lv_aload_n hx hb dX6_item_37 rfl (lv_at hl 2 rfl) ?_
      refine lv_lload_n hx hb dX6_item_38 rfl (lv_at hl 0 rfl) ?_
      refine lv_ldc2 hx hb C.2.2.2.1 (C.2.2.2.2.1 _ q1225) dX6_item_39 ?_
      refine W.lcmp hx hb dX6_item_42 ?_
      refine lv_if_ne (tgt := 50) hx hb dX6_item_43 (by decide) (fun hc12 => ?_) (fun hc12 => ?_)
      · rw [if_neg hc12] at hm
        refine lv_iconst (v := 0) hx hb dX6_item_50 (by decide) ?_
        exact wX6_item_b51 C hr hlk σ (0 : Int32) _ _ _ hm hW (lv_sub hl [2] rfl)
      · rw [if_pos hc12] at hm
        refine lv_iconst (v := 1) hx hb dX6_item_46 (by decide) ?_
        refine lv_goto (tgt := 51) hx hb dX6_item_47 (by decide) ?_
        exact wX6_item_b51 C hr hlk σ (1 : Int32) _ _ _ hm hW (lv_sub hl [2] rfl)
    · rw [if_pos hc11] at hm
      refine lv_aload_n hx hb dX6_item_30 rfl (lv_at hl 2 rfl) ?_
      obtain ⟨s14, e13, hm⟩ := mi_bind hm
      refine cs_v (q0 := 0) (As := []) (rest := []) C hW (c_X6_pairItem e13) kX6_pairItem q1217 rfl rfl rfl rfl rfl hl.1 ⟨Nat.le_of_ble_eq_true rfl, Nat.le_of_ble_eq_true rfl⟩ ⟨Nat.le_refl 0, Nat.le_refl 0⟩ (Nat.le_of_ble_eq_true rfl) dX6_item_31 (fun H locs hW => ?_)
      refine lv_goto (tgt := 86) hx hb dX6_item_34 (by decide) ?_
      obtain rfl := Option.some.inj hm
      exact en_v C hr hlk hW dX6_item_86
  · rw [if_neg hc10] at hm
    refine lv_aload_n hx hb dX6_item_14 rfl (lv_at hl 2 rfl) ?_
    refine lv_iload_n hx hb dX6_item_15 rfl (lv_at hl 1 rfl) ?_
    obtain ⟨s16, e15, hm⟩ := mi_bind hm
    refine cs_v (q0 := 0) (As := [.int v7]) (rest := []) C hW (c_X6_personItem e15) kX6_personItem q1194 rfl rfl rfl rfl rfl hl.1 ⟨Nat.le_of_ble_eq_true rfl, Nat.le_of_ble_eq_true rfl⟩ ⟨Nat.le_refl 0, Nat.le_refl 0⟩ (Nat.le_of_ble_eq_true rfl) dX6_item_16 (fun H locs hW => ?_)
    refine lv_goto (tgt := 86) hx hb dX6_item_19 (by decide) ?_
    obtain rfl := Option.some.inj hm
    exact en_v C hr hlk hW dX6_item_86
theorem kX6_item : KM yX6_item cX6_item 4 none 0 := ⟨q1175, q54, q72, q1176, by decide +kernel, by decide +kernel, by decide +kernel⟩
def X6_putsBack_b2 : Nat → MS → Int32 → Option (MS)
  | 0, _, _ => none
  | n + 1, σ, x1 => if (81 : Int32) ≤ x1 then (some σ) else (ai x1 81 (ai x1 81 (X6_putsBack_b2 n (su σ 0 (Int32.toNatClampNeg x1) (σ 2 (Int32.toNatClampNeg x1))) ((x1 + (1 : Int32))))))
set_option maxHeartbeats 4000000 in
set_option maxRecDepth 100000 in
theorem wX6_putsBack_b2 {p : Program} {l : Launch} {e : Env} {s : State} {m : MethodId} {below : List Frame} {meth : Method} {c : Code} {D : va_G} {cy cz : ClassId} {G : GT} {A : Nat → Prop} {args : Array Value} {a : Nat → Nat} {σr : MS} (C : Cx p s m args c cX6_putsBack 2 "PumpTalkModel" D cy cz G A) (hr : meth.sig.returnType = none) (hlk : meth.locks = false) : ∀ (n : Nat) (σ : MS) (x1 : Int32) (H : Heap) (locs : List Loc) (ls : Array Slot), X6_putsBack_b2 n σ x1 = some σr → Wd D A s.heap H locs (cM a cy σ) → lv_has ls 2 [(0, .ref (a 0)), (1, .int x1)] → W p l e (rmz 0 0) s m args below meth c H locs 0 0 (MQ below (QV D cy cz A (cM a cy σr) ()) args s 0 0 A) (F0 m 2 ls []) := by
  have hx := C.1
  have hb := C.2.1
  intro n
  induction n with
  | zero =>
    intro σ x1 H locs ls hm
    rw [X6_putsBack_b2] at hm
    cases hm
  | succ n ih =>
    intro σ x1 H locs ls hm hW hl
    rw [X6_putsBack_b2] at hm
    refine lv_iload_n hx hb dX6_putsBack_2 rfl (lv_at hl 1 rfl) ?_
    refine lv_bipush (v := 81) hx hb dX6_putsBack_3 (by decide) ?_
    refine lv_icmp_ge (tgt := 26) hx hb dX6_putsBack_5 (by decide) (fun hc1 => ?_) (fun hc1 => ?_)
    · rw [if_pos hc1] at hm
      obtain rfl := Option.some.inj hm
      exact en_v C hr hlk hW dX6_putsBack_26
    · rw [if_neg hc1] at hm
      refine lv_aload_n hx hb dX6_putsBack_8 rfl (lv_at hl 0 rfl) ?_
      refine gM_s C hW q787 dX6_putsBack_9 ?_
      refine lv_iload_n hx hb dX6_putsBack_12 rfl (lv_at hl 1 rfl) ?_
      refine lv_aload_n hx hb dX6_putsBack_13 rfl (lv_at hl 0 rfl) ?_
      refine gM_other C hW q789 dX6_putsBack_14 ?_
      refine lv_iload_n hx hb dX6_putsBack_17 rfl (lv_at hl 1 rfl) ?_
      obtain ⟨hi2, hm⟩ := mi_ai hm
      refine lM_other C hW hi2 dX6_putsBack_18 ?_
      obtain ⟨hi3, hm⟩ := mi_ai hm
      refine tM_s C hW hi3 dX6_putsBack_19 (fun H locs hW => ?_)
      refine lv_iinc (v := (x1 + (1 : Int32))) (lv' := [(1, .int (x1 + (1 : Int32))), (0, .ref (a 0))]) hx hb dX6_putsBack_20 hl (k := 1) rfl (congrArg (fun z : Int32 => x1 + z) (by decide)) (by decide) rfl (fun ls hl => ?_)
      refine lv_goto (tgt := 2) hx hb dX6_putsBack_23 (by decide) ?_
      exact ih (su σ 0 (Int32.toNatClampNeg x1) (σ 2 (Int32.toNatClampNeg x1))) ((x1 + (1 : Int32))) _ _ _ hm hW (lv_sub hl [1, 0] rfl)
def X6_putsBack (σ : MS) : Option (MS) := X6_putsBack_b2 FU σ (0 : Int32)
set_option maxHeartbeats 4000000 in
set_option maxRecDepth 100000 in
theorem c_X6_putsBack {l : Launch} {D : va_G} {cy cz : ClassId} {G : GT} {a : Nat → Nat} {σ : MS} {σr : MS} (hm : X6_putsBack σ = some σr) : CtV l D cy cz G yX6_putsBack cX6_putsBack 2 none 0 0 [.ref (a 0)] (cM a cy σ) (cM a cy σr) () := by
  refine ct_v (own := "PumpTalkModel") (by decide) rfl (Nat.le_of_ble_eq_true rfl) ?_
  intro p e s m below meth c ls A C hr hlk hW hl
  have hx := C.1
  have hb := C.2.1
  have hl : lv_has ls 2 [(0, .ref (a 0))] := hl
  unfold X6_putsBack at hm
  refine lv_iconst (v := 0) hx hb dX6_putsBack_0 (by decide) ?_
  refine lv_istore_n (lv' := [(1, .int (0 : Int32)), (0, .ref (a 0))]) hx hb dX6_putsBack_1 rfl hl (by decide) rfl (fun ls hl => ?_)
  exact wX6_putsBack_b2 C hr hlk FU σ (0 : Int32) _ _ _ hm hW (lv_sub hl [1, 0] rfl)
theorem kX6_putsBack : KM yX6_putsBack cX6_putsBack 2 none 0 := ⟨q1228, q64, q72, q1229, by decide +kernel, by decide +kernel, by decide +kernel⟩
def X6_text_b97 (σ : MS) (x1 : Int32) : Option (Int32 × MS) := if ((su σ 22 13 (0 : Int32)) 22 17) = (0 : Int32) then (some (x1, su σ 22 13 (0 : Int32))) else (some (((-1 : Int32) - ((su σ 22 13 (0 : Int32)) 22 14)), su σ 22 13 (0 : Int32)))
set_option maxHeartbeats 4000000 in
set_option maxRecDepth 100000 in
theorem wX6_text_b97 {p : Program} {l : Launch} {e : Env} {s : State} {m : MethodId} {below : List Frame} {meth : Method} {c : Code} {D : va_G} {cy cz : ClassId} {G : GT} {A : Nat → Prop} {args : Array Value} {a : Nat → Nat} {r : Int32} {σr : MS} (C : Cx p s m args c cX6_text 2 "PumpTalkModel" D cy cz G A) (hr : meth.sig.returnType = some .int) (hlk : meth.locks = false) : ∀ (σ : MS) (x1 : Int32) (H : Heap) (locs : List Loc) (ls : Array Slot), X6_text_b97 σ x1 = some (r, σr) → Wd D A s.heap H locs (cM a cy σ) → lv_has ls 2 [(0, .ref (a 0)), (1, .int x1)] → W p l e (rmz 8 181) s m args below meth c H locs 0 0 (MQ below (QI D cy cz A (cM a cy σr) r) args s 0 0 A) (F0 m 97 ls []) := by
  have hx := C.1
  have hb := C.2.1
  intro σ x1 H locs ls hm hW hl
  unfold X6_text_b97 at hm
  refine lv_aload_n hx hb dX6_text_97 rfl (lv_at hl 0 rfl) ?_
  refine lv_iconst (v := 0) hx hb dX6_text_98 (by decide) ?_
  refine pM_taped C hW q800 dX6_text_99 (fun H locs hW => ?_)
  refine lv_aload_n hx hb dX6_text_102 rfl (lv_at hl 0 rfl) ?_
  refine gM_isWrong C hW q804 dX6_text_103 ?_
  refine lv_if_eq (tgt := 118) hx hb dX6_text_106 (by decide) (fun hc1 => ?_) (fun hc1 => ?_)
  · rw [if_pos hc1] at hm
    refine lv_iload_n hx hb dX6_text_118 rfl (lv_at hl 1 rfl) ?_
    obtain ⟨rfl, rfl⟩ := Prod.mk.inj (Option.some.inj hm)
    exact en_i C hr hlk hW dX6_text_119
  · rw [if_neg hc1] at hm
    refine lv_iconst (v := -1) hx hb dX6_text_109 (by decide) ?_
    refine lv_aload_n hx hb dX6_text_110 rfl (lv_at hl 0 rfl) ?_
    refine gM_from C hW q801 dX6_text_111 ?_
    refine lv_isub hx hb dX6_text_114 ?_
    refine lv_goto (tgt := 119) hx hb dX6_text_115 (by decide) ?_
    obtain ⟨rfl, rfl⟩ := Prod.mk.inj (Option.some.inj hm)
    exact en_i C hr hlk hW dX6_text_119
def X6_text_b83 (σ : MS) (x1 : Int32) (y1 : Int32) : Option (Int32 × MS) := zb y1 (if ((su σ 22 17 y1) 22 17) = (0 : Int32) then (X6_text_b97 (su σ 22 17 y1) x1) else ((X6_putsBack (su σ 22 17 y1)).bind fun s5 => X6_text_b97 s5 x1))
set_option maxHeartbeats 4000000 in
set_option maxRecDepth 100000 in
theorem wX6_text_b83 {p : Program} {l : Launch} {e : Env} {s : State} {m : MethodId} {below : List Frame} {meth : Method} {c : Code} {D : va_G} {cy cz : ClassId} {G : GT} {A : Nat → Prop} {args : Array Value} {a : Nat → Nat} {r : Int32} {σr : MS} (C : Cx p s m args c cX6_text 2 "PumpTalkModel" D cy cz G A) (hr : meth.sig.returnType = some .int) (hlk : meth.locks = false) : ∀ (σ : MS) (x1 : Int32) (y1 : Int32) (H : Heap) (locs : List Loc) (ls : Array Slot), X6_text_b83 σ x1 y1 = some (r, σr) → Wd D A s.heap H locs (cM a cy σ) → lv_has ls 2 [(0, .ref (a 0)), (1, .int x1)] → W p l e (rmz 8 181) s m args below meth c H locs 0 0 (MQ below (QI D cy cz A (cM a cy σr) r) args s 0 0 A) (F0 m 83 ls [.int y1, .ref (a 0)]) := by
  have hx := C.1
  have hb := C.2.1
  intro σ x1 y1 H locs ls hm hW hl
  unfold X6_text_b83 at hm
  obtain ⟨hz2, hm⟩ := mi_zb hm
  refine pM_isWrong C hW hz2.1 hz2.2 q804 dX6_text_83 (fun H locs hW => ?_)
  refine lv_aload_n hx hb dX6_text_86 rfl (lv_at hl 0 rfl) ?_
  refine gM_isWrong C hW q804 dX6_text_87 ?_
  refine lv_if_eq (tgt := 97) hx hb dX6_text_90 (by decide) (fun hc3 => ?_) (fun hc3 => ?_)
  · rw [if_pos hc3] at hm
    exact wX6_text_b97 C hr hlk (su σ 22 17 y1) x1 _ _ _ hm hW (lv_sub hl [0, 1] rfl)
  · rw [if_neg hc3] at hm
    refine lv_aload_n hx hb dX6_text_93 rfl (lv_at hl 0 rfl) ?_
    obtain ⟨s5, e4, hm⟩ := mi_bind hm
    refine cs_v (q0 := 0) (As := []) (rest := []) C hW (c_X6_putsBack e4) kX6_putsBack q1226 rfl rfl rfl rfl rfl hl.1 ⟨Nat.le_of_ble_eq_true rfl, Nat.le_of_ble_eq_true rfl⟩ ⟨Nat.le_refl 0, Nat.le_refl 0⟩ (Nat.le_of_ble_eq_true rfl) dX6_text_94 (fun H locs hW => ?_)
    exact wX6_text_b97 C hr hlk s5 x1 _ _ _ hm hW (lv_sub hl [0, 1] rfl)
def X6_text_b59 (σ : MS) (x1 : Int32) : Option (Int32 × MS) := if (σ 22 17) = (0 : Int32) then (if (σ 22 13) ≤ (σ 22 14) then (X6_text_b83 σ x1 (0 : Int32)) else (X6_text_b83 σ x1 (1 : Int32))) else (X6_text_b83 σ x1 (1 : Int32))
set_option maxHeartbeats 4000000 in
set_option maxRecDepth 100000 in
theorem wX6_text_b59 {p : Program} {l : Launch} {e : Env} {s : State} {m : MethodId} {below : List Frame} {meth : Method} {c : Code} {D : va_G} {cy cz : ClassId} {G : GT} {A : Nat → Prop} {args : Array Value} {a : Nat → Nat} {r : Int32} {σr : MS} (C : Cx p s m args c cX6_text 2 "PumpTalkModel" D cy cz G A) (hr : meth.sig.returnType = some .int) (hlk : meth.locks = false) : ∀ (σ : MS) (x1 : Int32) (H : Heap) (locs : List Loc) (ls : Array Slot), X6_text_b59 σ x1 = some (r, σr) → Wd D A s.heap H locs (cM a cy σ) → lv_has ls 2 [(0, .ref (a 0)), (1, .int x1)] → W p l e (rmz 8 181) s m args below meth c H locs 0 0 (MQ below (QI D cy cz A (cM a cy σr) r) args s 0 0 A) (F0 m 59 ls []) := by
  have hx := C.1
  have hb := C.2.1
  intro σ x1 H locs ls hm hW hl
  unfold X6_text_b59 at hm
  refine lv_aload_n hx hb dX6_text_59 rfl (lv_at hl 0 rfl) ?_
  refine lv_aload_n hx hb dX6_text_60 rfl (lv_at hl 0 rfl) ?_
  refine gM_isWrong C hW q804 dX6_text_61 ?_
  refine lv_if_ne (tgt := 78) hx hb dX6_text_64 (by decide) (fun hc6 => ?_) (fun hc6 => ?_)
  · rw [if_neg hc6] at hm
    refine lv_iconst (v := 1) hx hb dX6_text_78 (by decide) ?_
    refine lv_goto (tgt := 83) hx hb dX6_text_79 (by decide) ?_
    exact wX6_text_b83 C hr hlk σ x1 (1 : Int32) _ _ _ hm hW (lv_sub hl [0, 1] rfl)
  · rw [if_pos hc6] at hm
    refine lv_aload_n hx hb dX6_text_67 rfl (lv_at hl 0 rfl) ?_
    refine gM_from C hW q801 dX6_text_68 ?_
    refine lv_aload_n hx hb dX6_text_71 rfl (lv_at hl 0 rfl) ?_
    refine gM_taped C hW q800 dX6_text_72 ?_
    refine lv_icmp_ge (tgt := 82) hx hb dX6_text_75 (by decide) (fun hc7 => ?_) (fun hc7 => ?_)
    · rw [if_pos hc7] at hm
      refine lv_iconst (v := 0) hx hb dX6_text_82 (by decide) ?_
      exact wX6_text_b83 C hr hlk σ x1 (0 : Int32) _ _ _ hm hW (lv_sub hl [0, 1] rfl)
    · rw [if_neg hc7] at hm
      refine lv_iconst (v := 1) hx hb dX6_text_78 (by decide) ?_
      refine lv_goto (tgt := 83) hx hb dX6_text_79 (by decide) ?_
      exact wX6_text_b83 C hr hlk σ x1 (1 : Int32) _ _ _ hm hW (lv_sub hl [0, 1] rfl)
def X6_text_b24 : Nat → MS → Int32 → Option (Int32 × MS)
  | 0, _, _ => none
  | n + 1, σ, x1 => if (σ 22 17) = (0 : Int32) then ((X6_byteAt σ (σ 22 14)).bind fun v10 => if v10 = (59 : Int32) then ((X6_must σ (1 : Int32)).bind fun s13 => (X6_item s13).bind fun s15 => X6_text_b24 n s15 ((x1 + (1 : Int32)))) else (X6_text_b59 σ x1)) else (X6_text_b59 σ x1)
set_option maxHeartbeats 4000000 in
set_option maxRecDepth 100000 in
theorem wX6_text_b24 {p : Program} {l : Launch} {e : Env} {s : State} {m : MethodId} {below : List Frame} {meth : Method} {c : Code} {D : va_G} {cy cz : ClassId} {G : GT} {A : Nat → Prop} {args : Array Value} {a : Nat → Nat} {r : Int32} {σr : MS} (C : Cx p s m args c cX6_text 2 "PumpTalkModel" D cy cz G A) (hr : meth.sig.returnType = some .int) (hlk : meth.locks = false) : ∀ (n : Nat) (σ : MS) (x1 : Int32) (H : Heap) (locs : List Loc) (ls : Array Slot), X6_text_b24 n σ x1 = some (r, σr) → Wd D A s.heap H locs (cM a cy σ) → lv_has ls 2 [(0, .ref (a 0)), (1, .int x1)] → W p l e (rmz 8 181) s m args below meth c H locs 0 0 (MQ below (QI D cy cz A (cM a cy σr) r) args s 0 0 A) (F0 m 24 ls []) := by
  have hx := C.1
  have hb := C.2.1
  intro n
  induction n with
  | zero =>
    intro σ x1 H locs ls hm
    rw [X6_text_b24] at hm
    cases hm
  | succ n ih =>
    intro σ x1 H locs ls hm hW hl
    rw [X6_text_b24] at hm
    refine lv_aload_n hx hb dX6_text_24 rfl (lv_at hl 0 rfl) ?_
    refine gM_isWrong C hW q804 dX6_text_25 ?_
    refine lv_if_ne (tgt := 59) hx hb dX6_text_28 (by decide) (fun hc8 => ?_) (fun hc8 => ?_)
    · rw [if_neg hc8] at hm
      exact wX6_text_b59 C hr hlk σ x1 _ _ _ hm hW (lv_sub hl [0, 1] rfl)
    · rw [if_pos hc8] at hm
      refine lv_aload_n hx hb dX6_text_31 rfl (lv_at hl 0 rfl) ?_
      refine lv_aload_n hx hb dX6_text_32 rfl (lv_at hl 0 rfl) ?_
      refine gM_from C hW q801 dX6_text_33 ?_
      obtain ⟨v10, e9, hm⟩ := mi_bind hm
      refine cs_i (q0 := 0) (As := [.int (σ 22 14)]) (rest := []) C hW (c_X6_byteAt e9) kX6_byteAt q1159 rfl rfl rfl rfl rfl hl.1 ⟨Nat.le_of_ble_eq_true rfl, Nat.le_of_ble_eq_true rfl⟩ ⟨Nat.le_refl 0, Nat.le_refl 0⟩ (Nat.le_of_ble_eq_true rfl) dX6_text_36 (fun H locs hW => ?_)
      refine lv_bipush (v := 59) hx hb dX6_text_39 (by decide) ?_
      refine lv_icmp_ne (tgt := 59) hx hb dX6_text_41 (by decide) (fun hc11 => ?_) (fun hc11 => ?_)
      · rw [if_neg hc11] at hm
        exact wX6_text_b59 C hr hlk σ x1 _ _ _ hm hW (lv_sub hl [0, 1] rfl)
      · rw [if_pos hc11] at hm
        refine lv_aload_n hx hb dX6_text_44 rfl (lv_at hl 0 rfl) ?_
        refine lv_iconst (v := 1) hx hb dX6_text_45 (by decide) ?_
        obtain ⟨s13, e12, hm⟩ := mi_bind hm
        refine cs_v (q0 := 0) (As := [.int (1 : Int32)]) (rest := []) C hW (c_X6_must e12) kX6_must q1198 rfl rfl rfl rfl rfl hl.1 ⟨Nat.le_of_ble_eq_true rfl, Nat.le_of_ble_eq_true rfl⟩ ⟨Nat.le_refl 0, Nat.le_refl 0⟩ (Nat.le_of_ble_eq_true rfl) dX6_text_46 (fun H locs hW => ?_)
        refine lv_aload_n hx hb dX6_text_49 rfl (lv_at hl 0 rfl) ?_
        obtain ⟨s15, e14, hm⟩ := mi_bind hm
        refine cs_v (q0 := 0) (As := []) (rest := []) C hW (c_X6_item e14) kX6_item q1173 rfl rfl rfl rfl rfl hl.1 ⟨Nat.le_of_ble_eq_true rfl, Nat.le_of_ble_eq_true rfl⟩ ⟨Nat.le_refl 0, Nat.le_refl 0⟩ (Nat.le_of_ble_eq_true rfl) dX6_text_50 (fun H locs hW => ?_)
        refine lv_iinc (v := (x1 + (1 : Int32))) (lv' := [(1, .int (x1 + (1 : Int32))), (0, .ref (a 0))]) hx hb dX6_text_53 hl (k := 1) rfl (congrArg (fun z : Int32 => x1 + z) (by decide)) (by decide) rfl (fun ls hl => ?_)
        refine lv_goto (tgt := 24) hx hb dX6_text_56 (by decide) ?_
        exact ih s15 ((x1 + (1 : Int32))) _ _ _ hm hW (lv_sub hl [1, 0] rfl)
def X6_text (σ : MS) : Option (Int32 × MS) := (X6_saves σ).bind fun s17 => (X6_token (su (su s17 22 17 (0 : Int32)) 22 15 (0 : Int32))).bind fun s19 => (X6_item s19).bind fun s21 => X6_text_b24 FU s21 (1 : Int32)
set_option maxHeartbeats 4000000 in
set_option maxRecDepth 100000 in
theorem c_X6_text {l : Launch} {D : va_G} {cy cz : ClassId} {G : GT} {a : Nat → Nat} {σ : MS} {r : Int32} {σr : MS} (hm : X6_text σ = some (r, σr)) : CtI l D cy cz G yX6_text cX6_text 2 (some .int) 8 181 [.ref (a 0)] (cM a cy σ) (cM a cy σr) r := by
  refine ct_i (own := "PumpTalkModel") (by decide) rfl (Nat.le_of_ble_eq_true rfl) ?_
  intro p e s m below meth c ls A C hr hlk hW hl
  have hx := C.1
  have hb := C.2.1
  have hl : lv_has ls 2 [(0, .ref (a 0))] := hl
  unfold X6_text at hm
  refine lv_aload_n hx hb dX6_text_0 rfl (lv_at hl 0 rfl) ?_
  obtain ⟨s17, e16, hm⟩ := mi_bind hm
  refine cs_v (q0 := 0) (As := []) (rest := []) C hW (c_X6_saves e16) kX6_saves q1151 rfl rfl rfl rfl rfl hl.1 ⟨Nat.le_of_ble_eq_true rfl, Nat.le_of_ble_eq_true rfl⟩ ⟨Nat.le_refl 0, Nat.le_refl 0⟩ (Nat.le_of_ble_eq_true rfl) dX6_text_1 (fun H locs hW => ?_)
  refine lv_aload_n hx hb dX6_text_4 rfl (lv_at hl 0 rfl) ?_
  refine lv_iconst (v := 0) hx hb dX6_text_5 (by decide) ?_
  refine pM_isWrong C hW rfl rfl q804 dX6_text_6 (fun H locs hW => ?_)
  refine lv_aload_n hx hb dX6_text_9 rfl (lv_at hl 0 rfl) ?_
  refine lv_iconst (v := 0) hx hb dX6_text_10 (by decide) ?_
  refine pM_to C hW q802 dX6_text_11 (fun H locs hW => ?_)
  refine lv_aload_n hx hb dX6_text_14 rfl (lv_at hl 0 rfl) ?_
  obtain ⟨s19, e18, hm⟩ := mi_bind hm
  refine cs_v (q0 := 0) (As := []) (rest := []) C hW (c_X6_token e18) kX6_token q1155 rfl rfl rfl rfl rfl hl.1 ⟨Nat.le_of_ble_eq_true rfl, Nat.le_of_ble_eq_true rfl⟩ ⟨Nat.le_refl 0, Nat.le_refl 0⟩ (Nat.le_of_ble_eq_true rfl) dX6_text_15 (fun H locs hW => ?_)
  refine lv_iconst (v := 1) hx hb dX6_text_18 (by decide) ?_
  refine lv_istore_n (lv' := [(1, .int (1 : Int32)), (0, .ref (a 0))]) hx hb dX6_text_19 rfl hl (by decide) rfl (fun ls hl => ?_)
  refine lv_aload_n hx hb dX6_text_20 rfl (lv_at hl 1 rfl) ?_
  obtain ⟨s21, e20, hm⟩ := mi_bind hm
  refine cs_v (q0 := 0) (As := []) (rest := []) C hW (c_X6_item e20) kX6_item q1173 rfl rfl rfl rfl rfl hl.1 ⟨Nat.le_of_ble_eq_true rfl, Nat.le_of_ble_eq_true rfl⟩ ⟨Nat.le_refl 0, Nat.le_refl 0⟩ (Nat.le_of_ble_eq_true rfl) dX6_text_21 (fun H locs hW => ?_)
  exact wX6_text_b24 C hr hlk FU s21 (1 : Int32) _ _ _ hm hW (lv_sub hl [1, 0] rfl)
theorem kX6_text : KM yX6_text cX6_text 2 (some .int) 0 := ⟨q1148, q1149, q72, q1150, by decide +kernel, by decide +kernel, by decide +kernel⟩
def X6_isSpot (p1 : Int32) : Option (Int32) := (X6_in (Int32.toInt64 p1) (0 : Int64) (9 : Int64)).bind fun v2 => zb v2 (some v2)
set_option maxHeartbeats 4000000 in
set_option maxRecDepth 100000 in
theorem c_X6_isSpot {l : Launch} {D : va_G} {cy cz : ClassId} {G : GT} {p1 : Int32} {r : Int32} (hm : X6_isSpot p1 = some r) : CtI l D cy cz G yX6_isSpot cX6_isSpot 1 (some .boolean) 1 25 [.int p1] ([] : va_W) ([] : va_W) r := by
  refine ct_i (own := "PumpTalkModel") (by decide) rfl (Nat.le_of_ble_eq_true rfl) ?_
  intro p e s m below meth c ls A C hr hlk hW hl
  have hx := C.1
  have hb := C.2.1
  have hl : lv_has ls 1 [(0, .int p1)] := hl
  unfold X6_isSpot at hm
  refine lv_iload_n hx hb dX6_isSpot_0 rfl (lv_at hl 0 rfl) ?_
  refine lv_i2l hx hb dX6_isSpot_1 rfl ?_
  refine lv_lconst (v := 0) hx hb dX6_isSpot_2 (by decide) ?_
  refine lv_ldc2 hx hb C.2.2.2.1 (C.2.2.2.2.1 _ q895) dX6_isSpot_3 ?_
  obtain ⟨v2, e1, hm⟩ := mi_bind hm
  refine cS_i (As := [.long (Int32.toInt64 p1), .long (0 : Int64), .long (9 : Int64)]) (rest := []) C hW (c_X6_in e1) kX6_in q862 rfl rfl hl.1 ⟨Nat.le_of_ble_eq_true rfl, Nat.le_of_ble_eq_true rfl⟩ ⟨Nat.le_refl 0, Nat.le_refl 0⟩ (Nat.le_of_ble_eq_true rfl) dX6_isSpot_6 (fun H locs hW => ?_)
  obtain ⟨hz3, hm⟩ := mi_zb hm
  obtain rfl := Option.some.inj hm
  exact en_z C hr hlk hz3.1 hW dX6_isSpot_9
theorem kX6_isSpot : KS yX6_isSpot cX6_isSpot 1 (some .boolean) 1 := ⟨q1235, q72, q1236, by decide +kernel, by decide +kernel, by decide +kernel⟩
def X6_hold_b27 (σ : MS) (x1 : Int32) (x2 : Int32) : Option (Int32 × MS) := ai ((71 : Int32) + x1) 81 (some ((1 : Int32), su σ 0 (Int32.toNatClampNeg ((71 : Int32) + x1)) x2))
set_option maxHeartbeats 4000000 in
set_option maxRecDepth 100000 in
theorem wX6_hold_b27 {p : Program} {l : Launch} {e : Env} {s : State} {m : MethodId} {below : List Frame} {meth : Method} {c : Code} {D : va_G} {cy cz : ClassId} {G : GT} {A : Nat → Prop} {args : Array Value} {a : Nat → Nat} {r : Int32} {σr : MS} (C : Cx p s m args c cX6_hold 3 "PumpTalkModel" D cy cz G A) (hr : meth.sig.returnType = some .int) (hlk : meth.locks = false) : ∀ (σ : MS) (x1 : Int32) (x2 : Int32) (H : Heap) (locs : List Loc) (ls : Array Slot), X6_hold_b27 σ x1 x2 = some (r, σr) → Wd D A s.heap H locs (cM a cy σ) → lv_has ls 3 [(0, .ref (a 0)), (1, .int x1), (2, .int x2)] → W p l e (rmz 2 46) s m args below meth c H locs 0 0 (MQ below (QI D cy cz A (cM a cy σr) r) args s 0 0 A) (F0 m 27 ls []) := by
  have hx := C.1
  have hb := C.2.1
  intro σ x1 x2 H locs ls hm hW hl
  unfold X6_hold_b27 at hm
  refine lv_aload_n hx hb dX6_hold_27 rfl (lv_at hl 0 rfl) ?_
  refine gM_s C hW q787 dX6_hold_28 ?_
  refine lv_bipush (v := 71) hx hb dX6_hold_31 (by decide) ?_
  refine lv_iload_n hx hb dX6_hold_33 rfl (lv_at hl 1 rfl) ?_
  refine lv_iadd hx hb dX6_hold_34 ?_
  refine lv_iload_n hx hb dX6_hold_35 rfl (lv_at hl 2 rfl) ?_
  obtain ⟨hi1, hm⟩ := mi_ai hm
  refine tM_s C hW hi1 dX6_hold_36 (fun H locs hW => ?_)
  refine lv_iconst (v := 1) hx hb dX6_hold_37 (by decide) ?_
  obtain ⟨rfl, rfl⟩ := Prod.mk.inj (Option.some.inj hm)
  exact en_i C hr hlk hW dX6_hold_38
def X6_hold_b20 (σ : MS) : Option (Int32 × MS) := (X6_finds σ (-1000001 : Int32)).bind fun q3 => some (q3.1, q3.2)
set_option maxHeartbeats 4000000 in
set_option maxRecDepth 100000 in
theorem wX6_hold_b20 {p : Program} {l : Launch} {e : Env} {s : State} {m : MethodId} {below : List Frame} {meth : Method} {c : Code} {D : va_G} {cy cz : ClassId} {G : GT} {A : Nat → Prop} {args : Array Value} {a : Nat → Nat} {r : Int32} {σr : MS} (C : Cx p s m args c cX6_hold 3 "PumpTalkModel" D cy cz G A) (hr : meth.sig.returnType = some .int) (hlk : meth.locks = false) : ∀ (σ : MS) (H : Heap) (locs : List Loc) (ls : Array Slot), X6_hold_b20 σ = some (r, σr) → Wd D A s.heap H locs (cM a cy σ) → lv_has ls 3 [(0, .ref (a 0))] → W p l e (rmz 2 46) s m args below meth c H locs 0 0 (MQ below (QI D cy cz A (cM a cy σr) r) args s 0 0 A) (F0 m 20 ls []) := by
  have hx := C.1
  have hb := C.2.1
  intro σ H locs ls hm hW hl
  unfold X6_hold_b20 at hm
  refine lv_aload_n hx hb dX6_hold_20 rfl (lv_at hl 0 rfl) ?_
  refine lv_ldc hx hb C.2.2.2.1 (C.2.2.2.2.1 _ q865) dX6_hold_21 ?_
  obtain ⟨q3, e2, hm⟩ := mi_bind hm
  refine cs_i (q0 := 0) (As := [.int (-1000001 : Int32)]) (rest := []) C hW (c_X6_finds e2) kX6_finds q866 rfl rfl rfl rfl rfl hl.1 ⟨Nat.le_of_ble_eq_true rfl, Nat.le_of_ble_eq_true rfl⟩ ⟨Nat.le_refl 0, Nat.le_refl 0⟩ (Nat.le_of_ble_eq_true rfl) dX6_hold_23 (fun H locs hW => ?_)
  obtain ⟨rfl, rfl⟩ := Prod.mk.inj (Option.some.inj hm)
  exact en_i C hr hlk hW dX6_hold_26
def X6_hold (σ : MS) (p1 : Int32) (p2 : Int32) : Option (Int32 × MS) := (X6_isSpot p1).bind fun v5 => if v5 = (0 : Int32) then (X6_hold_b20 σ) else (if p2 = (-1 : Int32) then (X6_hold_b27 σ p1 p2) else ((X6_isPerson σ p2).bind fun v9 => if v9 = (0 : Int32) then (X6_hold_b20 σ) else (X6_hold_b27 σ p1 p2)))
set_option maxHeartbeats 4000000 in
set_option maxRecDepth 100000 in
theorem c_X6_hold {l : Launch} {D : va_G} {cy cz : ClassId} {G : GT} {a : Nat → Nat} {σ : MS} {p1 : Int32} {p2 : Int32} {r : Int32} {σr : MS} (hm : X6_hold σ p1 p2 = some (r, σr)) : CtI l D cy cz G yX6_hold cX6_hold 3 (some .int) 2 46 [.ref (a 0), .int p1, .int p2] (cM a cy σ) (cM a cy σr) r := by
  refine ct_i (own := "PumpTalkModel") (by decide) rfl (Nat.le_of_ble_eq_true rfl) ?_
  intro p e s m below meth c ls A C hr hlk hW hl
  have hx := C.1
  have hb := C.2.1
  have hl : lv_has ls 3 [(0, .ref (a 0)), (1, .int p1), (2, .int p2)] := hl
  unfold X6_hold at hm
  refine lv_iload_n hx hb dX6_hold_0 rfl (lv_at hl 1 rfl) ?_
  obtain ⟨v5, e4, hm⟩ := mi_bind hm
  refine cS_i (As := [.int p1]) (rest := []) C hW (c_X6_isSpot e4) kX6_isSpot q1234 rfl rfl hl.1 ⟨Nat.le_of_ble_eq_true rfl, Nat.le_of_ble_eq_true rfl⟩ ⟨Nat.le_refl 0, Nat.le_refl 0⟩ (Nat.le_of_ble_eq_true rfl) dX6_hold_1 (fun H locs hW => ?_)
  refine lv_if_eq (tgt := 20) hx hb dX6_hold_4 (by decide) (fun hc6 => ?_) (fun hc6 => ?_)
  · rw [if_pos hc6] at hm
    exact wX6_hold_b20 C hr hlk σ _ _ _ hm hW (lv_sub hl [0] rfl)
  · rw [if_neg hc6] at hm
    refine lv_iload_n hx hb dX6_hold_7 rfl (lv_at hl 2 rfl) ?_
    refine lv_iconst (v := -1) hx hb dX6_hold_8 (by decide) ?_
    refine lv_icmp_eq (tgt := 27) hx hb dX6_hold_9 (by decide) (fun hc7 => ?_) (fun hc7 => ?_)
    · rw [if_pos hc7] at hm
      exact wX6_hold_b27 C hr hlk σ p1 p2 _ _ _ hm hW (lv_sub hl [0, 1, 2] rfl)
    · rw [if_neg hc7] at hm
      refine lv_aload_n hx hb dX6_hold_12 rfl (lv_at hl 0 rfl) ?_
      refine lv_iload_n hx hb dX6_hold_13 rfl (lv_at hl 2 rfl) ?_
      obtain ⟨v9, e8, hm⟩ := mi_bind hm
      refine cs_i (q0 := 0) (As := [.int p2]) (rest := []) C hW (c_X6_isPerson e8) kX6_isPerson q882 rfl rfl rfl rfl rfl hl.1 ⟨Nat.le_of_ble_eq_true rfl, Nat.le_of_ble_eq_true rfl⟩ ⟨Nat.le_refl 0, Nat.le_refl 0⟩ (Nat.le_of_ble_eq_true rfl) dX6_hold_14 (fun H locs hW => ?_)
      refine lv_if_ne (tgt := 27) hx hb dX6_hold_17 (by decide) (fun hc10 => ?_) (fun hc10 => ?_)
      · rw [if_neg hc10] at hm
        exact wX6_hold_b27 C hr hlk σ p1 p2 _ _ _ hm hW (lv_sub hl [0, 1, 2] rfl)
      · rw [if_pos hc10] at hm
        exact wX6_hold_b20 C hr hlk σ _ _ _ hm hW (lv_sub hl [0] rfl)
theorem kX6_hold : KM yX6_hold cX6_hold 3 (some .int) 2 := ⟨q1231, q1232, q72, q1233, by decide +kernel, by decide +kernel, by decide +kernel⟩
def X6_above (p1 : Int32) : Option (Int32) := if p1 = (6 : Int32) then (some (1 : Int32)) else (if p1 = (3 : Int32) then (some (2 : Int32)) else (if p1 = (4 : Int32) then (some (3 : Int32)) else (some (0 : Int32))))
set_option maxHeartbeats 4000000 in
set_option maxRecDepth 100000 in
theorem c_X6_above {l : Launch} {D : va_G} {cy cz : ClassId} {G : GT} {p1 : Int32} {r : Int32} (hm : X6_above p1 = some r) : CtI l D cy cz G yX6_above cX6_above 1 (some .int) 0 0 [.int p1] ([] : va_W) ([] : va_W) r := by
  refine ct_i (own := "PumpTalkModel") (by decide) rfl (Nat.le_of_ble_eq_true rfl) ?_
  intro p e s m below meth c ls A C hr hlk hW hl
  have hx := C.1
  have hb := C.2.1
  have hl : lv_has ls 1 [(0, .int p1)] := hl
  unfold X6_above at hm
  refine lv_iload_n hx hb dX6_above_0 rfl (lv_at hl 0 rfl) ?_
  refine lv_bipush (v := 6) hx hb dX6_above_1 (by decide) ?_
  refine lv_icmp_ne (tgt := 10) hx hb dX6_above_3 (by decide) (fun hc1 => ?_) (fun hc1 => ?_)
  · rw [if_neg hc1] at hm
    refine lv_iload_n hx hb dX6_above_10 rfl (lv_at hl 0 rfl) ?_
    refine lv_iconst (v := 3) hx hb dX6_above_11 (by decide) ?_
    refine lv_icmp_ne (tgt := 19) hx hb dX6_above_12 (by decide) (fun hc2 => ?_) (fun hc2 => ?_)
    · rw [if_neg hc2] at hm
      refine lv_iload_n hx hb dX6_above_19 rfl (lv_at hl 0 rfl) ?_
      refine lv_iconst (v := 4) hx hb dX6_above_20 (by decide) ?_
      refine lv_icmp_ne (tgt := 28) hx hb dX6_above_21 (by decide) (fun hc3 => ?_) (fun hc3 => ?_)
      · rw [if_neg hc3] at hm
        refine lv_iconst (v := 0) hx hb dX6_above_28 (by decide) ?_
        obtain rfl := Option.some.inj hm
        exact en_i C hr hlk hW dX6_above_29
      · rw [if_pos hc3] at hm
        refine lv_iconst (v := 3) hx hb dX6_above_24 (by decide) ?_
        refine lv_goto (tgt := 29) hx hb dX6_above_25 (by decide) ?_
        obtain rfl := Option.some.inj hm
        exact en_i C hr hlk hW dX6_above_29
    · rw [if_pos hc2] at hm
      refine lv_iconst (v := 2) hx hb dX6_above_15 (by decide) ?_
      refine lv_goto (tgt := 29) hx hb dX6_above_16 (by decide) ?_
      obtain rfl := Option.some.inj hm
      exact en_i C hr hlk hW dX6_above_29
  · rw [if_pos hc1] at hm
    refine lv_iconst (v := 1) hx hb dX6_above_6 (by decide) ?_
    refine lv_goto (tgt := 29) hx hb dX6_above_7 (by decide) ?_
    obtain rfl := Option.some.inj hm
    exact en_i C hr hlk hW dX6_above_29
theorem kX6_above : KS yX6_above cX6_above 1 (some .int) 1 := ⟨q1242, q72, q1243, by decide +kernel, by decide +kernel, by decide +kernel⟩
def X6_as_b72 (σ : MS) (x2 : Int32) (x3 : Int32) (x4 : Int32) : Option (Int32 × MS) := if x4 = x2 then (some (x3, σ)) else ((X6_finds σ (-1000003 : Int32)).bind fun q3 => some (q3.1, q3.2))
set_option maxHeartbeats 4000000 in
set_option maxRecDepth 100000 in
theorem wX6_as_b72 {p : Program} {l : Launch} {e : Env} {s : State} {m : MethodId} {below : List Frame} {meth : Method} {c : Code} {D : va_G} {cy cz : ClassId} {G : GT} {A : Nat → Prop} {args : Array Value} {a : Nat → Nat} {r : Int32} {σr : MS} (C : Cx p s m args c cX6_as 5 "PumpTalkModel" D cy cz G A) (hr : meth.sig.returnType = some .int) (hlk : meth.locks = false) : ∀ (σ : MS) (x2 : Int32) (x3 : Int32) (x4 : Int32) (H : Heap) (locs : List Loc) (ls : Array Slot), X6_as_b72 σ x2 x3 x4 = some (r, σr) → Wd D A s.heap H locs (cM a cy σ) → lv_has ls 5 [(0, .ref (a 0)), (2, .int x2), (3, .int x3), (4, .int x4)] → W p l e (rmz 2 45) s m args below meth c H locs 0 0 (MQ below (QI D cy cz A (cM a cy σr) r) args s 0 0 A) (F0 m 72 ls []) := by
  have hx := C.1
  have hb := C.2.1
  intro σ x2 x3 x4 H locs ls hm hW hl
  unfold X6_as_b72 at hm
  refine lv_iload hx hb dX6_as_72 (lv_at hl 3 rfl) ?_
  refine lv_iload_n hx hb dX6_as_74 rfl (lv_at hl 1 rfl) ?_
  refine lv_icmp_ne (tgt := 82) hx hb dX6_as_75 (by decide) (fun hc1 => ?_) (fun hc1 => ?_)
  · rw [if_neg hc1] at hm
    refine lv_aload_n hx hb dX6_as_82 rfl (lv_at hl 0 rfl) ?_
    refine lv_ldcw hx hb C.2.2.2.1 (C.2.2.2.2.1 _ q1244) dX6_as_83 ?_
    obtain ⟨q3, e2, hm⟩ := mi_bind hm
    refine cs_i (q0 := 0) (As := [.int (-1000003 : Int32)]) (rest := []) C hW (c_X6_finds e2) kX6_finds q866 rfl rfl rfl rfl rfl hl.1 ⟨Nat.le_of_ble_eq_true rfl, Nat.le_of_ble_eq_true rfl⟩ ⟨Nat.le_refl 0, Nat.le_refl 0⟩ (Nat.le_of_ble_eq_true rfl) dX6_as_86 (fun H locs hW => ?_)
    obtain ⟨rfl, rfl⟩ := Prod.mk.inj (Option.some.inj hm)
    exact en_i C hr hlk hW dX6_as_89
  · rw [if_pos hc1] at hm
    refine lv_iload_n hx hb dX6_as_78 rfl (lv_at hl 2 rfl) ?_
    refine lv_goto (tgt := 89) hx hb dX6_as_79 (by decide) ?_
    obtain ⟨rfl, rfl⟩ := Prod.mk.inj (Option.some.inj hm)
    exact en_i C hr hlk hW dX6_as_89
def X6_as_b51 : Nat → MS → Int32 → Int32 → Int32 → Option (Int32 × MS)
  | 0, _, _, _, _ => none
  | n + 1, σ, x2, x3, x4 => if x4 = x2 then (X6_as_b72 σ x2 x3 x4) else (if x4 = (0 : Int32) then (X6_as_b72 σ x2 x3 x4) else ((X6_above x4).bind fun v7 => X6_as_b51 n σ x2 x3 v7))
set_option maxHeartbeats 4000000 in
set_option maxRecDepth 100000 in
theorem wX6_as_b51 {p : Program} {l : Launch} {e : Env} {s : State} {m : MethodId} {below : List Frame} {meth : Method} {c : Code} {D : va_G} {cy cz : ClassId} {G : GT} {A : Nat → Prop} {args : Array Value} {a : Nat → Nat} {r : Int32} {σr : MS} (C : Cx p s m args c cX6_as 5 "PumpTalkModel" D cy cz G A) (hr : meth.sig.returnType = some .int) (hlk : meth.locks = false) : ∀ (n : Nat) (σ : MS) (x2 : Int32) (x3 : Int32) (x4 : Int32) (H : Heap) (locs : List Loc) (ls : Array Slot), X6_as_b51 n σ x2 x3 x4 = some (r, σr) → Wd D A s.heap H locs (cM a cy σ) → lv_has ls 5 [(0, .ref (a 0)), (2, .int x2), (3, .int x3), (4, .int x4)] → W p l e (rmz 2 45) s m args below meth c H locs 0 0 (MQ below (QI D cy cz A (cM a cy σr) r) args s 0 0 A) (F0 m 51 ls []) := by
  have hx := C.1
  have hb := C.2.1
  intro n
  induction n with
  | zero =>
    intro σ x2 x3 x4 H locs ls hm
    rw [X6_as_b51] at hm
    cases hm
  | succ n ih =>
    intro σ x2 x3 x4 H locs ls hm hW hl
    rw [X6_as_b51] at hm
    refine lv_iload hx hb dX6_as_51 (lv_at hl 3 rfl) ?_
    refine lv_iload_n hx hb dX6_as_53 rfl (lv_at hl 1 rfl) ?_
    refine lv_icmp_eq (tgt := 72) hx hb dX6_as_54 (by decide) (fun hc4 => ?_) (fun hc4 => ?_)
    · rw [if_pos hc4] at hm
      exact wX6_as_b72 C hr hlk σ x2 x3 x4 _ _ _ hm hW (lv_sub hl [0, 1, 2, 3] rfl)
    · rw [if_neg hc4] at hm
      refine lv_iload hx hb dX6_as_57 (lv_at hl 3 rfl) ?_
      refine lv_if_eq (tgt := 72) hx hb dX6_as_59 (by decide) (fun hc5 => ?_) (fun hc5 => ?_)
      · rw [if_pos hc5] at hm
        exact wX6_as_b72 C hr hlk σ x2 x3 x4 _ _ _ hm hW (lv_sub hl [0, 1, 2, 3] rfl)
      · rw [if_neg hc5] at hm
        refine lv_iload hx hb dX6_as_62 (lv_at hl 3 rfl) ?_
        obtain ⟨v7, e6, hm⟩ := mi_bind hm
        refine cS_i (As := [.int x4]) (rest := []) C hW (c_X6_above e6) kX6_above q1241 rfl rfl hl.1 ⟨Nat.le_of_ble_eq_true rfl, Nat.le_of_ble_eq_true rfl⟩ ⟨Nat.le_refl 0, Nat.le_refl 0⟩ (Nat.le_of_ble_eq_true rfl) dX6_as_64 (fun H locs hW => ?_)
        refine lv_istore (lv' := [(4, .int v7), (0, .ref (a 0)), (2, .int x2), (3, .int x3)]) hx hb dX6_as_67 hl (by decide) rfl (fun ls hl => ?_)
        refine lv_goto (tgt := 51) hx hb dX6_as_69 (by decide) ?_
        exact ih σ x2 x3 v7 _ _ _ hm hW (lv_sub hl [1, 2, 3, 0] rfl)
def X6_as_b14 (σ : MS) : Option (Int32 × MS) := (X6_finds σ (-1000001 : Int32)).bind fun q9 => some (q9.1, q9.2)
set_option maxHeartbeats 4000000 in
set_option maxRecDepth 100000 in
theorem wX6_as_b14 {p : Program} {l : Launch} {e : Env} {s : State} {m : MethodId} {below : List Frame} {meth : Method} {c : Code} {D : va_G} {cy cz : ClassId} {G : GT} {A : Nat → Prop} {args : Array Value} {a : Nat → Nat} {r : Int32} {σr : MS} (C : Cx p s m args c cX6_as 5 "PumpTalkModel" D cy cz G A) (hr : meth.sig.returnType = some .int) (hlk : meth.locks = false) : ∀ (σ : MS) (H : Heap) (locs : List Loc) (ls : Array Slot), X6_as_b14 σ = some (r, σr) → Wd D A s.heap H locs (cM a cy σ) → lv_has ls 5 [(0, .ref (a 0))] → W p l e (rmz 2 45) s m args below meth c H locs 0 0 (MQ below (QI D cy cz A (cM a cy σr) r) args s 0 0 A) (F0 m 14 ls []) := by
  have hx := C.1
  have hb := C.2.1
  intro σ H locs ls hm hW hl
  unfold X6_as_b14 at hm
  refine lv_aload_n hx hb dX6_as_14 rfl (lv_at hl 0 rfl) ?_
  refine lv_ldc hx hb C.2.2.2.1 (C.2.2.2.2.1 _ q865) dX6_as_15 ?_
  obtain ⟨q9, e8, hm⟩ := mi_bind hm
  refine cs_i (q0 := 0) (As := [.int (-1000001 : Int32)]) (rest := []) C hW (c_X6_finds e8) kX6_finds q866 rfl rfl rfl rfl rfl hl.1 ⟨Nat.le_of_ble_eq_true rfl, Nat.le_of_ble_eq_true rfl⟩ ⟨Nat.le_refl 0, Nat.le_refl 0⟩ (Nat.le_of_ble_eq_true rfl) dX6_as_17 (fun H locs hW => ?_)
  obtain ⟨rfl, rfl⟩ := Prod.mk.inj (Option.some.inj hm)
  exact en_i C hr hlk hW dX6_as_20
def X6_as (σ : MS) (p1 : Int32) (p2 : Int32) : Option (Int32 × MS) := (X6_isSpot p1).bind fun v11 => if v11 = (0 : Int32) then (X6_as_b14 σ) else ((X6_isKind p2).bind fun v14 => if v14 = (0 : Int32) then (X6_as_b14 σ) else (ai ((71 : Int32) + p1) 81 (if (0 : Int32) ≤ (σ 0 (Int32.toNatClampNeg ((71 : Int32) + p1))) then ((X6_its σ (σ 0 (Int32.toNatClampNeg ((71 : Int32) + p1))) (0 : Int32)).bind fun v19 => X6_as_b51 FU σ p2 ((σ 0 (Int32.toNatClampNeg ((71 : Int32) + p1)))) v19) else ((X6_finds σ (-1000006 : Int32)).bind fun q21 => some (q21.1, q21.2)))))
set_option maxHeartbeats 4000000 in
set_option maxRecDepth 100000 in
theorem c_X6_as {l : Launch} {D : va_G} {cy cz : ClassId} {G : GT} {a : Nat → Nat} {σ : MS} {p1 : Int32} {p2 : Int32} {r : Int32} {σr : MS} (hm : X6_as σ p1 p2 = some (r, σr)) : CtI l D cy cz G yX6_as cX6_as 5 (some .int) 2 45 [.ref (a 0), .int p1, .int p2] (cM a cy σ) (cM a cy σr) r := by
  refine ct_i (own := "PumpTalkModel") (by decide) rfl (Nat.le_of_ble_eq_true rfl) ?_
  intro p e s m below meth c ls A C hr hlk hW hl
  have hx := C.1
  have hb := C.2.1
  have hl : lv_has ls 5 [(0, .ref (a 0)), (1, .int p1), (2, .int p2)] := hl
  unfold X6_as at hm
  refine lv_iload_n hx hb dX6_as_0 rfl (lv_at hl 1 rfl) ?_
  obtain ⟨v11, e10, hm⟩ := mi_bind hm
  refine cS_i (As := [.int p1]) (rest := []) C hW (c_X6_isSpot e10) kX6_isSpot q1234 rfl rfl hl.1 ⟨Nat.le_of_ble_eq_true rfl, Nat.le_of_ble_eq_true rfl⟩ ⟨Nat.le_refl 0, Nat.le_refl 0⟩ (Nat.le_of_ble_eq_true rfl) dX6_as_1 (fun H locs hW => ?_)
  refine lv_if_eq (tgt := 14) hx hb dX6_as_4 (by decide) (fun hc12 => ?_) (fun hc12 => ?_)
  · rw [if_pos hc12] at hm
    exact wX6_as_b14 C hr hlk σ _ _ _ hm hW (lv_sub hl [0] rfl)
  · rw [if_neg hc12] at hm
    refine lv_iload_n hx hb dX6_as_7 rfl (lv_at hl 2 rfl) ?_
    obtain ⟨v14, e13, hm⟩ := mi_bind hm
    refine cS_i (As := [.int p2]) (rest := []) C hW (c_X6_isKind e13) kX6_isKind q858 rfl rfl hl.1 ⟨Nat.le_of_ble_eq_true rfl, Nat.le_of_ble_eq_true rfl⟩ ⟨Nat.le_refl 0, Nat.le_refl 0⟩ (Nat.le_of_ble_eq_true rfl) dX6_as_8 (fun H locs hW => ?_)
    refine lv_if_ne (tgt := 21) hx hb dX6_as_11 (by decide) (fun hc15 => ?_) (fun hc15 => ?_)
    · rw [if_neg hc15] at hm
      refine lv_aload_n hx hb dX6_as_21 rfl (lv_at hl 0 rfl) ?_
      refine gM_s C hW q787 dX6_as_22 ?_
      refine lv_bipush (v := 71) hx hb dX6_as_25 (by decide) ?_
      refine lv_iload_n hx hb dX6_as_27 rfl (lv_at hl 1 rfl) ?_
      refine lv_iadd hx hb dX6_as_28 ?_
      obtain ⟨hi16, hm⟩ := mi_ai hm
      refine lM_s C hW hi16 dX6_as_29 ?_
      refine lv_istore_n (lv' := [(3, .int (σ 0 (Int32.toNatClampNeg ((71 : Int32) + p1)))), (0, .ref (a 0)), (1, .int p1), (2, .int p2)]) hx hb dX6_as_30 rfl hl (by decide) rfl (fun ls hl => ?_)
      refine lv_iload_n hx hb dX6_as_31 rfl (lv_at hl 0 rfl) ?_
      refine lv_if_ge (tgt := 43) hx hb dX6_as_32 (by decide) (fun hc17 => ?_) (fun hc17 => ?_)
      · rw [if_pos hc17] at hm
        refine lv_aload_n hx hb dX6_as_43 rfl (lv_at hl 1 rfl) ?_
        refine lv_iload_n hx hb dX6_as_44 rfl (lv_at hl 0 rfl) ?_
        refine lv_iconst (v := 0) hx hb dX6_as_45 (by decide) ?_
        obtain ⟨v19, e18, hm⟩ := mi_bind hm
        refine cs_i (q0 := 0) (As := [.int (σ 0 (Int32.toNatClampNeg ((71 : Int32) + p1))), .int (0 : Int32)]) (rest := []) C hW (c_X6_its e18) kX6_its q887 rfl rfl rfl rfl rfl hl.1 ⟨Nat.le_of_ble_eq_true rfl, Nat.le_of_ble_eq_true rfl⟩ ⟨Nat.le_refl 0, Nat.le_refl 0⟩ (Nat.le_of_ble_eq_true rfl) dX6_as_46 (fun H locs hW => ?_)
        refine lv_istore (lv' := [(4, .int v19), (3, .int (σ 0 (Int32.toNatClampNeg ((71 : Int32) + p1)))), (0, .ref (a 0)), (1, .int p1), (2, .int p2)]) hx hb dX6_as_49 hl (by decide) rfl (fun ls hl => ?_)
        exact wX6_as_b51 C hr hlk FU σ p2 ((σ 0 (Int32.toNatClampNeg ((71 : Int32) + p1)))) v19 _ _ _ hm hW (lv_sub hl [2, 4, 1, 0] rfl)
      · rw [if_neg hc17] at hm
        refine lv_aload_n hx hb dX6_as_35 rfl (lv_at hl 1 rfl) ?_
        refine lv_ldcw hx hb C.2.2.2.1 (C.2.2.2.2.1 _ q1102) dX6_as_36 ?_
        obtain ⟨q21, e20, hm⟩ := mi_bind hm
        refine cs_i (q0 := 0) (As := [.int (-1000006 : Int32)]) (rest := []) C hW (c_X6_finds e20) kX6_finds q866 rfl rfl rfl rfl rfl hl.1 ⟨Nat.le_of_ble_eq_true rfl, Nat.le_of_ble_eq_true rfl⟩ ⟨Nat.le_refl 0, Nat.le_refl 0⟩ (Nat.le_of_ble_eq_true rfl) dX6_as_39 (fun H locs hW => ?_)
        obtain ⟨rfl, rfl⟩ := Prod.mk.inj (Option.some.inj hm)
        exact en_i C hr hlk hW dX6_as_42
    · rw [if_pos hc15] at hm
      exact wX6_as_b14 C hr hlk σ _ _ _ hm hW (lv_sub hl [0] rfl)
theorem kX6_as : KM yX6_as cX6_as 5 (some .int) 2 := ⟨q1238, q1239, q72, q1240, by decide +kernel, by decide +kernel, by decide +kernel⟩
def X6_sheet_b86 : Nat → MS → Int32 → Int32 → Option (Int32 × MS)
  | 0, _, _, _ => none
  | n + 1, σ, x1, x4 => if (40 : Int32) ≤ x4 then (ai x1 4 (some ((σ 19 (Int32.toNatClampNeg x1)), σ))) else (ai (((40 : Int32) * x1) + x4) 160 (X6_sheet_b86 n (su σ 20 (Int32.toNatClampNeg (((40 : Int32) * x1) + x4)) (0 : Int32)) x1 ((x4 + (1 : Int32)))))
set_option maxHeartbeats 4000000 in
set_option maxRecDepth 100000 in
theorem wX6_sheet_b86 {p : Program} {l : Launch} {e : Env} {s : State} {m : MethodId} {below : List Frame} {meth : Method} {c : Code} {D : va_G} {cy cz : ClassId} {G : GT} {A : Nat → Prop} {args : Array Value} {a : Nat → Nat} {r : Int32} {σr : MS} (C : Cx p s m args c cX6_sheet 5 "PumpTalkModel" D cy cz G A) (hr : meth.sig.returnType = some .int) (hlk : meth.locks = false) : ∀ (n : Nat) (σ : MS) (x1 : Int32) (x4 : Int32) (H : Heap) (locs : List Loc) (ls : Array Slot), X6_sheet_b86 n σ x1 x4 = some (r, σr) → Wd D A s.heap H locs (cM a cy σ) → lv_has ls 5 [(0, .ref (a 0)), (1, .int x1), (4, .int x4)] → W p l e (rmz 2 45) s m args below meth c H locs 0 0 (MQ below (QI D cy cz A (cM a cy σr) r) args s 0 0 A) (F0 m 86 ls []) := by
  have hx := C.1
  have hb := C.2.1
  intro n
  induction n with
  | zero =>
    intro σ x1 x4 H locs ls hm
    rw [X6_sheet_b86] at hm
    cases hm
  | succ n ih =>
    intro σ x1 x4 H locs ls hm hW hl
    rw [X6_sheet_b86] at hm
    refine lv_iload hx hb dX6_sheet_86 (lv_at hl 2 rfl) ?_
    refine lv_bipush (v := 40) hx hb dX6_sheet_88 (by decide) ?_
    refine lv_icmp_ge (tgt := 112) hx hb dX6_sheet_90 (by decide) (fun hc1 => ?_) (fun hc1 => ?_)
    · rw [if_pos hc1] at hm
      refine lv_aload_n hx hb dX6_sheet_112 rfl (lv_at hl 0 rfl) ?_
      refine gM_sizeOf C hW q806 dX6_sheet_113 ?_
      refine lv_iload_n hx hb dX6_sheet_116 rfl (lv_at hl 1 rfl) ?_
      obtain ⟨hi2, hm⟩ := mi_ai hm
      refine lM_sizeOf C hW hi2 dX6_sheet_117 ?_
      obtain ⟨rfl, rfl⟩ := Prod.mk.inj (Option.some.inj hm)
      exact en_i C hr hlk hW dX6_sheet_118
    · rw [if_neg hc1] at hm
      refine lv_aload_n hx hb dX6_sheet_93 rfl (lv_at hl 0 rfl) ?_
      refine gM_numbers C hW q807 dX6_sheet_94 ?_
      refine lv_bipush (v := 40) hx hb dX6_sheet_97 (by decide) ?_
      refine lv_iload_n hx hb dX6_sheet_99 rfl (lv_at hl 1 rfl) ?_
      refine lv_imul hx hb dX6_sheet_100 ?_
      refine lv_iload hx hb dX6_sheet_101 (lv_at hl 2 rfl) ?_
      refine lv_iadd hx hb dX6_sheet_103 ?_
      refine lv_iconst (v := 0) hx hb dX6_sheet_104 (by decide) ?_
      obtain ⟨hi3, hm⟩ := mi_ai hm
      refine tM_numbers C hW hi3 dX6_sheet_105 (fun H locs hW => ?_)
      refine lv_iinc (v := (x4 + (1 : Int32))) (lv' := [(4, .int (x4 + (1 : Int32))), (0, .ref (a 0)), (1, .int x1)]) hx hb dX6_sheet_106 hl (k := 2) rfl (congrArg (fun z : Int32 => x4 + z) (by decide)) (by decide) rfl (fun ls hl => ?_)
      refine lv_goto (tgt := 86) hx hb dX6_sheet_109 (by decide) ?_
      exact ih (su σ 20 (Int32.toNatClampNeg (((40 : Int32) * x1) + x4)) (0 : Int32)) x1 ((x4 + (1 : Int32))) _ _ _ hm hW (lv_sub hl [1, 2, 0] rfl)
def X6_sheet_b82 (σ : MS) (x1 : Int32) (y1 : Int32) (y2 : Int32) : Option (Int32 × MS) := ai y1 4 (X6_sheet_b86 FU (su σ 19 (Int32.toNatClampNeg y1) y2) x1 (0 : Int32))
set_option maxHeartbeats 4000000 in
set_option maxRecDepth 100000 in
theorem wX6_sheet_b82 {p : Program} {l : Launch} {e : Env} {s : State} {m : MethodId} {below : List Frame} {meth : Method} {c : Code} {D : va_G} {cy cz : ClassId} {G : GT} {A : Nat → Prop} {args : Array Value} {a : Nat → Nat} {r : Int32} {σr : MS} (C : Cx p s m args c cX6_sheet 5 "PumpTalkModel" D cy cz G A) (hr : meth.sig.returnType = some .int) (hlk : meth.locks = false) : ∀ (σ : MS) (x1 : Int32) (y1 : Int32) (y2 : Int32) (H : Heap) (locs : List Loc) (ls : Array Slot), X6_sheet_b82 σ x1 y1 y2 = some (r, σr) → Wd D A s.heap H locs (cM a cy σ) → lv_has ls 5 [(0, .ref (a 0)), (1, .int x1)] → W p l e (rmz 2 45) s m args below meth c H locs 0 0 (MQ below (QI D cy cz A (cM a cy σr) r) args s 0 0 A) (F0 m 82 ls [.int y2, .int y1, .ref (a 20)]) := by
  have hx := C.1
  have hb := C.2.1
  intro σ x1 y1 y2 H locs ls hm hW hl
  unfold X6_sheet_b82 at hm
  obtain ⟨hi4, hm⟩ := mi_ai hm
  refine tM_sizeOf C hW hi4 dX6_sheet_82 (fun H locs hW => ?_)
  refine lv_iconst (v := 0) hx hb dX6_sheet_83 (by decide) ?_
  refine lv_istore (lv' := [(4, .int (0 : Int32)), (0, .ref (a 0)), (1, .int x1)]) hx hb dX6_sheet_84 hl (by decide) rfl (fun ls hl => ?_)
  exact wX6_sheet_b86 C hr hlk FU (su σ 19 (Int32.toNatClampNeg y1) y2) x1 (0 : Int32) _ _ _ hm hW (lv_sub hl [1, 2, 0] rfl)
def X6_sheet_b36 (σ : MS) (x1 : Int32) (x2 : Int32) (x3 : Int32) : Option (Int32 × MS) := if (0 : Int32) ≤ x3 then (if x3 ≤ (40 : Int32) then (ai x1 4 (if x2 = (0 : Int32) then (X6_sheet_b82 (su σ 18 (Int32.toNatClampNeg x1) x2) x1 x1 (0 : Int32)) else (X6_sheet_b82 (su σ 18 (Int32.toNatClampNeg x1) x2) x1 x1 x3))) else ((X6_finds σ (-1000001 : Int32)).bind fun q10 => some (q10.1, q10.2))) else ((X6_finds σ (-1000007 : Int32)).bind fun q12 => some (q12.1, q12.2))
set_option maxHeartbeats 4000000 in
set_option maxRecDepth 100000 in
theorem wX6_sheet_b36 {p : Program} {l : Launch} {e : Env} {s : State} {m : MethodId} {below : List Frame} {meth : Method} {c : Code} {D : va_G} {cy cz : ClassId} {G : GT} {A : Nat → Prop} {args : Array Value} {a : Nat → Nat} {r : Int32} {σr : MS} (C : Cx p s m args c cX6_sheet 5 "PumpTalkModel" D cy cz G A) (hr : meth.sig.returnType = some .int) (hlk : meth.locks = false) : ∀ (σ : MS) (x1 : Int32) (x2 : Int32) (x3 : Int32) (H : Heap) (locs : List Loc) (ls : Array Slot), X6_sheet_b36 σ x1 x2 x3 = some (r, σr) → Wd D A s.heap H locs (cM a cy σ) → lv_has ls 5 [(0, .ref (a 0)), (1, .int x1), (2, .int x2), (3, .int x3)] → W p l e (rmz 2 45) s m args below meth c H locs 0 0 (MQ below (QI D cy cz A (cM a cy σr) r) args s 0 0 A) (F0 m 36 ls []) := by
  have hx := C.1
  have hb := C.2.1
  intro σ x1 x2 x3 H locs ls hm hW hl
  unfold X6_sheet_b36 at hm
  refine lv_iload_n hx hb dX6_sheet_36 rfl (lv_at hl 3 rfl) ?_
  refine lv_if_ge (tgt := 48) hx hb dX6_sheet_37 (by decide) (fun hc5 => ?_) (fun hc5 => ?_)
  · rw [if_pos hc5] at hm
    refine lv_iload_n hx hb dX6_sheet_48 rfl (lv_at hl 3 rfl) ?_
    refine lv_bipush (v := 40) hx hb dX6_sheet_49 (by decide) ?_
    refine lv_icmp_le (tgt := 61) hx hb dX6_sheet_51 (by decide) (fun hc6 => ?_) (fun hc6 => ?_)
    · rw [if_pos hc6] at hm
      refine lv_aload_n hx hb dX6_sheet_61 rfl (lv_at hl 0 rfl) ?_
      refine gM_bitsOf C hW q805 dX6_sheet_62 ?_
      refine lv_iload_n hx hb dX6_sheet_65 rfl (lv_at hl 1 rfl) ?_
      refine lv_iload_n hx hb dX6_sheet_66 rfl (lv_at hl 2 rfl) ?_
      obtain ⟨hi7, hm⟩ := mi_ai hm
      refine tM_bitsOf C hW hi7 dX6_sheet_67 (fun H locs hW => ?_)
      refine lv_aload_n hx hb dX6_sheet_68 rfl (lv_at hl 0 rfl) ?_
      refine gM_sizeOf C hW q806 dX6_sheet_69 ?_
      refine lv_iload_n hx hb dX6_sheet_72 rfl (lv_at hl 1 rfl) ?_
      refine lv_iload_n hx hb dX6_sheet_73 rfl (lv_at hl 2 rfl) ?_
      refine lv_if_ne (tgt := 81) hx hb dX6_sheet_74 (by decide) (fun hc8 => ?_) (fun hc8 => ?_)
      · rw [if_neg hc8] at hm
        refine lv_iload_n hx hb dX6_sheet_81 rfl (lv_at hl 3 rfl) ?_
        exact wX6_sheet_b82 C hr hlk (su σ 18 (Int32.toNatClampNeg x1) x2) x1 x1 x3 _ _ _ hm hW (lv_sub hl [0, 1] rfl)
      · rw [if_pos hc8] at hm
        refine lv_iconst (v := 0) hx hb dX6_sheet_77 (by decide) ?_
        refine lv_goto (tgt := 82) hx hb dX6_sheet_78 (by decide) ?_
        exact wX6_sheet_b82 C hr hlk (su σ 18 (Int32.toNatClampNeg x1) x2) x1 x1 (0 : Int32) _ _ _ hm hW (lv_sub hl [0, 1] rfl)
    · rw [if_neg hc6] at hm
      refine lv_aload_n hx hb dX6_sheet_54 rfl (lv_at hl 0 rfl) ?_
      refine lv_ldc hx hb C.2.2.2.1 (C.2.2.2.2.1 _ q865) dX6_sheet_55 ?_
      obtain ⟨q10, e9, hm⟩ := mi_bind hm
      refine cs_i (q0 := 0) (As := [.int (-1000001 : Int32)]) (rest := []) C hW (c_X6_finds e9) kX6_finds q866 rfl rfl rfl rfl rfl hl.1 ⟨Nat.le_of_ble_eq_true rfl, Nat.le_of_ble_eq_true rfl⟩ ⟨Nat.le_refl 0, Nat.le_refl 0⟩ (Nat.le_of_ble_eq_true rfl) dX6_sheet_57 (fun H locs hW => ?_)
      obtain ⟨rfl, rfl⟩ := Prod.mk.inj (Option.some.inj hm)
      exact en_i C hr hlk hW dX6_sheet_60
  · rw [if_neg hc5] at hm
    refine lv_aload_n hx hb dX6_sheet_40 rfl (lv_at hl 0 rfl) ?_
    refine lv_ldcw hx hb C.2.2.2.1 (C.2.2.2.2.1 _ q1249) dX6_sheet_41 ?_
    obtain ⟨q12, e11, hm⟩ := mi_bind hm
    refine cs_i (q0 := 0) (As := [.int (-1000007 : Int32)]) (rest := []) C hW (c_X6_finds e11) kX6_finds q866 rfl rfl rfl rfl rfl hl.1 ⟨Nat.le_of_ble_eq_true rfl, Nat.le_of_ble_eq_true rfl⟩ ⟨Nat.le_refl 0, Nat.le_refl 0⟩ (Nat.le_of_ble_eq_true rfl) dX6_sheet_44 (fun H locs hW => ?_)
    obtain ⟨rfl, rfl⟩ := Prod.mk.inj (Option.some.inj hm)
    exact en_i C hr hlk hW dX6_sheet_47
def X6_sheet_b29 (σ : MS) : Option (Int32 × MS) := (X6_finds σ (-1000001 : Int32)).bind fun q14 => some (q14.1, q14.2)
set_option maxHeartbeats 4000000 in
set_option maxRecDepth 100000 in
theorem wX6_sheet_b29 {p : Program} {l : Launch} {e : Env} {s : State} {m : MethodId} {below : List Frame} {meth : Method} {c : Code} {D : va_G} {cy cz : ClassId} {G : GT} {A : Nat → Prop} {args : Array Value} {a : Nat → Nat} {r : Int32} {σr : MS} (C : Cx p s m args c cX6_sheet 5 "PumpTalkModel" D cy cz G A) (hr : meth.sig.returnType = some .int) (hlk : meth.locks = false) : ∀ (σ : MS) (H : Heap) (locs : List Loc) (ls : Array Slot), X6_sheet_b29 σ = some (r, σr) → Wd D A s.heap H locs (cM a cy σ) → lv_has ls 5 [(0, .ref (a 0))] → W p l e (rmz 2 45) s m args below meth c H locs 0 0 (MQ below (QI D cy cz A (cM a cy σr) r) args s 0 0 A) (F0 m 29 ls []) := by
  have hx := C.1
  have hb := C.2.1
  intro σ H locs ls hm hW hl
  unfold X6_sheet_b29 at hm
  refine lv_aload_n hx hb dX6_sheet_29 rfl (lv_at hl 0 rfl) ?_
  refine lv_ldc hx hb C.2.2.2.1 (C.2.2.2.2.1 _ q865) dX6_sheet_30 ?_
  obtain ⟨q14, e13, hm⟩ := mi_bind hm
  refine cs_i (q0 := 0) (As := [.int (-1000001 : Int32)]) (rest := []) C hW (c_X6_finds e13) kX6_finds q866 rfl rfl rfl rfl rfl hl.1 ⟨Nat.le_of_ble_eq_true rfl, Nat.le_of_ble_eq_true rfl⟩ ⟨Nat.le_refl 0, Nat.le_refl 0⟩ (Nat.le_of_ble_eq_true rfl) dX6_sheet_32 (fun H locs hW => ?_)
  obtain ⟨rfl, rfl⟩ := Prod.mk.inj (Option.some.inj hm)
  exact en_i C hr hlk hW dX6_sheet_35
def X6_sheet (σ : MS) (p1 : Int32) (p2 : Int32) (p3 : Int32) : Option (Int32 × MS) := (X6_isOne p1).bind fun v16 => if v16 = (0 : Int32) then (X6_sheet_b29 σ) else (if p2 = (0 : Int32) then (X6_sheet_b36 σ p1 p2 p3) else (if p2 = (8 : Int32) then (X6_sheet_b36 σ p1 p2 p3) else (if p2 = (16 : Int32) then (X6_sheet_b36 σ p1 p2 p3) else (if p2 = (32 : Int32) then (X6_sheet_b36 σ p1 p2 p3) else (X6_sheet_b29 σ)))))
set_option maxHeartbeats 4000000 in
set_option maxRecDepth 100000 in
theorem c_X6_sheet {l : Launch} {D : va_G} {cy cz : ClassId} {G : GT} {a : Nat → Nat} {σ : MS} {p1 : Int32} {p2 : Int32} {p3 : Int32} {r : Int32} {σr : MS} (hm : X6_sheet σ p1 p2 p3 = some (r, σr)) : CtI l D cy cz G yX6_sheet cX6_sheet 5 (some .int) 2 45 [.ref (a 0), .int p1, .int p2, .int p3] (cM a cy σ) (cM a cy σr) r := by
  refine ct_i (own := "PumpTalkModel") (by decide) rfl (Nat.le_of_ble_eq_true rfl) ?_
  intro p e s m below meth c ls A C hr hlk hW hl
  have hx := C.1
  have hb := C.2.1
  have hl : lv_has ls 5 [(0, .ref (a 0)), (1, .int p1), (2, .int p2), (3, .int p3)] := hl
  unfold X6_sheet at hm
  refine lv_iload_n hx hb dX6_sheet_0 rfl (lv_at hl 1 rfl) ?_
  obtain ⟨v16, e15, hm⟩ := mi_bind hm
  refine cS_i (As := [.int p1]) (rest := []) C hW (c_X6_isOne e15) kX6_isOne q1098 rfl rfl hl.1 ⟨Nat.le_of_ble_eq_true rfl, Nat.le_of_ble_eq_true rfl⟩ ⟨Nat.le_refl 0, Nat.le_refl 0⟩ (Nat.le_of_ble_eq_true rfl) dX6_sheet_1 (fun H locs hW => ?_)
  refine lv_if_eq (tgt := 29) hx hb dX6_sheet_4 (by decide) (fun hc17 => ?_) (fun hc17 => ?_)
  · rw [if_pos hc17] at hm
    exact wX6_sheet_b29 C hr hlk σ _ _ _ hm hW (lv_sub hl [0] rfl)
  · rw [if_neg hc17] at hm
    refine lv_iload_n hx hb dX6_sheet_7 rfl (lv_at hl 2 rfl) ?_
    refine lv_if_eq (tgt := 36) hx hb dX6_sheet_8 (by decide) (fun hc18 => ?_) (fun hc18 => ?_)
    · rw [if_pos hc18] at hm
      exact wX6_sheet_b36 C hr hlk σ p1 p2 p3 _ _ _ hm hW (lv_sub hl [0, 1, 2, 3] rfl)
    · rw [if_neg hc18] at hm
      refine lv_iload_n hx hb dX6_sheet_11 rfl (lv_at hl 2 rfl) ?_
      refine lv_bipush (v := 8) hx hb dX6_sheet_12 (by decide) ?_
      refine lv_icmp_eq (tgt := 36) hx hb dX6_sheet_14 (by decide) (fun hc19 => ?_) (fun hc19 => ?_)
      · rw [if_pos hc19] at hm
        exact wX6_sheet_b36 C hr hlk σ p1 p2 p3 _ _ _ hm hW (lv_sub hl [0, 1, 2, 3] rfl)
      · rw [if_neg hc19] at hm
        refine lv_iload_n hx hb dX6_sheet_17 rfl (lv_at hl 2 rfl) ?_
        refine lv_bipush (v := 16) hx hb dX6_sheet_18 (by decide) ?_
        refine lv_icmp_eq (tgt := 36) hx hb dX6_sheet_20 (by decide) (fun hc20 => ?_) (fun hc20 => ?_)
        · rw [if_pos hc20] at hm
          exact wX6_sheet_b36 C hr hlk σ p1 p2 p3 _ _ _ hm hW (lv_sub hl [0, 1, 2, 3] rfl)
        · rw [if_neg hc20] at hm
          refine lv_iload_n hx hb dX6_sheet_23 rfl (lv_at hl 2 rfl) ?_
          refine lv_bipush (v := 32) hx hb dX6_sheet_24 (by decide) ?_
          refine lv_icmp_eq (tgt := 36) hx hb dX6_sheet_26 (by decide) (fun hc21 => ?_) (fun hc21 => ?_)
          · rw [if_pos hc21] at hm
            exact wX6_sheet_b36 C hr hlk σ p1 p2 p3 _ _ _ hm hW (lv_sub hl [0, 1, 2, 3] rfl)
          · rw [if_neg hc21] at hm
            exact wX6_sheet_b29 C hr hlk σ _ _ _ hm hW (lv_sub hl [0] rfl)
theorem kX6_sheet : KM yX6_sheet cX6_sheet 5 (some .int) 3 := ⟨q1246, q1247, q72, q1248, by decide +kernel, by decide +kernel, by decide +kernel⟩
def X6_narrowed (p1 : Int32) (p2 : Int32) : Option (Int32) := if p1 = (8 : Int32) then (some ((Int32.toInt8 p2).toInt32)) else (if p1 = (16 : Int32) then (some ((Int32.toInt16 p2).toInt32)) else (some p2))
set_option maxHeartbeats 4000000 in
set_option maxRecDepth 100000 in
theorem c_X6_narrowed {l : Launch} {D : va_G} {cy cz : ClassId} {G : GT} {p1 : Int32} {p2 : Int32} {r : Int32} (hm : X6_narrowed p1 p2 = some r) : CtI l D cy cz G yX6_narrowed cX6_narrowed 2 (some .int) 0 0 [.int p1, .int p2] ([] : va_W) ([] : va_W) r := by
  refine ct_i (own := "PumpTalkModel") (by decide) rfl (Nat.le_of_ble_eq_true rfl) ?_
  intro p e s m below meth c ls A C hr hlk hW hl
  have hx := C.1
  have hb := C.2.1
  have hl : lv_has ls 2 [(0, .int p1), (1, .int p2)] := hl
  unfold X6_narrowed at hm
  refine lv_iload_n hx hb dX6_narrowed_0 rfl (lv_at hl 0 rfl) ?_
  refine lv_bipush (v := 8) hx hb dX6_narrowed_1 (by decide) ?_
  refine lv_icmp_ne (tgt := 11) hx hb dX6_narrowed_3 (by decide) (fun hc1 => ?_) (fun hc1 => ?_)
  · rw [if_neg hc1] at hm
    refine lv_iload_n hx hb dX6_narrowed_11 rfl (lv_at hl 0 rfl) ?_
    refine lv_bipush (v := 16) hx hb dX6_narrowed_12 (by decide) ?_
    refine lv_icmp_ne (tgt := 22) hx hb dX6_narrowed_14 (by decide) (fun hc2 => ?_) (fun hc2 => ?_)
    · rw [if_neg hc2] at hm
      refine lv_iload_n hx hb dX6_narrowed_22 rfl (lv_at hl 1 rfl) ?_
      obtain rfl := Option.some.inj hm
      exact en_i C hr hlk hW dX6_narrowed_23
    · rw [if_pos hc2] at hm
      refine lv_iload_n hx hb dX6_narrowed_17 rfl (lv_at hl 1 rfl) ?_
      refine lv_i2s hx hb dX6_narrowed_18 rfl ?_
      refine lv_goto (tgt := 23) hx hb dX6_narrowed_19 (by decide) ?_
      obtain rfl := Option.some.inj hm
      exact en_i C hr hlk hW dX6_narrowed_23
  · rw [if_pos hc1] at hm
    refine lv_iload_n hx hb dX6_narrowed_6 rfl (lv_at hl 1 rfl) ?_
    refine lv_i2b hx hb dX6_narrowed_7 rfl ?_
    refine lv_goto (tgt := 23) hx hb dX6_narrowed_8 (by decide) ?_
    obtain rfl := Option.some.inj hm
    exact en_i C hr hlk hW dX6_narrowed_23
theorem kX6_narrowed : KS yX6_narrowed cX6_narrowed 2 (some .int) 2 := ⟨q1255, q72, q1256, by decide +kernel, by decide +kernel, by decide +kernel⟩
def X6_write (σ : MS) (p1 : Int32) (p2 : Int32) (p3 : Int32) : Option (Int32 × MS) := (X6_wrong σ p1).bind fun v2 => if v2 = (0 : Int32) then (ai p1 4 ((X6_in (Int32.toInt64 p2) (0 : Int64) (Int32.toInt64 ((σ 19 (Int32.toNatClampNeg p1)) - (1 : Int32)))).bind fun v6 => if v6 = (0 : Int32) then ((X6_finds σ (-1000001 : Int32)).bind fun q13 => some (q13.1, q13.2)) else (ai p1 4 ((X6_narrowed (σ 18 (Int32.toNatClampNeg p1)) p3).bind fun v10 => ai (((40 : Int32) * p1) + p2) 160 (some ((1 : Int32), su σ 20 (Int32.toNatClampNeg (((40 : Int32) * p1) + p2)) v10)))))) else ((X6_finds σ v2).bind fun q15 => some (q15.1, q15.2))
set_option maxHeartbeats 4000000 in
set_option maxRecDepth 100000 in
theorem c_X6_write {l : Launch} {D : va_G} {cy cz : ClassId} {G : GT} {a : Nat → Nat} {σ : MS} {p1 : Int32} {p2 : Int32} {p3 : Int32} {r : Int32} {σr : MS} (hm : X6_write σ p1 p2 p3 = some (r, σr)) : CtI l D cy cz G yX6_write cX6_write 5 (some .int) 3 66 [.ref (a 0), .int p1, .int p2, .int p3] (cM a cy σ) (cM a cy σr) r := by
  refine ct_i (own := "PumpTalkModel") (by decide) rfl (Nat.le_of_ble_eq_true rfl) ?_
  intro p e s m below meth c ls A C hr hlk hW hl
  have hx := C.1
  have hb := C.2.1
  have hl : lv_has ls 5 [(0, .ref (a 0)), (1, .int p1), (2, .int p2), (3, .int p3)] := hl
  unfold X6_write at hm
  refine lv_aload_n hx hb dX6_write_0 rfl (lv_at hl 0 rfl) ?_
  refine lv_iload_n hx hb dX6_write_1 rfl (lv_at hl 1 rfl) ?_
  obtain ⟨v2, e1, hm⟩ := mi_bind hm
  refine cs_i (q0 := 0) (As := [.int p1]) (rest := []) C hW (c_X6_wrong e1) kX6_wrong q1094 rfl rfl rfl rfl rfl hl.1 ⟨Nat.le_of_ble_eq_true rfl, Nat.le_of_ble_eq_true rfl⟩ ⟨Nat.le_refl 0, Nat.le_refl 0⟩ (Nat.le_of_ble_eq_true rfl) dX6_write_2 (fun H locs hW => ?_)
  refine lv_istore (lv' := [(4, .int v2), (0, .ref (a 0)), (1, .int p1), (2, .int p2), (3, .int p3)]) hx hb dX6_write_5 hl (by decide) rfl (fun ls hl => ?_)
  refine lv_iload hx hb dX6_write_7 (lv_at hl 0 rfl) ?_
  refine lv_if_eq (tgt := 19) hx hb dX6_write_9 (by decide) (fun hc3 => ?_) (fun hc3 => ?_)
  · rw [if_pos hc3] at hm
    refine lv_iload_n hx hb dX6_write_19 rfl (lv_at hl 3 rfl) ?_
    refine lv_i2l hx hb dX6_write_20 rfl ?_
    refine lv_lconst (v := 0) hx hb dX6_write_21 (by decide) ?_
    refine lv_aload_n hx hb dX6_write_22 rfl (lv_at hl 1 rfl) ?_
    refine gM_sizeOf C hW q806 dX6_write_23 ?_
    refine lv_iload_n hx hb dX6_write_26 rfl (lv_at hl 2 rfl) ?_
    obtain ⟨hi4, hm⟩ := mi_ai hm
    refine lM_sizeOf C hW hi4 dX6_write_27 ?_
    refine lv_iconst (v := 1) hx hb dX6_write_28 (by decide) ?_
    refine lv_isub hx hb dX6_write_29 ?_
    refine lv_i2l hx hb dX6_write_30 rfl ?_
    obtain ⟨v6, e5, hm⟩ := mi_bind hm
    refine cS_i (As := [.long (Int32.toInt64 p2), .long (0 : Int64), .long (Int32.toInt64 ((σ 19 (Int32.toNatClampNeg p1)) - (1 : Int32)))]) (rest := []) C hW (c_X6_in e5) kX6_in q862 rfl rfl hl.1 ⟨Nat.le_of_ble_eq_true rfl, Nat.le_of_ble_eq_true rfl⟩ ⟨Nat.le_refl 0, Nat.le_refl 0⟩ (Nat.le_of_ble_eq_true rfl) dX6_write_31 (fun H locs hW => ?_)
    refine lv_if_ne (tgt := 44) hx hb dX6_write_34 (by decide) (fun hc7 => ?_) (fun hc7 => ?_)
    · rw [if_neg hc7] at hm
      refine lv_aload_n hx hb dX6_write_44 rfl (lv_at hl 1 rfl) ?_
      refine gM_numbers C hW q807 dX6_write_45 ?_
      refine lv_bipush (v := 40) hx hb dX6_write_48 (by decide) ?_
      refine lv_iload_n hx hb dX6_write_50 rfl (lv_at hl 2 rfl) ?_
      refine lv_imul hx hb dX6_write_51 ?_
      refine lv_iload_n hx hb dX6_write_52 rfl (lv_at hl 3 rfl) ?_
      refine lv_iadd hx hb dX6_write_53 ?_
      refine lv_aload_n hx hb dX6_write_54 rfl (lv_at hl 1 rfl) ?_
      refine gM_bitsOf C hW q805 dX6_write_55 ?_
      refine lv_iload_n hx hb dX6_write_58 rfl (lv_at hl 2 rfl) ?_
      obtain ⟨hi8, hm⟩ := mi_ai hm
      refine lM_bitsOf C hW hi8 dX6_write_59 ?_
      refine lv_iload_n hx hb dX6_write_60 rfl (lv_at hl 4 rfl) ?_
      obtain ⟨v10, e9, hm⟩ := mi_bind hm
      refine cS_i (As := [.int (σ 18 (Int32.toNatClampNeg p1)), .int p3]) (rest := [.int (((40 : Int32) * p1) + p2), .ref (a 21)]) C hW (c_X6_narrowed e9) kX6_narrowed q1254 rfl rfl hl.1 ⟨Nat.le_of_ble_eq_true rfl, Nat.le_of_ble_eq_true rfl⟩ ⟨Nat.le_refl 0, Nat.le_refl 0⟩ (Nat.le_of_ble_eq_true rfl) dX6_write_61 (fun H locs hW => ?_)
      obtain ⟨hi11, hm⟩ := mi_ai hm
      refine tM_numbers C hW hi11 dX6_write_64 (fun H locs hW => ?_)
      refine lv_iconst (v := 1) hx hb dX6_write_65 (by decide) ?_
      obtain ⟨rfl, rfl⟩ := Prod.mk.inj (Option.some.inj hm)
      exact en_i C hr hlk hW dX6_write_66
    · rw [if_pos hc7] at hm
      refine lv_aload_n hx hb dX6_write_37 rfl (lv_at hl 1 rfl) ?_
      refine lv_ldc hx hb C.2.2.2.1 (C.2.2.2.2.1 _ q865) dX6_write_38 ?_
      obtain ⟨q13, e12, hm⟩ := mi_bind hm
      refine cs_i (q0 := 0) (As := [.int (-1000001 : Int32)]) (rest := []) C hW (c_X6_finds e12) kX6_finds q866 rfl rfl rfl rfl rfl hl.1 ⟨Nat.le_of_ble_eq_true rfl, Nat.le_of_ble_eq_true rfl⟩ ⟨Nat.le_refl 0, Nat.le_refl 0⟩ (Nat.le_of_ble_eq_true rfl) dX6_write_40 (fun H locs hW => ?_)
      obtain ⟨rfl, rfl⟩ := Prod.mk.inj (Option.some.inj hm)
      exact en_i C hr hlk hW dX6_write_43
  · rw [if_neg hc3] at hm
    refine lv_aload_n hx hb dX6_write_12 rfl (lv_at hl 1 rfl) ?_
    refine lv_iload hx hb dX6_write_13 (lv_at hl 0 rfl) ?_
    obtain ⟨q15, e14, hm⟩ := mi_bind hm
    refine cs_i (q0 := 0) (As := [.int v2]) (rest := []) C hW (c_X6_finds e14) kX6_finds q866 rfl rfl rfl rfl rfl hl.1 ⟨Nat.le_of_ble_eq_true rfl, Nat.le_of_ble_eq_true rfl⟩ ⟨Nat.le_refl 0, Nat.le_refl 0⟩ (Nat.le_of_ble_eq_true rfl) dX6_write_15 (fun H locs hW => ?_)
    obtain ⟨rfl, rfl⟩ := Prod.mk.inj (Option.some.inj hm)
    exact en_i C hr hlk hW dX6_write_18
theorem kX6_write : KM yX6_write cX6_write 5 (some .int) 3 := ⟨q1251, q1252, q72, q1253, by decide +kernel, by decide +kernel, by decide +kernel⟩
def X6_copy_b158 : Nat → MS → Int32 → Int32 → Int32 → Int32 → Option (Int32 × MS)
  | 0, _, _, _, _, _ => none
  | n + 1, σ, x3, x4, x5, x6 => if x5 ≤ x6 then (some (x5, σ)) else (ai x6 40 (ai ((((40 : Int32) * x3) + x4) + x6) 160 (X6_copy_b158 n (su σ 20 (Int32.toNatClampNeg ((((40 : Int32) * x3) + x4) + x6)) (σ 21 (Int32.toNatClampNeg x6))) x3 x4 x5 ((x6 + (1 : Int32))))))
set_option maxHeartbeats 4000000 in
set_option maxRecDepth 100000 in
theorem wX6_copy_b158 {p : Program} {l : Launch} {e : Env} {s : State} {m : MethodId} {below : List Frame} {meth : Method} {c : Code} {D : va_G} {cy cz : ClassId} {G : GT} {A : Nat → Prop} {args : Array Value} {a : Nat → Nat} {r : Int32} {σr : MS} (C : Cx p s m args c cX6_copy 7 "PumpTalkModel" D cy cz G A) (hr : meth.sig.returnType = some .int) (hlk : meth.locks = false) : ∀ (n : Nat) (σ : MS) (x3 : Int32) (x4 : Int32) (x5 : Int32) (x6 : Int32) (H : Heap) (locs : List Loc) (ls : Array Slot), X6_copy_b158 n σ x3 x4 x5 x6 = some (r, σr) → Wd D A s.heap H locs (cM a cy σ) → lv_has ls 7 [(0, .ref (a 0)), (3, .int x3), (4, .int x4), (5, .int x5), (6, .int x6)] → W p l e (rmz 2 45) s m args below meth c H locs 0 0 (MQ below (QI D cy cz A (cM a cy σr) r) args s 0 0 A) (F0 m 158 ls []) := by
  have hx := C.1
  have hb := C.2.1
  intro n
  induction n with
  | zero =>
    intro σ x3 x4 x5 x6 H locs ls hm
    rw [X6_copy_b158] at hm
    cases hm
  | succ n ih =>
    intro σ x3 x4 x5 x6 H locs ls hm hW hl
    rw [X6_copy_b158] at hm
    refine lv_iload hx hb dX6_copy_158 (lv_at hl 4 rfl) ?_
    refine lv_iload hx hb dX6_copy_160 (lv_at hl 3 rfl) ?_
    refine lv_icmp_ge (tgt := 193) hx hb dX6_copy_162 (by decide) (fun hc1 => ?_) (fun hc1 => ?_)
    · rw [if_pos hc1] at hm
      refine lv_iload hx hb dX6_copy_193 (lv_at hl 3 rfl) ?_
      obtain ⟨rfl, rfl⟩ := Prod.mk.inj (Option.some.inj hm)
      exact en_i C hr hlk hW dX6_copy_195
    · rw [if_neg hc1] at hm
      refine lv_aload_n hx hb dX6_copy_165 rfl (lv_at hl 0 rfl) ?_
      refine gM_numbers C hW q807 dX6_copy_166 ?_
      refine lv_bipush (v := 40) hx hb dX6_copy_169 (by decide) ?_
      refine lv_iload_n hx hb dX6_copy_171 rfl (lv_at hl 1 rfl) ?_
      refine lv_imul hx hb dX6_copy_172 ?_
      refine lv_iload hx hb dX6_copy_173 (lv_at hl 2 rfl) ?_
      refine lv_iadd hx hb dX6_copy_175 ?_
      refine lv_iload hx hb dX6_copy_176 (lv_at hl 4 rfl) ?_
      refine lv_iadd hx hb dX6_copy_178 ?_
      refine lv_aload_n hx hb dX6_copy_179 rfl (lv_at hl 0 rfl) ?_
      refine gM_moved C hW q808 dX6_copy_180 ?_
      refine lv_iload hx hb dX6_copy_183 (lv_at hl 4 rfl) ?_
      obtain ⟨hi2, hm⟩ := mi_ai hm
      refine lM_moved C hW hi2 dX6_copy_185 ?_
      obtain ⟨hi3, hm⟩ := mi_ai hm
      refine tM_numbers C hW hi3 dX6_copy_186 (fun H locs hW => ?_)
      refine lv_iinc (v := (x6 + (1 : Int32))) (lv' := [(6, .int (x6 + (1 : Int32))), (0, .ref (a 0)), (3, .int x3), (4, .int x4), (5, .int x5)]) hx hb dX6_copy_187 hl (k := 4) rfl (congrArg (fun z : Int32 => x6 + z) (by decide)) (by decide) rfl (fun ls hl => ?_)
      refine lv_goto (tgt := 158) hx hb dX6_copy_190 (by decide) ?_
      exact ih (su σ 20 (Int32.toNatClampNeg ((((40 : Int32) * x3) + x4) + x6)) (σ 21 (Int32.toNatClampNeg x6))) x3 x4 x5 ((x6 + (1 : Int32))) _ _ _ hm hW (lv_sub hl [1, 2, 3, 4, 0] rfl)
def X6_copy_b121 : Nat → MS → Int32 → Int32 → Int32 → Int32 → Int32 → Int32 → Option (Int32 × MS)
  | 0, _, _, _, _, _, _, _ => none
  | n + 1, σ, x1, x2, x3, x4, x5, x6 => if x5 ≤ x6 then (X6_copy_b158 FU σ x3 x4 x5 (0 : Int32)) else (ai ((((40 : Int32) * x1) + x2) + x6) 160 (ai x6 40 (X6_copy_b121 n (su σ 21 (Int32.toNatClampNeg x6) (σ 20 (Int32.toNatClampNeg ((((40 : Int32) * x1) + x2) + x6)))) x1 x2 x3 x4 x5 ((x6 + (1 : Int32))))))
set_option maxHeartbeats 4000000 in
set_option maxRecDepth 100000 in
theorem wX6_copy_b121 {p : Program} {l : Launch} {e : Env} {s : State} {m : MethodId} {below : List Frame} {meth : Method} {c : Code} {D : va_G} {cy cz : ClassId} {G : GT} {A : Nat → Prop} {args : Array Value} {a : Nat → Nat} {r : Int32} {σr : MS} (C : Cx p s m args c cX6_copy 7 "PumpTalkModel" D cy cz G A) (hr : meth.sig.returnType = some .int) (hlk : meth.locks = false) : ∀ (n : Nat) (σ : MS) (x1 : Int32) (x2 : Int32) (x3 : Int32) (x4 : Int32) (x5 : Int32) (x6 : Int32) (H : Heap) (locs : List Loc) (ls : Array Slot), X6_copy_b121 n σ x1 x2 x3 x4 x5 x6 = some (r, σr) → Wd D A s.heap H locs (cM a cy σ) → lv_has ls 7 [(0, .ref (a 0)), (1, .int x1), (2, .int x2), (3, .int x3), (4, .int x4), (5, .int x5), (6, .int x6)] → W p l e (rmz 2 45) s m args below meth c H locs 0 0 (MQ below (QI D cy cz A (cM a cy σr) r) args s 0 0 A) (F0 m 121 ls []) := by
  have hx := C.1
  have hb := C.2.1
  intro n
  induction n with
  | zero =>
    intro σ x1 x2 x3 x4 x5 x6 H locs ls hm
    rw [X6_copy_b121] at hm
    cases hm
  | succ n ih =>
    intro σ x1 x2 x3 x4 x5 x6 H locs ls hm hW hl
    rw [X6_copy_b121] at hm
    refine lv_iload hx hb dX6_copy_121 (lv_at hl 6 rfl) ?_
    refine lv_iload hx hb dX6_copy_123 (lv_at hl 5 rfl) ?_
    refine lv_icmp_ge (tgt := 155) hx hb dX6_copy_125 (by decide) (fun hc4 => ?_) (fun hc4 => ?_)
    · rw [if_pos hc4] at hm
      refine lv_iconst (v := 0) hx hb dX6_copy_155 (by decide) ?_
      refine lv_istore (lv' := [(6, .int (0 : Int32)), (0, .ref (a 0)), (1, .int x1), (2, .int x2), (3, .int x3), (4, .int x4), (5, .int x5)]) hx hb dX6_copy_156 hl (by decide) rfl (fun ls hl => ?_)
      exact wX6_copy_b158 C hr hlk FU σ x3 x4 x5 (0 : Int32) _ _ _ hm hW (lv_sub hl [1, 4, 5, 6, 0] rfl)
    · rw [if_neg hc4] at hm
      refine lv_aload_n hx hb dX6_copy_128 rfl (lv_at hl 0 rfl) ?_
      refine gM_moved C hW q808 dX6_copy_129 ?_
      refine lv_iload hx hb dX6_copy_132 (lv_at hl 6 rfl) ?_
      refine lv_aload_n hx hb dX6_copy_134 rfl (lv_at hl 0 rfl) ?_
      refine gM_numbers C hW q807 dX6_copy_135 ?_
      refine lv_bipush (v := 40) hx hb dX6_copy_138 (by decide) ?_
      refine lv_iload_n hx hb dX6_copy_140 rfl (lv_at hl 1 rfl) ?_
      refine lv_imul hx hb dX6_copy_141 ?_
      refine lv_iload_n hx hb dX6_copy_142 rfl (lv_at hl 2 rfl) ?_
      refine lv_iadd hx hb dX6_copy_143 ?_
      refine lv_iload hx hb dX6_copy_144 (lv_at hl 6 rfl) ?_
      refine lv_iadd hx hb dX6_copy_146 ?_
      obtain ⟨hi5, hm⟩ := mi_ai hm
      refine lM_numbers C hW hi5 dX6_copy_147 ?_
      obtain ⟨hi6, hm⟩ := mi_ai hm
      refine tM_moved C hW hi6 dX6_copy_148 (fun H locs hW => ?_)
      refine lv_iinc (v := (x6 + (1 : Int32))) (lv' := [(6, .int (x6 + (1 : Int32))), (0, .ref (a 0)), (1, .int x1), (2, .int x2), (3, .int x3), (4, .int x4), (5, .int x5)]) hx hb dX6_copy_149 hl (k := 6) rfl (congrArg (fun z : Int32 => x6 + z) (by decide)) (by decide) rfl (fun ls hl => ?_)
      refine lv_goto (tgt := 121) hx hb dX6_copy_152 (by decide) ?_
      exact ih (su σ 21 (Int32.toNatClampNeg x6) (σ 20 (Int32.toNatClampNeg ((((40 : Int32) * x1) + x2) + x6)))) x1 x2 x3 x4 x5 ((x6 + (1 : Int32))) _ _ _ hm hW (lv_sub hl [1, 2, 3, 4, 5, 6, 0] rfl)
def X6_copy_b111 (σ : MS) : Option (Int32 × MS) := (X6_finds σ (-1000001 : Int32)).bind fun q8 => some (q8.1, q8.2)
set_option maxHeartbeats 4000000 in
set_option maxRecDepth 100000 in
theorem wX6_copy_b111 {p : Program} {l : Launch} {e : Env} {s : State} {m : MethodId} {below : List Frame} {meth : Method} {c : Code} {D : va_G} {cy cz : ClassId} {G : GT} {A : Nat → Prop} {args : Array Value} {a : Nat → Nat} {r : Int32} {σr : MS} (C : Cx p s m args c cX6_copy 7 "PumpTalkModel" D cy cz G A) (hr : meth.sig.returnType = some .int) (hlk : meth.locks = false) : ∀ (σ : MS) (H : Heap) (locs : List Loc) (ls : Array Slot), X6_copy_b111 σ = some (r, σr) → Wd D A s.heap H locs (cM a cy σ) → lv_has ls 7 [(0, .ref (a 0))] → W p l e (rmz 2 45) s m args below meth c H locs 0 0 (MQ below (QI D cy cz A (cM a cy σr) r) args s 0 0 A) (F0 m 111 ls []) := by
  have hx := C.1
  have hb := C.2.1
  intro σ H locs ls hm hW hl
  unfold X6_copy_b111 at hm
  refine lv_aload_n hx hb dX6_copy_111 rfl (lv_at hl 0 rfl) ?_
  refine lv_ldc hx hb C.2.2.2.1 (C.2.2.2.2.1 _ q865) dX6_copy_112 ?_
  obtain ⟨q8, e7, hm⟩ := mi_bind hm
  refine cs_i (q0 := 0) (As := [.int (-1000001 : Int32)]) (rest := []) C hW (c_X6_finds e7) kX6_finds q866 rfl rfl rfl rfl rfl hl.1 ⟨Nat.le_of_ble_eq_true rfl, Nat.le_of_ble_eq_true rfl⟩ ⟨Nat.le_refl 0, Nat.le_refl 0⟩ (Nat.le_of_ble_eq_true rfl) dX6_copy_114 (fun H locs hW => ?_)
  obtain ⟨rfl, rfl⟩ := Prod.mk.inj (Option.some.inj hm)
  exact en_i C hr hlk hW dX6_copy_117
def X6_copy_b39 (σ : MS) : Option (Int32 × MS) := (X6_finds σ (-1000006 : Int32)).bind fun q10 => some (q10.1, q10.2)
set_option maxHeartbeats 4000000 in
set_option maxRecDepth 100000 in
theorem wX6_copy_b39 {p : Program} {l : Launch} {e : Env} {s : State} {m : MethodId} {below : List Frame} {meth : Method} {c : Code} {D : va_G} {cy cz : ClassId} {G : GT} {A : Nat → Prop} {args : Array Value} {a : Nat → Nat} {r : Int32} {σr : MS} (C : Cx p s m args c cX6_copy 7 "PumpTalkModel" D cy cz G A) (hr : meth.sig.returnType = some .int) (hlk : meth.locks = false) : ∀ (σ : MS) (H : Heap) (locs : List Loc) (ls : Array Slot), X6_copy_b39 σ = some (r, σr) → Wd D A s.heap H locs (cM a cy σ) → lv_has ls 7 [(0, .ref (a 0))] → W p l e (rmz 2 45) s m args below meth c H locs 0 0 (MQ below (QI D cy cz A (cM a cy σr) r) args s 0 0 A) (F0 m 39 ls []) := by
  have hx := C.1
  have hb := C.2.1
  intro σ H locs ls hm hW hl
  unfold X6_copy_b39 at hm
  refine lv_aload_n hx hb dX6_copy_39 rfl (lv_at hl 0 rfl) ?_
  refine lv_ldcw hx hb C.2.2.2.1 (C.2.2.2.2.1 _ q1102) dX6_copy_40 ?_
  obtain ⟨q10, e9, hm⟩ := mi_bind hm
  refine cs_i (q0 := 0) (As := [.int (-1000006 : Int32)]) (rest := []) C hW (c_X6_finds e9) kX6_finds q866 rfl rfl rfl rfl rfl hl.1 ⟨Nat.le_of_ble_eq_true rfl, Nat.le_of_ble_eq_true rfl⟩ ⟨Nat.le_refl 0, Nat.le_refl 0⟩ (Nat.le_of_ble_eq_true rfl) dX6_copy_43 (fun H locs hW => ?_)
  obtain ⟨rfl, rfl⟩ := Prod.mk.inj (Option.some.inj hm)
  exact en_i C hr hlk hW dX6_copy_46
def X6_copy_b14 (σ : MS) : Option (Int32 × MS) := (X6_finds σ (-1000001 : Int32)).bind fun q12 => some (q12.1, q12.2)
set_option maxHeartbeats 4000000 in
set_option maxRecDepth 100000 in
theorem wX6_copy_b14 {p : Program} {l : Launch} {e : Env} {s : State} {m : MethodId} {below : List Frame} {meth : Method} {c : Code} {D : va_G} {cy cz : ClassId} {G : GT} {A : Nat → Prop} {args : Array Value} {a : Nat → Nat} {r : Int32} {σr : MS} (C : Cx p s m args c cX6_copy 7 "PumpTalkModel" D cy cz G A) (hr : meth.sig.returnType = some .int) (hlk : meth.locks = false) : ∀ (σ : MS) (H : Heap) (locs : List Loc) (ls : Array Slot), X6_copy_b14 σ = some (r, σr) → Wd D A s.heap H locs (cM a cy σ) → lv_has ls 7 [(0, .ref (a 0))] → W p l e (rmz 2 45) s m args below meth c H locs 0 0 (MQ below (QI D cy cz A (cM a cy σr) r) args s 0 0 A) (F0 m 14 ls []) := by
  have hx := C.1
  have hb := C.2.1
  intro σ H locs ls hm hW hl
  unfold X6_copy_b14 at hm
  refine lv_aload_n hx hb dX6_copy_14 rfl (lv_at hl 0 rfl) ?_
  refine lv_ldc hx hb C.2.2.2.1 (C.2.2.2.2.1 _ q865) dX6_copy_15 ?_
  obtain ⟨q12, e11, hm⟩ := mi_bind hm
  refine cs_i (q0 := 0) (As := [.int (-1000001 : Int32)]) (rest := []) C hW (c_X6_finds e11) kX6_finds q866 rfl rfl rfl rfl rfl hl.1 ⟨Nat.le_of_ble_eq_true rfl, Nat.le_of_ble_eq_true rfl⟩ ⟨Nat.le_refl 0, Nat.le_refl 0⟩ (Nat.le_of_ble_eq_true rfl) dX6_copy_17 (fun H locs hW => ?_)
  obtain ⟨rfl, rfl⟩ := Prod.mk.inj (Option.some.inj hm)
  exact en_i C hr hlk hW dX6_copy_20
def X6_copy (σ : MS) (p1 : Int32) (p2 : Int32) (p3 : Int32) (p4 : Int32) (p5 : Int32) : Option (Int32 × MS) := (X6_isOne p1).bind fun v14 => if v14 = (0 : Int32) then (X6_copy_b14 σ) else ((X6_isOne p3).bind fun v17 => if v17 = (0 : Int32) then (X6_copy_b14 σ) else (ai p1 4 (if (σ 18 (Int32.toNatClampNeg p1)) = (0 : Int32) then (X6_copy_b39 σ) else (ai p3 4 (if (σ 18 (Int32.toNatClampNeg p3)) = (0 : Int32) then (X6_copy_b39 σ) else (ai p1 4 (ai p3 4 (if (σ 18 (Int32.toNatClampNeg p1)) = (σ 18 (Int32.toNatClampNeg p3)) then (if p2 < (0 : Int32) then (X6_copy_b111 σ) else (if p4 < (0 : Int32) then (X6_copy_b111 σ) else (if p5 < (0 : Int32) then (X6_copy_b111 σ) else (ai p1 4 (if ((σ 19 (Int32.toNatClampNeg p1)) - p2) < p5 then (X6_copy_b111 σ) else (ai p3 4 (if p5 ≤ ((σ 19 (Int32.toNatClampNeg p3)) - p4) then (X6_copy_b121 FU σ p1 p2 p3 p4 p5 (0 : Int32)) else (X6_copy_b111 σ)))))))) else ((X6_finds σ (-1000003 : Int32)).bind fun q34 => some (q34.1, q34.2))))))))))
set_option maxHeartbeats 4000000 in
set_option maxRecDepth 100000 in
theorem c_X6_copy {l : Launch} {D : va_G} {cy cz : ClassId} {G : GT} {a : Nat → Nat} {σ : MS} {p1 : Int32} {p2 : Int32} {p3 : Int32} {p4 : Int32} {p5 : Int32} {r : Int32} {σr : MS} (hm : X6_copy σ p1 p2 p3 p4 p5 = some (r, σr)) : CtI l D cy cz G yX6_copy cX6_copy 7 (some .int) 2 45 [.ref (a 0), .int p1, .int p2, .int p3, .int p4, .int p5] (cM a cy σ) (cM a cy σr) r := by
  refine ct_i (own := "PumpTalkModel") (by decide) rfl (Nat.le_of_ble_eq_true rfl) ?_
  intro p e s m below meth c ls A C hr hlk hW hl
  have hx := C.1
  have hb := C.2.1
  have hl : lv_has ls 7 [(0, .ref (a 0)), (1, .int p1), (2, .int p2), (3, .int p3), (4, .int p4), (5, .int p5)] := hl
  unfold X6_copy at hm
  refine lv_iload_n hx hb dX6_copy_0 rfl (lv_at hl 1 rfl) ?_
  obtain ⟨v14, e13, hm⟩ := mi_bind hm
  refine cS_i (As := [.int p1]) (rest := []) C hW (c_X6_isOne e13) kX6_isOne q1098 rfl rfl hl.1 ⟨Nat.le_of_ble_eq_true rfl, Nat.le_of_ble_eq_true rfl⟩ ⟨Nat.le_refl 0, Nat.le_refl 0⟩ (Nat.le_of_ble_eq_true rfl) dX6_copy_1 (fun H locs hW => ?_)
  refine lv_if_eq (tgt := 14) hx hb dX6_copy_4 (by decide) (fun hc15 => ?_) (fun hc15 => ?_)
  · rw [if_pos hc15] at hm
    exact wX6_copy_b14 C hr hlk σ _ _ _ hm hW (lv_sub hl [0] rfl)
  · rw [if_neg hc15] at hm
    refine lv_iload_n hx hb dX6_copy_7 rfl (lv_at hl 3 rfl) ?_
    obtain ⟨v17, e16, hm⟩ := mi_bind hm
    refine cS_i (As := [.int p3]) (rest := []) C hW (c_X6_isOne e16) kX6_isOne q1098 rfl rfl hl.1 ⟨Nat.le_of_ble_eq_true rfl, Nat.le_of_ble_eq_true rfl⟩ ⟨Nat.le_refl 0, Nat.le_refl 0⟩ (Nat.le_of_ble_eq_true rfl) dX6_copy_8 (fun H locs hW => ?_)
    refine lv_if_ne (tgt := 21) hx hb dX6_copy_11 (by decide) (fun hc18 => ?_) (fun hc18 => ?_)
    · rw [if_neg hc18] at hm
      refine lv_aload_n hx hb dX6_copy_21 rfl (lv_at hl 0 rfl) ?_
      refine gM_bitsOf C hW q805 dX6_copy_22 ?_
      refine lv_iload_n hx hb dX6_copy_25 rfl (lv_at hl 1 rfl) ?_
      obtain ⟨hi19, hm⟩ := mi_ai hm
      refine lM_bitsOf C hW hi19 dX6_copy_26 ?_
      refine lv_if_eq (tgt := 39) hx hb dX6_copy_27 (by decide) (fun hc20 => ?_) (fun hc20 => ?_)
      · rw [if_pos hc20] at hm
        exact wX6_copy_b39 C hr hlk σ _ _ _ hm hW (lv_sub hl [0] rfl)
      · rw [if_neg hc20] at hm
        refine lv_aload_n hx hb dX6_copy_30 rfl (lv_at hl 0 rfl) ?_
        refine gM_bitsOf C hW q805 dX6_copy_31 ?_
        refine lv_iload_n hx hb dX6_copy_34 rfl (lv_at hl 3 rfl) ?_
        obtain ⟨hi21, hm⟩ := mi_ai hm
        refine lM_bitsOf C hW hi21 dX6_copy_35 ?_
        refine lv_if_ne (tgt := 47) hx hb dX6_copy_36 (by decide) (fun hc22 => ?_) (fun hc22 => ?_)
        · rw [if_neg hc22] at hm
          refine lv_aload_n hx hb dX6_copy_47 rfl (lv_at hl 0 rfl) ?_
          refine gM_bitsOf C hW q805 dX6_copy_48 ?_
          refine lv_iload_n hx hb dX6_copy_51 rfl (lv_at hl 1 rfl) ?_
          obtain ⟨hi23, hm⟩ := mi_ai hm
          refine lM_bitsOf C hW hi23 dX6_copy_52 ?_
          refine lv_aload_n hx hb dX6_copy_53 rfl (lv_at hl 0 rfl) ?_
          refine gM_bitsOf C hW q805 dX6_copy_54 ?_
          refine lv_iload_n hx hb dX6_copy_57 rfl (lv_at hl 3 rfl) ?_
          obtain ⟨hi24, hm⟩ := mi_ai hm
          refine lM_bitsOf C hW hi24 dX6_copy_58 ?_
          refine lv_icmp_eq (tgt := 70) hx hb dX6_copy_59 (by decide) (fun hc25 => ?_) (fun hc25 => ?_)
          · rw [if_pos hc25] at hm
            refine lv_iload_n hx hb dX6_copy_70 rfl (lv_at hl 2 rfl) ?_
            refine lv_if_lt (tgt := 111) hx hb dX6_copy_71 (by decide) (fun hc26 => ?_) (fun hc26 => ?_)
            · rw [if_pos hc26] at hm
              exact wX6_copy_b111 C hr hlk σ _ _ _ hm hW (lv_sub hl [0] rfl)
            · rw [if_neg hc26] at hm
              refine lv_iload hx hb dX6_copy_74 (lv_at hl 4 rfl) ?_
              refine lv_if_lt (tgt := 111) hx hb dX6_copy_76 (by decide) (fun hc27 => ?_) (fun hc27 => ?_)
              · rw [if_pos hc27] at hm
                exact wX6_copy_b111 C hr hlk σ _ _ _ hm hW (lv_sub hl [0] rfl)
              · rw [if_neg hc27] at hm
                refine lv_iload hx hb dX6_copy_79 (lv_at hl 5 rfl) ?_
                refine lv_if_lt (tgt := 111) hx hb dX6_copy_81 (by decide) (fun hc28 => ?_) (fun hc28 => ?_)
                · rw [if_pos hc28] at hm
                  exact wX6_copy_b111 C hr hlk σ _ _ _ hm hW (lv_sub hl [0] rfl)
                · rw [if_neg hc28] at hm
                  refine lv_iload hx hb dX6_copy_84 (lv_at hl 5 rfl) ?_
                  refine lv_aload_n hx hb dX6_copy_86 rfl (lv_at hl 0 rfl) ?_
                  refine gM_sizeOf C hW q806 dX6_copy_87 ?_
                  refine lv_iload_n hx hb dX6_copy_90 rfl (lv_at hl 1 rfl) ?_
                  obtain ⟨hi29, hm⟩ := mi_ai hm
                  refine lM_sizeOf C hW hi29 dX6_copy_91 ?_
                  refine lv_iload_n hx hb dX6_copy_92 rfl (lv_at hl 2 rfl) ?_
                  refine lv_isub hx hb dX6_copy_93 ?_
                  refine lv_icmp_gt (tgt := 111) hx hb dX6_copy_94 (by decide) (fun hc30 => ?_) (fun hc30 => ?_)
                  · rw [if_pos hc30] at hm
                    exact wX6_copy_b111 C hr hlk σ _ _ _ hm hW (lv_sub hl [0] rfl)
                  · rw [if_neg hc30] at hm
                    refine lv_iload hx hb dX6_copy_97 (lv_at hl 5 rfl) ?_
                    refine lv_aload_n hx hb dX6_copy_99 rfl (lv_at hl 0 rfl) ?_
                    refine gM_sizeOf C hW q806 dX6_copy_100 ?_
                    refine lv_iload_n hx hb dX6_copy_103 rfl (lv_at hl 3 rfl) ?_
                    obtain ⟨hi31, hm⟩ := mi_ai hm
                    refine lM_sizeOf C hW hi31 dX6_copy_104 ?_
                    refine lv_iload hx hb dX6_copy_105 (lv_at hl 4 rfl) ?_
                    refine lv_isub hx hb dX6_copy_107 ?_
                    refine lv_icmp_le (tgt := 118) hx hb dX6_copy_108 (by decide) (fun hc32 => ?_) (fun hc32 => ?_)
                    · rw [if_pos hc32] at hm
                      refine lv_iconst (v := 0) hx hb dX6_copy_118 (by decide) ?_
                      refine lv_istore (lv' := [(6, .int (0 : Int32)), (0, .ref (a 0)), (1, .int p1), (2, .int p2), (3, .int p3), (4, .int p4), (5, .int p5)]) hx hb dX6_copy_119 hl (by decide) rfl (fun ls hl => ?_)
                      exact wX6_copy_b121 C hr hlk FU σ p1 p2 p3 p4 p5 (0 : Int32) _ _ _ hm hW (lv_sub hl [1, 2, 3, 4, 5, 6, 0] rfl)
                    · rw [if_neg hc32] at hm
                      exact wX6_copy_b111 C hr hlk σ _ _ _ hm hW (lv_sub hl [0] rfl)
          · rw [if_neg hc25] at hm
            refine lv_aload_n hx hb dX6_copy_62 rfl (lv_at hl 0 rfl) ?_
            refine lv_ldcw hx hb C.2.2.2.1 (C.2.2.2.2.1 _ q1244) dX6_copy_63 ?_
            obtain ⟨q34, e33, hm⟩ := mi_bind hm
            refine cs_i (q0 := 0) (As := [.int (-1000003 : Int32)]) (rest := []) C hW (c_X6_finds e33) kX6_finds q866 rfl rfl rfl rfl rfl hl.1 ⟨Nat.le_of_ble_eq_true rfl, Nat.le_of_ble_eq_true rfl⟩ ⟨Nat.le_refl 0, Nat.le_refl 0⟩ (Nat.le_of_ble_eq_true rfl) dX6_copy_66 (fun H locs hW => ?_)
            obtain ⟨rfl, rfl⟩ := Prod.mk.inj (Option.some.inj hm)
            exact en_i C hr hlk hW dX6_copy_69
        · rw [if_pos hc22] at hm
          exact wX6_copy_b39 C hr hlk σ _ _ _ hm hW (lv_sub hl [0] rfl)
    · rw [if_pos hc18] at hm
      exact wX6_copy_b14 C hr hlk σ _ _ _ hm hW (lv_sub hl [0] rfl)
theorem kX6_copy : KM yX6_copy cX6_copy 7 (some .int) 5 := ⟨q1258, q1259, q72, q1260, by decide +kernel, by decide +kernel, by decide +kernel⟩
def X6_load_b18 : Nat → MS → Int32 → Int32 → Option (Int32 × MS)
  | 0, _, _, _ => none
  | n + 1, σ, x1, x3 => ai x1 4 (if (σ 19 (Int32.toNatClampNeg x1)) ≤ x3 then (some (x3, σ)) else (if (σ 0 1) ≤ x3 then (some (x3, σ)) else (ai (((40 : Int32) * x1) + x3) 160 ((X6_isView (σ 20 (Int32.toNatClampNeg (((40 : Int32) * x1) + x3)))).bind fun v6 => if v6 = (0 : Int32) then (some (x3, σ)) else ((X6_place x3 ((2 : Int32) + (σ 0 3))).bind fun v9 => ai (((40 : Int32) * x1) + x3) 160 (ai v9 81 (X6_load_b18 n (su σ 0 (Int32.toNatClampNeg v9) (σ 20 (Int32.toNatClampNeg (((40 : Int32) * x1) + x3)))) x1 ((x3 + (1 : Int32))))))))))
set_option maxHeartbeats 4000000 in
set_option maxRecDepth 100000 in
theorem wX6_load_b18 {p : Program} {l : Launch} {e : Env} {s : State} {m : MethodId} {below : List Frame} {meth : Method} {c : Code} {D : va_G} {cy cz : ClassId} {G : GT} {A : Nat → Prop} {args : Array Value} {a : Nat → Nat} {r : Int32} {σr : MS} (C : Cx p s m args c cX6_load 4 "PumpTalkModel" D cy cz G A) (hr : meth.sig.returnType = some .int) (hlk : meth.locks = false) : ∀ (n : Nat) (σ : MS) (x1 : Int32) (x3 : Int32) (H : Heap) (locs : List Loc) (ls : Array Slot), X6_load_b18 n σ x1 x3 = some (r, σr) → Wd D A s.heap H locs (cM a cy σ) → lv_has ls 4 [(0, .ref (a 0)), (1, .int x1), (3, .int x3)] → W p l e (rmz 3 66) s m args below meth c H locs 0 0 (MQ below (QI D cy cz A (cM a cy σr) r) args s 0 0 A) (F0 m 18 ls []) := by
  have hx := C.1
  have hb := C.2.1
  intro n
  induction n with
  | zero =>
    intro σ x1 x3 H locs ls hm
    rw [X6_load_b18] at hm
    cases hm
  | succ n ih =>
    intro σ x1 x3 H locs ls hm hW hl
    rw [X6_load_b18] at hm
    refine lv_iload_n hx hb dX6_load_18 rfl (lv_at hl 2 rfl) ?_
    refine lv_aload_n hx hb dX6_load_19 rfl (lv_at hl 0 rfl) ?_
    refine gM_sizeOf C hW q806 dX6_load_20 ?_
    refine lv_iload_n hx hb dX6_load_23 rfl (lv_at hl 1 rfl) ?_
    obtain ⟨hi1, hm⟩ := mi_ai hm
    refine lM_sizeOf C hW hi1 dX6_load_24 ?_
    refine lv_icmp_ge (tgt := 89) hx hb dX6_load_25 (by decide) (fun hc2 => ?_) (fun hc2 => ?_)
    · rw [if_pos hc2] at hm
      refine lv_iload_n hx hb dX6_load_89 rfl (lv_at hl 2 rfl) ?_
      obtain ⟨rfl, rfl⟩ := Prod.mk.inj (Option.some.inj hm)
      exact en_i C hr hlk hW dX6_load_90
    · rw [if_neg hc2] at hm
      refine lv_iload_n hx hb dX6_load_28 rfl (lv_at hl 2 rfl) ?_
      refine lv_aload_n hx hb dX6_load_29 rfl (lv_at hl 0 rfl) ?_
      refine gM_s C hW q787 dX6_load_30 ?_
      refine lv_iconst (v := 1) hx hb dX6_load_33 (by decide) ?_
      refine lM_s_k (k := 1) C hW (by decide) (by decide) dX6_load_34 ?_
      refine lv_icmp_ge (tgt := 89) hx hb dX6_load_35 (by decide) (fun hc3 => ?_) (fun hc3 => ?_)
      · rw [if_pos hc3] at hm
        refine lv_iload_n hx hb dX6_load_89 rfl (lv_at hl 2 rfl) ?_
        obtain ⟨rfl, rfl⟩ := Prod.mk.inj (Option.some.inj hm)
        exact en_i C hr hlk hW dX6_load_90
      · rw [if_neg hc3] at hm
        refine lv_aload_n hx hb dX6_load_38 rfl (lv_at hl 0 rfl) ?_
        refine gM_numbers C hW q807 dX6_load_39 ?_
        refine lv_bipush (v := 40) hx hb dX6_load_42 (by decide) ?_
        refine lv_iload_n hx hb dX6_load_44 rfl (lv_at hl 1 rfl) ?_
        refine lv_imul hx hb dX6_load_45 ?_
        refine lv_iload_n hx hb dX6_load_46 rfl (lv_at hl 2 rfl) ?_
        refine lv_iadd hx hb dX6_load_47 ?_
        obtain ⟨hi4, hm⟩ := mi_ai hm
        refine lM_numbers C hW hi4 dX6_load_48 ?_
        obtain ⟨v6, e5, hm⟩ := mi_bind hm
        refine cS_i (As := [.int (σ 20 (Int32.toNatClampNeg (((40 : Int32) * x1) + x3)))]) (rest := []) C hW (c_X6_isView e5) kX6_isView q898 rfl rfl hl.1 ⟨Nat.le_of_ble_eq_true rfl, Nat.le_of_ble_eq_true rfl⟩ ⟨Nat.le_refl 0, Nat.le_refl 0⟩ (Nat.le_of_ble_eq_true rfl) dX6_load_49 (fun H locs hW => ?_)
        refine lv_if_eq (tgt := 89) hx hb dX6_load_52 (by decide) (fun hc7 => ?_) (fun hc7 => ?_)
        · rw [if_pos hc7] at hm
          refine lv_iload_n hx hb dX6_load_89 rfl (lv_at hl 2 rfl) ?_
          obtain ⟨rfl, rfl⟩ := Prod.mk.inj (Option.some.inj hm)
          exact en_i C hr hlk hW dX6_load_90
        · rw [if_neg hc7] at hm
          refine lv_aload_n hx hb dX6_load_55 rfl (lv_at hl 0 rfl) ?_
          refine gM_s C hW q787 dX6_load_56 ?_
          refine lv_iload_n hx hb dX6_load_59 rfl (lv_at hl 2 rfl) ?_
          refine lv_iconst (v := 2) hx hb dX6_load_60 (by decide) ?_
          refine lv_aload_n hx hb dX6_load_61 rfl (lv_at hl 0 rfl) ?_
          refine gM_s C hW q787 dX6_load_62 ?_
          refine lv_iconst (v := 3) hx hb dX6_load_65 (by decide) ?_
          refine lM_s_k (k := 3) C hW (by decide) (by decide) dX6_load_66 ?_
          refine lv_iadd hx hb dX6_load_67 ?_
          obtain ⟨v9, e8, hm⟩ := mi_bind hm
          refine cS_i (As := [.int x3, .int ((2 : Int32) + (σ 0 3))]) (rest := [.ref (a 1)]) C hW (c_X6_place e8) kX6_place q875 rfl rfl hl.1 ⟨Nat.le_of_ble_eq_true rfl, Nat.le_of_ble_eq_true rfl⟩ ⟨Nat.le_refl 0, Nat.le_refl 0⟩ (Nat.le_of_ble_eq_true rfl) dX6_load_68 (fun H locs hW => ?_)
          refine lv_aload_n hx hb dX6_load_71 rfl (lv_at hl 0 rfl) ?_
          refine gM_numbers C hW q807 dX6_load_72 ?_
          refine lv_bipush (v := 40) hx hb dX6_load_75 (by decide) ?_
          refine lv_iload_n hx hb dX6_load_77 rfl (lv_at hl 1 rfl) ?_
          refine lv_imul hx hb dX6_load_78 ?_
          refine lv_iload_n hx hb dX6_load_79 rfl (lv_at hl 2 rfl) ?_
          refine lv_iadd hx hb dX6_load_80 ?_
          obtain ⟨hi10, hm⟩ := mi_ai hm
          refine lM_numbers C hW hi10 dX6_load_81 ?_
          obtain ⟨hi11, hm⟩ := mi_ai hm
          refine tM_s C hW hi11 dX6_load_82 (fun H locs hW => ?_)
          refine lv_iinc (v := (x3 + (1 : Int32))) (lv' := [(3, .int (x3 + (1 : Int32))), (0, .ref (a 0)), (1, .int x1)]) hx hb dX6_load_83 hl (k := 2) rfl (congrArg (fun z : Int32 => x3 + z) (by decide)) (by decide) rfl (fun ls hl => ?_)
          refine lv_goto (tgt := 18) hx hb dX6_load_86 (by decide) ?_
          exact ih (su σ 0 (Int32.toNatClampNeg v9) (σ 20 (Int32.toNatClampNeg (((40 : Int32) * x1) + x3)))) x1 ((x3 + (1 : Int32))) _ _ _ hm hW (lv_sub hl [1, 2, 0] rfl)
def X6_load (σ : MS) (p1 : Int32) : Option (Int32 × MS) := (X6_wrong σ p1).bind fun v13 => if v13 = (0 : Int32) then (X6_load_b18 FU σ p1 (0 : Int32)) else ((X6_finds σ v13).bind fun q16 => some (q16.1, q16.2))
set_option maxHeartbeats 4000000 in
set_option maxRecDepth 100000 in
theorem c_X6_load {l : Launch} {D : va_G} {cy cz : ClassId} {G : GT} {a : Nat → Nat} {σ : MS} {p1 : Int32} {r : Int32} {σr : MS} (hm : X6_load σ p1 = some (r, σr)) : CtI l D cy cz G yX6_load cX6_load 4 (some .int) 3 66 [.ref (a 0), .int p1] (cM a cy σ) (cM a cy σr) r := by
  refine ct_i (own := "PumpTalkModel") (by decide) rfl (Nat.le_of_ble_eq_true rfl) ?_
  intro p e s m below meth c ls A C hr hlk hW hl
  have hx := C.1
  have hb := C.2.1
  have hl : lv_has ls 4 [(0, .ref (a 0)), (1, .int p1)] := hl
  unfold X6_load at hm
  refine lv_aload_n hx hb dX6_load_0 rfl (lv_at hl 0 rfl) ?_
  refine lv_iload_n hx hb dX6_load_1 rfl (lv_at hl 1 rfl) ?_
  obtain ⟨v13, e12, hm⟩ := mi_bind hm
  refine cs_i (q0 := 0) (As := [.int p1]) (rest := []) C hW (c_X6_wrong e12) kX6_wrong q1094 rfl rfl rfl rfl rfl hl.1 ⟨Nat.le_of_ble_eq_true rfl, Nat.le_of_ble_eq_true rfl⟩ ⟨Nat.le_refl 0, Nat.le_refl 0⟩ (Nat.le_of_ble_eq_true rfl) dX6_load_2 (fun H locs hW => ?_)
  refine lv_istore_n (lv' := [(2, .int v13), (0, .ref (a 0)), (1, .int p1)]) hx hb dX6_load_5 rfl hl (by decide) rfl (fun ls hl => ?_)
  refine lv_iload_n hx hb dX6_load_6 rfl (lv_at hl 0 rfl) ?_
  refine lv_if_eq (tgt := 16) hx hb dX6_load_7 (by decide) (fun hc14 => ?_) (fun hc14 => ?_)
  · rw [if_pos hc14] at hm
    refine lv_iconst (v := 0) hx hb dX6_load_16 (by decide) ?_
    refine lv_istore_n (lv' := [(3, .int (0 : Int32)), (2, .int v13), (0, .ref (a 0)), (1, .int p1)]) hx hb dX6_load_17 rfl hl (by decide) rfl (fun ls hl => ?_)
    exact wX6_load_b18 C hr hlk FU σ p1 (0 : Int32) _ _ _ hm hW (lv_sub hl [2, 3, 0] rfl)
  · rw [if_neg hc14] at hm
    refine lv_aload_n hx hb dX6_load_10 rfl (lv_at hl 1 rfl) ?_
    refine lv_iload_n hx hb dX6_load_11 rfl (lv_at hl 0 rfl) ?_
    obtain ⟨q16, e15, hm⟩ := mi_bind hm
    refine cs_i (q0 := 0) (As := [.int v13]) (rest := []) C hW (c_X6_finds e15) kX6_finds q866 rfl rfl rfl rfl rfl hl.1 ⟨Nat.le_of_ble_eq_true rfl, Nat.le_of_ble_eq_true rfl⟩ ⟨Nat.le_refl 0, Nat.le_refl 0⟩ (Nat.le_of_ble_eq_true rfl) dX6_load_12 (fun H locs hW => ?_)
    obtain ⟨rfl, rfl⟩ := Prod.mk.inj (Option.some.inj hm)
    exact en_i C hr hlk hW dX6_load_15
theorem kX6_load : KM yX6_load cX6_load 4 (some .int) 1 := ⟨q1262, q1263, q72, q1264, by decide +kernel, by decide +kernel, by decide +kernel⟩
def X6_judge_b65 (σ : MS) (x3 : Int32) : Option (Int32 × MS) := some (((1 : Int32) + x3), σ)
set_option maxHeartbeats 4000000 in
set_option maxRecDepth 100000 in
theorem wX6_judge_b65 {p : Program} {l : Launch} {e : Env} {s : State} {m : MethodId} {below : List Frame} {meth : Method} {c : Code} {D : va_G} {cy cz : ClassId} {G : GT} {A : Nat → Prop} {args : Array Value} {a : Nat → Nat} {r : Int32} {σr : MS} (C : Cx p s m args c cX6_judge 4 "PumpTalkModel" D cy cz G A) (hr : meth.sig.returnType = some .int) (hlk : meth.locks = false) : ∀ (σ : MS) (x3 : Int32) (H : Heap) (locs : List Loc) (ls : Array Slot), X6_judge_b65 σ x3 = some (r, σr) → Wd D A s.heap H locs (cM a cy σ) → lv_has ls 4 [(3, .int x3)] → W p l e (rmz 3 66) s m args below meth c H locs 0 0 (MQ below (QI D cy cz A (cM a cy σr) r) args s 0 0 A) (F0 m 65 ls []) := by
  have hx := C.1
  have hb := C.2.1
  intro σ x3 H locs ls hm hW hl
  unfold X6_judge_b65 at hm
  refine lv_iconst (v := 1) hx hb dX6_judge_65 (by decide) ?_
  refine lv_iload_n hx hb dX6_judge_66 rfl (lv_at hl 0 rfl) ?_
  refine lv_iadd hx hb dX6_judge_67 ?_
  obtain ⟨rfl, rfl⟩ := Prod.mk.inj (Option.some.inj hm)
  exact en_i C hr hlk hW dX6_judge_68
def X6_judge_b18 : Nat → MS → Int32 → Int32 → Option (Int32 × MS)
  | 0, _, _, _ => none
  | n + 1, σ, x1, x3 => ai x1 4 (if (σ 19 (Int32.toNatClampNeg x1)) ≤ x3 then (some ((0 : Int32), σ)) else (if (σ 0 1) ≤ x3 then (X6_judge_b65 σ x3) else (ai (((40 : Int32) * x1) + x3) 160 ((X6_its σ x3 ((2 : Int32) + (σ 0 3))).bind fun v6 => if (σ 20 (Int32.toNatClampNeg (((40 : Int32) * x1) + x3))) = v6 then (X6_judge_b18 n σ x1 ((x3 + (1 : Int32)))) else (X6_judge_b65 σ x3)))))
set_option maxHeartbeats 4000000 in
set_option maxRecDepth 100000 in
theorem wX6_judge_b18 {p : Program} {l : Launch} {e : Env} {s : State} {m : MethodId} {below : List Frame} {meth : Method} {c : Code} {D : va_G} {cy cz : ClassId} {G : GT} {A : Nat → Prop} {args : Array Value} {a : Nat → Nat} {r : Int32} {σr : MS} (C : Cx p s m args c cX6_judge 4 "PumpTalkModel" D cy cz G A) (hr : meth.sig.returnType = some .int) (hlk : meth.locks = false) : ∀ (n : Nat) (σ : MS) (x1 : Int32) (x3 : Int32) (H : Heap) (locs : List Loc) (ls : Array Slot), X6_judge_b18 n σ x1 x3 = some (r, σr) → Wd D A s.heap H locs (cM a cy σ) → lv_has ls 4 [(0, .ref (a 0)), (1, .int x1), (3, .int x3)] → W p l e (rmz 3 66) s m args below meth c H locs 0 0 (MQ below (QI D cy cz A (cM a cy σr) r) args s 0 0 A) (F0 m 18 ls []) := by
  have hx := C.1
  have hb := C.2.1
  intro n
  induction n with
  | zero =>
    intro σ x1 x3 H locs ls hm
    rw [X6_judge_b18] at hm
    cases hm
  | succ n ih =>
    intro σ x1 x3 H locs ls hm hW hl
    rw [X6_judge_b18] at hm
    refine lv_iload_n hx hb dX6_judge_18 rfl (lv_at hl 2 rfl) ?_
    refine lv_aload_n hx hb dX6_judge_19 rfl (lv_at hl 0 rfl) ?_
    refine gM_sizeOf C hW q806 dX6_judge_20 ?_
    refine lv_iload_n hx hb dX6_judge_23 rfl (lv_at hl 1 rfl) ?_
    obtain ⟨hi1, hm⟩ := mi_ai hm
    refine lM_sizeOf C hW hi1 dX6_judge_24 ?_
    refine lv_icmp_ge (tgt := 75) hx hb dX6_judge_25 (by decide) (fun hc2 => ?_) (fun hc2 => ?_)
    · rw [if_pos hc2] at hm
      refine lv_iconst (v := 0) hx hb dX6_judge_75 (by decide) ?_
      obtain ⟨rfl, rfl⟩ := Prod.mk.inj (Option.some.inj hm)
      exact en_i C hr hlk hW dX6_judge_76
    · rw [if_neg hc2] at hm
      refine lv_iload_n hx hb dX6_judge_28 rfl (lv_at hl 2 rfl) ?_
      refine lv_aload_n hx hb dX6_judge_29 rfl (lv_at hl 0 rfl) ?_
      refine gM_s C hW q787 dX6_judge_30 ?_
      refine lv_iconst (v := 1) hx hb dX6_judge_33 (by decide) ?_
      refine lM_s_k (k := 1) C hW (by decide) (by decide) dX6_judge_34 ?_
      refine lv_icmp_ge (tgt := 65) hx hb dX6_judge_35 (by decide) (fun hc3 => ?_) (fun hc3 => ?_)
      · rw [if_pos hc3] at hm
        exact wX6_judge_b65 C hr hlk σ x3 _ _ _ hm hW (lv_sub hl [2] rfl)
      · rw [if_neg hc3] at hm
        refine lv_aload_n hx hb dX6_judge_38 rfl (lv_at hl 0 rfl) ?_
        refine gM_numbers C hW q807 dX6_judge_39 ?_
        refine lv_bipush (v := 40) hx hb dX6_judge_42 (by decide) ?_
        refine lv_iload_n hx hb dX6_judge_44 rfl (lv_at hl 1 rfl) ?_
        refine lv_imul hx hb dX6_judge_45 ?_
        refine lv_iload_n hx hb dX6_judge_46 rfl (lv_at hl 2 rfl) ?_
        refine lv_iadd hx hb dX6_judge_47 ?_
        obtain ⟨hi4, hm⟩ := mi_ai hm
        refine lM_numbers C hW hi4 dX6_judge_48 ?_
        refine lv_aload_n hx hb dX6_judge_49 rfl (lv_at hl 0 rfl) ?_
        refine lv_iload_n hx hb dX6_judge_50 rfl (lv_at hl 2 rfl) ?_
        refine lv_iconst (v := 2) hx hb dX6_judge_51 (by decide) ?_
        refine lv_aload_n hx hb dX6_judge_52 rfl (lv_at hl 0 rfl) ?_
        refine gM_s C hW q787 dX6_judge_53 ?_
        refine lv_iconst (v := 3) hx hb dX6_judge_56 (by decide) ?_
        refine lM_s_k (k := 3) C hW (by decide) (by decide) dX6_judge_57 ?_
        refine lv_iadd hx hb dX6_judge_58 ?_
        obtain ⟨v6, e5, hm⟩ := mi_bind hm
        refine cs_i (q0 := 0) (As := [.int x3, .int ((2 : Int32) + (σ 0 3))]) (rest := [.int (σ 20 (Int32.toNatClampNeg (((40 : Int32) * x1) + x3)))]) C hW (c_X6_its e5) kX6_its q887 rfl rfl rfl rfl rfl hl.1 ⟨Nat.le_of_ble_eq_true rfl, Nat.le_of_ble_eq_true rfl⟩ ⟨Nat.le_refl 0, Nat.le_refl 0⟩ (Nat.le_of_ble_eq_true rfl) dX6_judge_59 (fun H locs hW => ?_)
        refine lv_icmp_eq (tgt := 69) hx hb dX6_judge_62 (by decide) (fun hc7 => ?_) (fun hc7 => ?_)
        · rw [if_pos hc7] at hm
          refine lv_iinc (v := (x3 + (1 : Int32))) (lv' := [(3, .int (x3 + (1 : Int32))), (0, .ref (a 0)), (1, .int x1)]) hx hb dX6_judge_69 hl (k := 2) rfl (congrArg (fun z : Int32 => x3 + z) (by decide)) (by decide) rfl (fun ls hl => ?_)
          refine lv_goto (tgt := 18) hx hb dX6_judge_72 (by decide) ?_
          exact ih σ x1 ((x3 + (1 : Int32))) _ _ _ hm hW (lv_sub hl [1, 2, 0] rfl)
        · rw [if_neg hc7] at hm
          exact wX6_judge_b65 C hr hlk σ x3 _ _ _ hm hW (lv_sub hl [2] rfl)
def X6_judge (σ : MS) (p1 : Int32) : Option (Int32 × MS) := (X6_wrong σ p1).bind fun v9 => if v9 = (0 : Int32) then (X6_judge_b18 FU σ p1 (0 : Int32)) else ((X6_finds σ v9).bind fun q12 => some (q12.1, q12.2))
set_option maxHeartbeats 4000000 in
set_option maxRecDepth 100000 in
theorem c_X6_judge {l : Launch} {D : va_G} {cy cz : ClassId} {G : GT} {a : Nat → Nat} {σ : MS} {p1 : Int32} {r : Int32} {σr : MS} (hm : X6_judge σ p1 = some (r, σr)) : CtI l D cy cz G yX6_judge cX6_judge 4 (some .int) 3 66 [.ref (a 0), .int p1] (cM a cy σ) (cM a cy σr) r := by
  refine ct_i (own := "PumpTalkModel") (by decide) rfl (Nat.le_of_ble_eq_true rfl) ?_
  intro p e s m below meth c ls A C hr hlk hW hl
  have hx := C.1
  have hb := C.2.1
  have hl : lv_has ls 4 [(0, .ref (a 0)), (1, .int p1)] := hl
  unfold X6_judge at hm
  refine lv_aload_n hx hb dX6_judge_0 rfl (lv_at hl 0 rfl) ?_
  refine lv_iload_n hx hb dX6_judge_1 rfl (lv_at hl 1 rfl) ?_
  obtain ⟨v9, e8, hm⟩ := mi_bind hm
  refine cs_i (q0 := 0) (As := [.int p1]) (rest := []) C hW (c_X6_wrong e8) kX6_wrong q1094 rfl rfl rfl rfl rfl hl.1 ⟨Nat.le_of_ble_eq_true rfl, Nat.le_of_ble_eq_true rfl⟩ ⟨Nat.le_refl 0, Nat.le_refl 0⟩ (Nat.le_of_ble_eq_true rfl) dX6_judge_2 (fun H locs hW => ?_)
  refine lv_istore_n (lv' := [(2, .int v9), (0, .ref (a 0)), (1, .int p1)]) hx hb dX6_judge_5 rfl hl (by decide) rfl (fun ls hl => ?_)
  refine lv_iload_n hx hb dX6_judge_6 rfl (lv_at hl 0 rfl) ?_
  refine lv_if_eq (tgt := 16) hx hb dX6_judge_7 (by decide) (fun hc10 => ?_) (fun hc10 => ?_)
  · rw [if_pos hc10] at hm
    refine lv_iconst (v := 0) hx hb dX6_judge_16 (by decide) ?_
    refine lv_istore_n (lv' := [(3, .int (0 : Int32)), (2, .int v9), (0, .ref (a 0)), (1, .int p1)]) hx hb dX6_judge_17 rfl hl (by decide) rfl (fun ls hl => ?_)
    exact wX6_judge_b18 C hr hlk FU σ p1 (0 : Int32) _ _ _ hm hW (lv_sub hl [2, 3, 0] rfl)
  · rw [if_neg hc10] at hm
    refine lv_aload_n hx hb dX6_judge_10 rfl (lv_at hl 1 rfl) ?_
    refine lv_iload_n hx hb dX6_judge_11 rfl (lv_at hl 0 rfl) ?_
    obtain ⟨q12, e11, hm⟩ := mi_bind hm
    refine cs_i (q0 := 0) (As := [.int v9]) (rest := []) C hW (c_X6_finds e11) kX6_finds q866 rfl rfl rfl rfl rfl hl.1 ⟨Nat.le_of_ble_eq_true rfl, Nat.le_of_ble_eq_true rfl⟩ ⟨Nat.le_refl 0, Nat.le_refl 0⟩ (Nat.le_of_ble_eq_true rfl) dX6_judge_12 (fun H locs hW => ?_)
    obtain ⟨rfl, rfl⟩ := Prod.mk.inj (Option.some.inj hm)
    exact en_i C hr hlk hW dX6_judge_15
theorem kX6_judge : KM yX6_judge cX6_judge 4 (some .int) 1 := ⟨q1266, q1267, q72, q1268, by decide +kernel, by decide +kernel, by decide +kernel⟩
def X6_image_b2 : Nat → MS → Int32 → Option (Int32 × MS)
  | 0, _, _ => none
  | n + 1, σ, x1 => if (81 : Int32) ≤ x1 then (some ((1 : Int32), su σ 22 5 (1 : Int32))) else (ai x1 81 (ai x1 81 (X6_image_b2 n (su σ 1 (Int32.toNatClampNeg x1) (σ 0 (Int32.toNatClampNeg x1))) ((x1 + (1 : Int32))))))
set_option maxHeartbeats 4000000 in
set_option maxRecDepth 100000 in
theorem wX6_image_b2 {p : Program} {l : Launch} {e : Env} {s : State} {m : MethodId} {below : List Frame} {meth : Method} {c : Code} {D : va_G} {cy cz : ClassId} {G : GT} {A : Nat → Prop} {args : Array Value} {a : Nat → Nat} {r : Int32} {σr : MS} (C : Cx p s m args c cX6_image 2 "PumpTalkModel" D cy cz G A) (hr : meth.sig.returnType = some .int) (hlk : meth.locks = false) : ∀ (n : Nat) (σ : MS) (x1 : Int32) (H : Heap) (locs : List Loc) (ls : Array Slot), X6_image_b2 n σ x1 = some (r, σr) → Wd D A s.heap H locs (cM a cy σ) → lv_has ls 2 [(0, .ref (a 0)), (1, .int x1)] → W p l e (rmz 0 0) s m args below meth c H locs 0 0 (MQ below (QI D cy cz A (cM a cy σr) r) args s 0 0 A) (F0 m 2 ls []) := by
  have hx := C.1
  have hb := C.2.1
  intro n
  induction n with
  | zero =>
    intro σ x1 H locs ls hm
    rw [X6_image_b2] at hm
    cases hm
  | succ n ih =>
    intro σ x1 H locs ls hm hW hl
    rw [X6_image_b2] at hm
    refine lv_iload_n hx hb dX6_image_2 rfl (lv_at hl 1 rfl) ?_
    refine lv_bipush (v := 81) hx hb dX6_image_3 (by decide) ?_
    refine lv_icmp_ge (tgt := 26) hx hb dX6_image_5 (by decide) (fun hc1 => ?_) (fun hc1 => ?_)
    · rw [if_pos hc1] at hm
      refine lv_aload_n hx hb dX6_image_26 rfl (lv_at hl 0 rfl) ?_
      refine lv_iconst (v := 1) hx hb dX6_image_27 (by decide) ?_
      refine pM_isKept C hW rfl rfl q792 dX6_image_28 (fun H locs hW => ?_)
      refine lv_iconst (v := 1) hx hb dX6_image_31 (by decide) ?_
      obtain ⟨rfl, rfl⟩ := Prod.mk.inj (Option.some.inj hm)
      exact en_i C hr hlk hW dX6_image_32
    · rw [if_neg hc1] at hm
      refine lv_aload_n hx hb dX6_image_8 rfl (lv_at hl 0 rfl) ?_
      refine gM_keptS C hW q788 dX6_image_9 ?_
      refine lv_iload_n hx hb dX6_image_12 rfl (lv_at hl 1 rfl) ?_
      refine lv_aload_n hx hb dX6_image_13 rfl (lv_at hl 0 rfl) ?_
      refine gM_s C hW q787 dX6_image_14 ?_
      refine lv_iload_n hx hb dX6_image_17 rfl (lv_at hl 1 rfl) ?_
      obtain ⟨hi2, hm⟩ := mi_ai hm
      refine lM_s C hW hi2 dX6_image_18 ?_
      obtain ⟨hi3, hm⟩ := mi_ai hm
      refine tM_keptS C hW hi3 dX6_image_19 (fun H locs hW => ?_)
      refine lv_iinc (v := (x1 + (1 : Int32))) (lv' := [(1, .int (x1 + (1 : Int32))), (0, .ref (a 0))]) hx hb dX6_image_20 hl (k := 1) rfl (congrArg (fun z : Int32 => x1 + z) (by decide)) (by decide) rfl (fun ls hl => ?_)
      refine lv_goto (tgt := 2) hx hb dX6_image_23 (by decide) ?_
      exact ih (su σ 1 (Int32.toNatClampNeg x1) (σ 0 (Int32.toNatClampNeg x1))) ((x1 + (1 : Int32))) _ _ _ hm hW (lv_sub hl [1, 0] rfl)
def X6_image (σ : MS) : Option (Int32 × MS) := X6_image_b2 FU σ (0 : Int32)
set_option maxHeartbeats 4000000 in
set_option maxRecDepth 100000 in
theorem c_X6_image {l : Launch} {D : va_G} {cy cz : ClassId} {G : GT} {a : Nat → Nat} {σ : MS} {r : Int32} {σr : MS} (hm : X6_image σ = some (r, σr)) : CtI l D cy cz G yX6_image cX6_image 2 (some .int) 0 0 [.ref (a 0)] (cM a cy σ) (cM a cy σr) r := by
  refine ct_i (own := "PumpTalkModel") (by decide) rfl (Nat.le_of_ble_eq_true rfl) ?_
  intro p e s m below meth c ls A C hr hlk hW hl
  have hx := C.1
  have hb := C.2.1
  have hl : lv_has ls 2 [(0, .ref (a 0))] := hl
  unfold X6_image at hm
  refine lv_iconst (v := 0) hx hb dX6_image_0 (by decide) ?_
  refine lv_istore_n (lv' := [(1, .int (0 : Int32)), (0, .ref (a 0))]) hx hb dX6_image_1 rfl hl (by decide) rfl (fun ls hl => ?_)
  exact wX6_image_b2 C hr hlk FU σ (0 : Int32) _ _ _ hm hW (lv_sub hl [1, 0] rfl)
theorem kX6_image : KM yX6_image cX6_image 2 (some .int) 0 := ⟨q1270, q1271, q72, q1272, by decide +kernel, by decide +kernel, by decide +kernel⟩
def X6_undo_b16 : Nat → MS → Int32 → Option (Int32 × MS)
  | 0, _, _ => none
  | n + 1, σ, x1 => if (81 : Int32) ≤ x1 then (some ((σ 0 0), σ)) else (ai x1 81 (ai x1 81 (X6_undo_b16 n (su σ 0 (Int32.toNatClampNeg x1) (σ 1 (Int32.toNatClampNeg x1))) ((x1 + (1 : Int32))))))
set_option maxHeartbeats 4000000 in
set_option maxRecDepth 100000 in
theorem wX6_undo_b16 {p : Program} {l : Launch} {e : Env} {s : State} {m : MethodId} {below : List Frame} {meth : Method} {c : Code} {D : va_G} {cy cz : ClassId} {G : GT} {A : Nat → Prop} {args : Array Value} {a : Nat → Nat} {r : Int32} {σr : MS} (C : Cx p s m args c cX6_undo 2 "PumpTalkModel" D cy cz G A) (hr : meth.sig.returnType = some .int) (hlk : meth.locks = false) : ∀ (n : Nat) (σ : MS) (x1 : Int32) (H : Heap) (locs : List Loc) (ls : Array Slot), X6_undo_b16 n σ x1 = some (r, σr) → Wd D A s.heap H locs (cM a cy σ) → lv_has ls 2 [(0, .ref (a 0)), (1, .int x1)] → W p l e (rmz 1 21) s m args below meth c H locs 0 0 (MQ below (QI D cy cz A (cM a cy σr) r) args s 0 0 A) (F0 m 16 ls []) := by
  have hx := C.1
  have hb := C.2.1
  intro n
  induction n with
  | zero =>
    intro σ x1 H locs ls hm
    rw [X6_undo_b16] at hm
    cases hm
  | succ n ih =>
    intro σ x1 H locs ls hm hW hl
    rw [X6_undo_b16] at hm
    refine lv_iload_n hx hb dX6_undo_16 rfl (lv_at hl 1 rfl) ?_
    refine lv_bipush (v := 81) hx hb dX6_undo_17 (by decide) ?_
    refine lv_icmp_ge (tgt := 40) hx hb dX6_undo_19 (by decide) (fun hc1 => ?_) (fun hc1 => ?_)
    · rw [if_pos hc1] at hm
      refine lv_aload_n hx hb dX6_undo_40 rfl (lv_at hl 0 rfl) ?_
      refine gM_s C hW q787 dX6_undo_41 ?_
      refine lv_iconst (v := 0) hx hb dX6_undo_44 (by decide) ?_
      refine lM_s_k (k := 0) C hW (by decide) (by decide) dX6_undo_45 ?_
      obtain ⟨rfl, rfl⟩ := Prod.mk.inj (Option.some.inj hm)
      exact en_i C hr hlk hW dX6_undo_46
    · rw [if_neg hc1] at hm
      refine lv_aload_n hx hb dX6_undo_22 rfl (lv_at hl 0 rfl) ?_
      refine gM_s C hW q787 dX6_undo_23 ?_
      refine lv_iload_n hx hb dX6_undo_26 rfl (lv_at hl 1 rfl) ?_
      refine lv_aload_n hx hb dX6_undo_27 rfl (lv_at hl 0 rfl) ?_
      refine gM_keptS C hW q788 dX6_undo_28 ?_
      refine lv_iload_n hx hb dX6_undo_31 rfl (lv_at hl 1 rfl) ?_
      obtain ⟨hi2, hm⟩ := mi_ai hm
      refine lM_keptS C hW hi2 dX6_undo_32 ?_
      obtain ⟨hi3, hm⟩ := mi_ai hm
      refine tM_s C hW hi3 dX6_undo_33 (fun H locs hW => ?_)
      refine lv_iinc (v := (x1 + (1 : Int32))) (lv' := [(1, .int (x1 + (1 : Int32))), (0, .ref (a 0))]) hx hb dX6_undo_34 hl (k := 1) rfl (congrArg (fun z : Int32 => x1 + z) (by decide)) (by decide) rfl (fun ls hl => ?_)
      refine lv_goto (tgt := 16) hx hb dX6_undo_37 (by decide) ?_
      exact ih (su σ 0 (Int32.toNatClampNeg x1) (σ 1 (Int32.toNatClampNeg x1))) ((x1 + (1 : Int32))) _ _ _ hm hW (lv_sub hl [1, 0] rfl)
def X6_undo (σ : MS) : Option (Int32 × MS) := if (σ 22 5) = (0 : Int32) then ((X6_finds σ (-1000004 : Int32)).bind fun q6 => some (q6.1, q6.2)) else (X6_undo_b16 FU σ (0 : Int32))
set_option maxHeartbeats 4000000 in
set_option maxRecDepth 100000 in
theorem c_X6_undo {l : Launch} {D : va_G} {cy cz : ClassId} {G : GT} {a : Nat → Nat} {σ : MS} {r : Int32} {σr : MS} (hm : X6_undo σ = some (r, σr)) : CtI l D cy cz G yX6_undo cX6_undo 2 (some .int) 1 21 [.ref (a 0)] (cM a cy σ) (cM a cy σr) r := by
  refine ct_i (own := "PumpTalkModel") (by decide) rfl (Nat.le_of_ble_eq_true rfl) ?_
  intro p e s m below meth c ls A C hr hlk hW hl
  have hx := C.1
  have hb := C.2.1
  have hl : lv_has ls 2 [(0, .ref (a 0))] := hl
  unfold X6_undo at hm
  refine lv_aload_n hx hb dX6_undo_0 rfl (lv_at hl 0 rfl) ?_
  refine gM_isKept C hW q792 dX6_undo_1 ?_
  refine lv_if_ne (tgt := 14) hx hb dX6_undo_4 (by decide) (fun hc4 => ?_) (fun hc4 => ?_)
  · rw [if_neg hc4] at hm
    refine lv_iconst (v := 0) hx hb dX6_undo_14 (by decide) ?_
    refine lv_istore_n (lv' := [(1, .int (0 : Int32)), (0, .ref (a 0))]) hx hb dX6_undo_15 rfl hl (by decide) rfl (fun ls hl => ?_)
    exact wX6_undo_b16 C hr hlk FU σ (0 : Int32) _ _ _ hm hW (lv_sub hl [1, 0] rfl)
  · rw [if_pos hc4] at hm
    refine lv_aload_n hx hb dX6_undo_7 rfl (lv_at hl 0 rfl) ?_
    refine lv_ldc hx hb C.2.2.2.1 (C.2.2.2.2.1 _ q1018) dX6_undo_8 ?_
    obtain ⟨q6, e5, hm⟩ := mi_bind hm
    refine cs_i (q0 := 0) (As := [.int (-1000004 : Int32)]) (rest := []) C hW (c_X6_finds e5) kX6_finds q866 rfl rfl rfl rfl rfl hl.1 ⟨Nat.le_of_ble_eq_true rfl, Nat.le_of_ble_eq_true rfl⟩ ⟨Nat.le_refl 0, Nat.le_refl 0⟩ (Nat.le_of_ble_eq_true rfl) dX6_undo_10 (fun H locs hW => ?_)
    obtain ⟨rfl, rfl⟩ := Prod.mk.inj (Option.some.inj hm)
    exact en_i C hr hlk hW dX6_undo_13
theorem kX6_undo : KM yX6_undo cX6_undo 2 (some .int) 0 := ⟨q1274, q1275, q72, q1276, by decide +kernel, by decide +kernel, by decide +kernel⟩
def X6_tear_b12 (σ : MS) (y0 : Int32) : Option (Int32 × MS) := some (y0, su σ 22 5 (0 : Int32))
set_option maxHeartbeats 4000000 in
set_option maxRecDepth 100000 in
theorem wX6_tear_b12 {p : Program} {l : Launch} {e : Env} {s : State} {m : MethodId} {below : List Frame} {meth : Method} {c : Code} {D : va_G} {cy cz : ClassId} {G : GT} {A : Nat → Prop} {args : Array Value} {a : Nat → Nat} {r : Int32} {σr : MS} (C : Cx p s m args c cX6_tear 2 "PumpTalkModel" D cy cz G A) (hr : meth.sig.returnType = some .int) (hlk : meth.locks = false) : ∀ (σ : MS) (y0 : Int32) (H : Heap) (locs : List Loc) (ls : Array Slot), X6_tear_b12 σ y0 = some (r, σr) → Wd D A s.heap H locs (cM a cy σ) → lv_has ls 2 [(0, .ref (a 0))] → W p l e (rmz 0 0) s m args below meth c H locs 0 0 (MQ below (QI D cy cz A (cM a cy σr) r) args s 0 0 A) (F0 m 12 ls [.int y0]) := by
  have hx := C.1
  have hb := C.2.1
  intro σ y0 H locs ls hm hW hl
  unfold X6_tear_b12 at hm
  refine lv_istore_n (lv' := [(1, .int y0), (0, .ref (a 0))]) hx hb dX6_tear_12 rfl hl (by decide) rfl (fun ls hl => ?_)
  refine lv_aload_n hx hb dX6_tear_13 rfl (lv_at hl 1 rfl) ?_
  refine lv_iconst (v := 0) hx hb dX6_tear_14 (by decide) ?_
  refine pM_isKept C hW rfl rfl q792 dX6_tear_15 (fun H locs hW => ?_)
  refine lv_iload_n hx hb dX6_tear_18 rfl (lv_at hl 0 rfl) ?_
  obtain ⟨rfl, rfl⟩ := Prod.mk.inj (Option.some.inj hm)
  exact en_i C hr hlk hW dX6_tear_19
def X6_tear (σ : MS) : Option (Int32 × MS) := if (σ 22 5) = (0 : Int32) then (X6_tear_b12 σ (0 : Int32)) else (X6_tear_b12 σ (1 : Int32))
set_option maxHeartbeats 4000000 in
set_option maxRecDepth 100000 in
theorem c_X6_tear {l : Launch} {D : va_G} {cy cz : ClassId} {G : GT} {a : Nat → Nat} {σ : MS} {r : Int32} {σr : MS} (hm : X6_tear σ = some (r, σr)) : CtI l D cy cz G yX6_tear cX6_tear 2 (some .int) 0 0 [.ref (a 0)] (cM a cy σ) (cM a cy σr) r := by
  refine ct_i (own := "PumpTalkModel") (by decide) rfl (Nat.le_of_ble_eq_true rfl) ?_
  intro p e s m below meth c ls A C hr hlk hW hl
  have hx := C.1
  have hb := C.2.1
  have hl : lv_has ls 2 [(0, .ref (a 0))] := hl
  unfold X6_tear at hm
  refine lv_aload_n hx hb dX6_tear_0 rfl (lv_at hl 0 rfl) ?_
  refine gM_isKept C hW q792 dX6_tear_1 ?_
  refine lv_if_eq (tgt := 11) hx hb dX6_tear_4 (by decide) (fun hc1 => ?_) (fun hc1 => ?_)
  · rw [if_pos hc1] at hm
    refine lv_iconst (v := 0) hx hb dX6_tear_11 (by decide) ?_
    exact wX6_tear_b12 C hr hlk σ (0 : Int32) _ _ _ hm hW (lv_sub hl [0] rfl)
  · rw [if_neg hc1] at hm
    refine lv_iconst (v := 1) hx hb dX6_tear_7 (by decide) ?_
    refine lv_goto (tgt := 12) hx hb dX6_tear_8 (by decide) ?_
    exact wX6_tear_b12 C hr hlk σ (1 : Int32) _ _ _ hm hW (lv_sub hl [0] rfl)
theorem kX6_tear : KM yX6_tear cX6_tear 2 (some .int) 0 := ⟨q1278, q1279, q72, q1280, by decide +kernel, by decide +kernel, by decide +kernel⟩
def X6_heldSpots_b28 (σ : MS) (k4 : Int32 → Int32 → Option (Int32)) (x2 : Int32) (y0 : Int32) (y1 : Int32) : Option (Int32) := k4 (y0 + y1) ((x2 + (1 : Int32)))
set_option maxHeartbeats 4000000 in
set_option maxRecDepth 100000 in
theorem wX6_heldSpots_b28 {p : Program} {l : Launch} {e : Env} {s : State} {m : MethodId} {below : List Frame} {meth : Method} {c : Code} {D : va_G} {cy cz : ClassId} {G : GT} {A : Nat → Prop} {args : Array Value} {a : Nat → Nat} {r : Int32} {σ : MS} (C : Cx p s m args c cX6_heldSpots 3 "PumpTalkModel" D cy cz G A) (hr : meth.sig.returnType = some .int) (hlk : meth.locks = false) {k4 : Int32 → Int32 → Option (Int32)} (hk4 : ∀ (x1 : Int32) (x2 : Int32) (H : Heap) (locs : List Loc) (ls : Array Slot), k4 x1 x2 = some r → Wd D A s.heap H locs (cM a cy σ) → lv_has ls 3 [(0, .ref (a 0)), (1, .int x1), (2, .int x2)] → W p l e (rmz 0 0) s m args below meth c H locs 0 0 (MQ below (QI D cy cz A (cM a cy σ) r) args s 0 0 A) (F0 m 4 ls [])) : ∀ (x2 : Int32) (y0 : Int32) (y1 : Int32) (H : Heap) (locs : List Loc) (ls : Array Slot), X6_heldSpots_b28 σ k4 x2 y0 y1 = some r → Wd D A s.heap H locs (cM a cy σ) → lv_has ls 3 [(0, .ref (a 0)), (2, .int x2)] → W p l e (rmz 0 0) s m args below meth c H locs 0 0 (MQ below (QI D cy cz A (cM a cy σ) r) args s 0 0 A) (F0 m 28 ls [.int y1, .int y0]) := by
  have hx := C.1
  have hb := C.2.1
  intro x2 y0 y1 H locs ls hm hW hl
  unfold X6_heldSpots_b28 at hm
  refine lv_iadd hx hb dX6_heldSpots_28 ?_
  refine lv_istore_n (lv' := [(1, .int (y0 + y1)), (0, .ref (a 0)), (2, .int x2)]) hx hb dX6_heldSpots_29 rfl hl (by decide) rfl (fun ls hl => ?_)
  refine lv_iinc (v := (x2 + (1 : Int32))) (lv' := [(2, .int (x2 + (1 : Int32))), (1, .int (y0 + y1)), (0, .ref (a 0))]) hx hb dX6_heldSpots_30 hl (k := 2) rfl (congrArg (fun z : Int32 => x2 + z) (by decide)) (by decide) rfl (fun ls hl => ?_)
  refine lv_goto (tgt := 4) hx hb dX6_heldSpots_33 (by decide) ?_
  exact hk4 (y0 + y1) ((x2 + (1 : Int32))) _ _ _ hm hW (lv_sub hl [2, 1, 0] rfl)
def X6_heldSpots_b4 (σ : MS) : Nat → Int32 → Int32 → Option (Int32)
  | 0, _, _ => none
  | n + 1, x1, x2 => if (10 : Int32) ≤ x2 then (some x1) else (ai ((71 : Int32) + x2) 81 (if (σ 0 (Int32.toNatClampNeg ((71 : Int32) + x2))) < (0 : Int32) then (X6_heldSpots_b28 σ (X6_heldSpots_b4 σ n) x2 x1 (0 : Int32)) else (X6_heldSpots_b28 σ (X6_heldSpots_b4 σ n) x2 x1 (1 : Int32))))
set_option maxHeartbeats 4000000 in
set_option maxRecDepth 100000 in
theorem wX6_heldSpots_b4 {p : Program} {l : Launch} {e : Env} {s : State} {m : MethodId} {below : List Frame} {meth : Method} {c : Code} {D : va_G} {cy cz : ClassId} {G : GT} {A : Nat → Prop} {args : Array Value} {a : Nat → Nat} {r : Int32} {σ : MS} (C : Cx p s m args c cX6_heldSpots 3 "PumpTalkModel" D cy cz G A) (hr : meth.sig.returnType = some .int) (hlk : meth.locks = false) : ∀ (n : Nat) (x1 : Int32) (x2 : Int32) (H : Heap) (locs : List Loc) (ls : Array Slot), X6_heldSpots_b4 σ n x1 x2 = some r → Wd D A s.heap H locs (cM a cy σ) → lv_has ls 3 [(0, .ref (a 0)), (1, .int x1), (2, .int x2)] → W p l e (rmz 0 0) s m args below meth c H locs 0 0 (MQ below (QI D cy cz A (cM a cy σ) r) args s 0 0 A) (F0 m 4 ls []) := by
  have hx := C.1
  have hb := C.2.1
  intro n
  induction n with
  | zero =>
    intro x1 x2 H locs ls hm
    rw [X6_heldSpots_b4] at hm
    cases hm
  | succ n ih =>
    intro x1 x2 H locs ls hm hW hl
    rw [X6_heldSpots_b4] at hm
    refine lv_iload_n hx hb dX6_heldSpots_4 rfl (lv_at hl 2 rfl) ?_
    refine lv_bipush (v := 10) hx hb dX6_heldSpots_5 (by decide) ?_
    refine lv_icmp_ge (tgt := 36) hx hb dX6_heldSpots_7 (by decide) (fun hc1 => ?_) (fun hc1 => ?_)
    · rw [if_pos hc1] at hm
      refine lv_iload_n hx hb dX6_heldSpots_36 rfl (lv_at hl 1 rfl) ?_
      obtain rfl := Option.some.inj hm
      exact en_i C hr hlk hW dX6_heldSpots_37
    · rw [if_neg hc1] at hm
      refine lv_iload_n hx hb dX6_heldSpots_10 rfl (lv_at hl 1 rfl) ?_
      refine lv_aload_n hx hb dX6_heldSpots_11 rfl (lv_at hl 0 rfl) ?_
      refine gM_s C hW q787 dX6_heldSpots_12 ?_
      refine lv_bipush (v := 71) hx hb dX6_heldSpots_15 (by decide) ?_
      refine lv_iload_n hx hb dX6_heldSpots_17 rfl (lv_at hl 2 rfl) ?_
      refine lv_iadd hx hb dX6_heldSpots_18 ?_
      obtain ⟨hi2, hm⟩ := mi_ai hm
      refine lM_s C hW hi2 dX6_heldSpots_19 ?_
      refine lv_if_lt (tgt := 27) hx hb dX6_heldSpots_20 (by decide) (fun hc3 => ?_) (fun hc3 => ?_)
      · rw [if_pos hc3] at hm
        refine lv_iconst (v := 0) hx hb dX6_heldSpots_27 (by decide) ?_
        exact wX6_heldSpots_b28 C hr hlk ih x2 x1 (0 : Int32) _ _ _ hm hW (lv_sub hl [0, 2] rfl)
      · rw [if_neg hc3] at hm
        refine lv_iconst (v := 1) hx hb dX6_heldSpots_23 (by decide) ?_
        refine lv_goto (tgt := 28) hx hb dX6_heldSpots_24 (by decide) ?_
        exact wX6_heldSpots_b28 C hr hlk ih x2 x1 (1 : Int32) _ _ _ hm hW (lv_sub hl [0, 2] rfl)
def X6_heldSpots (σ : MS) : Option (Int32) := X6_heldSpots_b4 σ FU (0 : Int32) (0 : Int32)
set_option maxHeartbeats 4000000 in
set_option maxRecDepth 100000 in
theorem c_X6_heldSpots {l : Launch} {D : va_G} {cy cz : ClassId} {G : GT} {a : Nat → Nat} {σ : MS} {r : Int32} (hm : X6_heldSpots σ = some r) : CtI l D cy cz G yX6_heldSpots cX6_heldSpots 3 (some .int) 0 0 [.ref (a 0)] (cM a cy σ) (cM a cy σ) r := by
  refine ct_i (own := "PumpTalkModel") (by decide) rfl (Nat.le_of_ble_eq_true rfl) ?_
  intro p e s m below meth c ls A C hr hlk hW hl
  have hx := C.1
  have hb := C.2.1
  have hl : lv_has ls 3 [(0, .ref (a 0))] := hl
  unfold X6_heldSpots at hm
  refine lv_iconst (v := 0) hx hb dX6_heldSpots_0 (by decide) ?_
  refine lv_istore_n (lv' := [(1, .int (0 : Int32)), (0, .ref (a 0))]) hx hb dX6_heldSpots_1 rfl hl (by decide) rfl (fun ls hl => ?_)
  refine lv_iconst (v := 0) hx hb dX6_heldSpots_2 (by decide) ?_
  refine lv_istore_n (lv' := [(2, .int (0 : Int32)), (1, .int (0 : Int32)), (0, .ref (a 0))]) hx hb dX6_heldSpots_3 rfl hl (by decide) rfl (fun ls hl => ?_)
  exact wX6_heldSpots_b4 C hr hlk FU (0 : Int32) (0 : Int32) _ _ _ hm hW (lv_sub hl [2, 1, 0] rfl)
theorem kX6_heldSpots : KM yX6_heldSpots cX6_heldSpots 3 (some .int) 0 := ⟨q1287, q65, q72, q1288, by decide +kernel, by decide +kernel, by decide +kernel⟩
def X6_count (σ : MS) (p1 : Int32) : Option (Int32 × MS) := if p1 = (0 : Int32) then (some ((σ 0 0), σ)) else (if p1 = (1 : Int32) then (some ((σ 0 1), σ)) else (if p1 = (2 : Int32) then (some ((σ 0 3), σ)) else (if p1 = (3 : Int32) then (some ((σ 0 2), σ)) else (if p1 = (4 : Int32) then ((X6_voices σ).bind fun v7 => some (v7, σ)) else (if p1 = (5 : Int32) then (some ((σ 22 13), σ)) else (if p1 = (6 : Int32) then (some ((σ 0 4), σ)) else (if p1 = (7 : Int32) then ((X6_heldSpots σ).bind fun v12 => some (v12, σ)) else ((X6_finds σ (-1000001 : Int32)).bind fun q14 => some (q14.1, q14.2)))))))))
set_option maxHeartbeats 4000000 in
set_option maxRecDepth 100000 in
theorem c_X6_count {l : Launch} {D : va_G} {cy cz : ClassId} {G : GT} {a : Nat → Nat} {σ : MS} {p1 : Int32} {r : Int32} {σr : MS} (hm : X6_count σ p1 = some (r, σr)) : CtI l D cy cz G yX6_count cX6_count 2 (some .int) 3 65 [.ref (a 0), .int p1] (cM a cy σ) (cM a cy σr) r := by
  refine ct_i (own := "PumpTalkModel") (by decide) rfl (Nat.le_of_ble_eq_true rfl) ?_
  intro p e s m below meth c ls A C hr hlk hW hl
  have hx := C.1
  have hb := C.2.1
  have hl : lv_has ls 2 [(0, .ref (a 0)), (1, .int p1)] := hl
  unfold X6_count at hm
  refine lv_iload_n hx hb dX6_count_0 rfl (lv_at hl 1 rfl) ?_
  by_cases ht1 : p1 = (0 : Int32)
  · rw [if_pos ht1] at hm
    refine lv_tableIn (tgt := 48) (off := 47) hx hb dX6_count_1 (by rw [ht1]; decide) (by rw [ht1]; decide) (by rw [ht1]; rfl) (by decide) ?_
    refine lv_aload_n hx hb dX6_count_48 rfl (lv_at hl 0 rfl) ?_
    refine gM_s C hW q787 dX6_count_49 ?_
    refine lv_iconst (v := 0) hx hb dX6_count_52 (by decide) ?_
    refine lM_s_k (k := 0) C hW (by decide) (by decide) dX6_count_53 ?_
    obtain ⟨rfl, rfl⟩ := Prod.mk.inj (Option.some.inj hm)
    exact en_i C hr hlk hW dX6_count_54
  · rw [if_neg ht1] at hm
    by_cases ht2 : p1 = (1 : Int32)
    · rw [if_pos ht2] at hm
      refine lv_tableIn (tgt := 55) (off := 54) hx hb dX6_count_1 (by rw [ht2]; decide) (by rw [ht2]; decide) (by rw [ht2]; rfl) (by decide) ?_
      refine lv_aload_n hx hb dX6_count_55 rfl (lv_at hl 0 rfl) ?_
      refine gM_s C hW q787 dX6_count_56 ?_
      refine lv_iconst (v := 1) hx hb dX6_count_59 (by decide) ?_
      refine lM_s_k (k := 1) C hW (by decide) (by decide) dX6_count_60 ?_
      obtain ⟨rfl, rfl⟩ := Prod.mk.inj (Option.some.inj hm)
      exact en_i C hr hlk hW dX6_count_61
    · rw [if_neg ht2] at hm
      by_cases ht3 : p1 = (2 : Int32)
      · rw [if_pos ht3] at hm
        refine lv_tableIn (tgt := 62) (off := 61) hx hb dX6_count_1 (by rw [ht3]; decide) (by rw [ht3]; decide) (by rw [ht3]; rfl) (by decide) ?_
        refine lv_aload_n hx hb dX6_count_62 rfl (lv_at hl 0 rfl) ?_
        refine gM_s C hW q787 dX6_count_63 ?_
        refine lv_iconst (v := 3) hx hb dX6_count_66 (by decide) ?_
        refine lM_s_k (k := 3) C hW (by decide) (by decide) dX6_count_67 ?_
        obtain ⟨rfl, rfl⟩ := Prod.mk.inj (Option.some.inj hm)
        exact en_i C hr hlk hW dX6_count_68
      · rw [if_neg ht3] at hm
        by_cases ht4 : p1 = (3 : Int32)
        · rw [if_pos ht4] at hm
          refine lv_tableIn (tgt := 69) (off := 68) hx hb dX6_count_1 (by rw [ht4]; decide) (by rw [ht4]; decide) (by rw [ht4]; rfl) (by decide) ?_
          refine lv_aload_n hx hb dX6_count_69 rfl (lv_at hl 0 rfl) ?_
          refine gM_s C hW q787 dX6_count_70 ?_
          refine lv_iconst (v := 2) hx hb dX6_count_73 (by decide) ?_
          refine lM_s_k (k := 2) C hW (by decide) (by decide) dX6_count_74 ?_
          obtain ⟨rfl, rfl⟩ := Prod.mk.inj (Option.some.inj hm)
          exact en_i C hr hlk hW dX6_count_75
        · rw [if_neg ht4] at hm
          by_cases ht5 : p1 = (4 : Int32)
          · rw [if_pos ht5] at hm
            refine lv_tableIn (tgt := 76) (off := 75) hx hb dX6_count_1 (by rw [ht5]; decide) (by rw [ht5]; decide) (by rw [ht5]; rfl) (by decide) ?_
            refine lv_aload_n hx hb dX6_count_76 rfl (lv_at hl 0 rfl) ?_
            obtain ⟨v7, e6, hm⟩ := mi_bind hm
            refine cs_i (q0 := 0) (As := []) (rest := []) C hW (c_X6_voices e6) kX6_voices q985 rfl rfl rfl rfl rfl hl.1 ⟨Nat.le_of_ble_eq_true rfl, Nat.le_of_ble_eq_true rfl⟩ ⟨Nat.le_refl 0, Nat.le_refl 0⟩ (Nat.le_of_ble_eq_true rfl) dX6_count_77 (fun H locs hW => ?_)
            obtain ⟨rfl, rfl⟩ := Prod.mk.inj (Option.some.inj hm)
            exact en_i C hr hlk hW dX6_count_80
          · rw [if_neg ht5] at hm
            by_cases ht8 : p1 = (5 : Int32)
            · rw [if_pos ht8] at hm
              refine lv_tableIn (tgt := 81) (off := 80) hx hb dX6_count_1 (by rw [ht8]; decide) (by rw [ht8]; decide) (by rw [ht8]; rfl) (by decide) ?_
              refine lv_aload_n hx hb dX6_count_81 rfl (lv_at hl 0 rfl) ?_
              refine gM_taped C hW q800 dX6_count_82 ?_
              obtain ⟨rfl, rfl⟩ := Prod.mk.inj (Option.some.inj hm)
              exact en_i C hr hlk hW dX6_count_85
            · rw [if_neg ht8] at hm
              by_cases ht9 : p1 = (6 : Int32)
              · rw [if_pos ht9] at hm
                refine lv_tableIn (tgt := 86) (off := 85) hx hb dX6_count_1 (by rw [ht9]; decide) (by rw [ht9]; decide) (by rw [ht9]; rfl) (by decide) ?_
                refine lv_aload_n hx hb dX6_count_86 rfl (lv_at hl 0 rfl) ?_
                refine gM_s C hW q787 dX6_count_87 ?_
                refine lv_iconst (v := 4) hx hb dX6_count_90 (by decide) ?_
                refine lM_s_k (k := 4) C hW (by decide) (by decide) dX6_count_91 ?_
                obtain ⟨rfl, rfl⟩ := Prod.mk.inj (Option.some.inj hm)
                exact en_i C hr hlk hW dX6_count_92
              · rw [if_neg ht9] at hm
                by_cases ht10 : p1 = (7 : Int32)
                · rw [if_pos ht10] at hm
                  refine lv_tableIn (tgt := 93) (off := 92) hx hb dX6_count_1 (by rw [ht10]; decide) (by rw [ht10]; decide) (by rw [ht10]; rfl) (by decide) ?_
                  refine lv_aload_n hx hb dX6_count_93 rfl (lv_at hl 0 rfl) ?_
                  obtain ⟨v12, e11, hm⟩ := mi_bind hm
                  refine cs_i (q0 := 0) (As := []) (rest := []) C hW (c_X6_heldSpots e11) kX6_heldSpots q1285 rfl rfl rfl rfl rfl hl.1 ⟨Nat.le_of_ble_eq_true rfl, Nat.le_of_ble_eq_true rfl⟩ ⟨Nat.le_refl 0, Nat.le_refl 0⟩ (Nat.le_of_ble_eq_true rfl) dX6_count_94 (fun H locs hW => ?_)
                  obtain ⟨rfl, rfl⟩ := Prod.mk.inj (Option.some.inj hm)
                  exact en_i C hr hlk hW dX6_count_97
                · rw [if_neg ht10] at hm
                  refine lv_tableOut (tgt := 98) hx hb dX6_count_1 (by have ht := tab_out (x := p1) 0 8 (by decide) (fun k hk => by rcases (show k = 0 ∨ k = 1 ∨ k = 2 ∨ k = 3 ∨ k = 4 ∨ k = 5 ∨ k = 6 ∨ k = 7 by omega) with rfl | rfl | rfl | rfl | rfl | rfl | rfl | rfl <;> first | exact ht1 | exact ht2 | exact ht3 | exact ht4 | exact ht5 | exact ht8 | exact ht9 | exact ht10); omega) (by decide) ?_
                  refine lv_aload_n hx hb dX6_count_98 rfl (lv_at hl 0 rfl) ?_
                  refine lv_ldc hx hb C.2.2.2.1 (C.2.2.2.2.1 _ q865) dX6_count_99 ?_
                  obtain ⟨q14, e13, hm⟩ := mi_bind hm
                  refine cs_i (q0 := 0) (As := [.int (-1000001 : Int32)]) (rest := []) C hW (c_X6_finds e13) kX6_finds q866 rfl rfl rfl rfl rfl hl.1 ⟨Nat.le_of_ble_eq_true rfl, Nat.le_of_ble_eq_true rfl⟩ ⟨Nat.le_refl 0, Nat.le_refl 0⟩ (Nat.le_of_ble_eq_true rfl) dX6_count_101 (fun H locs hW => ?_)
                  obtain ⟨rfl, rfl⟩ := Prod.mk.inj (Option.some.inj hm)
                  exact en_i C hr hlk hW dX6_count_104
theorem kX6_count : KM yX6_count cX6_count 2 (some .int) 1 := ⟨q1282, q1283, q72, q1284, by decide +kernel, by decide +kernel, by decide +kernel⟩
def X6_status_b51 (k25 : MS → Int32 → Int32 → Int32 → Option (Int32 × MS)) (σ : MS) (x1 : Int32) (x3 : Int32) (y0 : Int32) (y1 : Int32) : Option (Int32 × MS) := k25 σ x1 (y0 + y1) ((x3 + (1 : Int32)))
set_option maxHeartbeats 4000000 in
set_option maxRecDepth 100000 in
theorem wX6_status_b51 {p : Program} {l : Launch} {e : Env} {s : State} {m : MethodId} {below : List Frame} {meth : Method} {c : Code} {D : va_G} {cy cz : ClassId} {G : GT} {A : Nat → Prop} {args : Array Value} {a : Nat → Nat} {r : Int32} {σr : MS} (C : Cx p s m args c cX6_status 4 "PumpTalkModel" D cy cz G A) (hr : meth.sig.returnType = some .int) (hlk : meth.locks = false) {k25 : MS → Int32 → Int32 → Int32 → Option (Int32 × MS)} (hk25 : ∀ (σ : MS) (x1 : Int32) (x2 : Int32) (x3 : Int32) (H : Heap) (locs : List Loc) (ls : Array Slot), k25 σ x1 x2 x3 = some (r, σr) → Wd D A s.heap H locs (cM a cy σ) → lv_has ls 4 [(0, .ref (a 0)), (1, .int x1), (2, .int x2), (3, .int x3)] → W p l e (rmz 1 25) s m args below meth c H locs 0 0 (MQ below (QI D cy cz A (cM a cy σr) r) args s 0 0 A) (F0 m 25 ls [])) : ∀ (σ : MS) (x1 : Int32) (x3 : Int32) (y0 : Int32) (y1 : Int32) (H : Heap) (locs : List Loc) (ls : Array Slot), X6_status_b51 k25 σ x1 x3 y0 y1 = some (r, σr) → Wd D A s.heap H locs (cM a cy σ) → lv_has ls 4 [(0, .ref (a 0)), (1, .int x1), (3, .int x3)] → W p l e (rmz 1 25) s m args below meth c H locs 0 0 (MQ below (QI D cy cz A (cM a cy σr) r) args s 0 0 A) (F0 m 51 ls [.int y1, .int y0]) := by
  have hx := C.1
  have hb := C.2.1
  intro σ x1 x3 y0 y1 H locs ls hm hW hl
  unfold X6_status_b51 at hm
  refine lv_iadd hx hb dX6_status_51 ?_
  refine lv_istore_n (lv' := [(2, .int (y0 + y1)), (0, .ref (a 0)), (1, .int x1), (3, .int x3)]) hx hb dX6_status_52 rfl hl (by decide) rfl (fun ls hl => ?_)
  refine lv_iinc (v := (x3 + (1 : Int32))) (lv' := [(3, .int (x3 + (1 : Int32))), (2, .int (y0 + y1)), (0, .ref (a 0)), (1, .int x1)]) hx hb dX6_status_53 hl (k := 3) rfl (congrArg (fun z : Int32 => x3 + z) (by decide)) (by decide) rfl (fun ls hl => ?_)
  refine lv_goto (tgt := 25) hx hb dX6_status_56 (by decide) ?_
  exact hk25 σ x1 (y0 + y1) ((x3 + (1 : Int32))) _ _ _ hm hW (lv_sub hl [2, 3, 1, 0] rfl)
def X6_status_b41 (k25 : MS → Int32 → Int32 → Int32 → Option (Int32 × MS)) (σ : MS) (x1 : Int32) (x3 : Int32) (y0 : Int32) : Option (Int32 × MS) := ai x3 7 (X6_status_b51 k25 σ x1 x3 y0 ((σ 4 (Int32.toNatClampNeg x3))))
set_option maxHeartbeats 4000000 in
set_option maxRecDepth 100000 in
theorem wX6_status_b41 {p : Program} {l : Launch} {e : Env} {s : State} {m : MethodId} {below : List Frame} {meth : Method} {c : Code} {D : va_G} {cy cz : ClassId} {G : GT} {A : Nat → Prop} {args : Array Value} {a : Nat → Nat} {r : Int32} {σr : MS} (C : Cx p s m args c cX6_status 4 "PumpTalkModel" D cy cz G A) (hr : meth.sig.returnType = some .int) (hlk : meth.locks = false) {k25 : MS → Int32 → Int32 → Int32 → Option (Int32 × MS)} (hk25 : ∀ (σ : MS) (x1 : Int32) (x2 : Int32) (x3 : Int32) (H : Heap) (locs : List Loc) (ls : Array Slot), k25 σ x1 x2 x3 = some (r, σr) → Wd D A s.heap H locs (cM a cy σ) → lv_has ls 4 [(0, .ref (a 0)), (1, .int x1), (2, .int x2), (3, .int x3)] → W p l e (rmz 1 25) s m args below meth c H locs 0 0 (MQ below (QI D cy cz A (cM a cy σr) r) args s 0 0 A) (F0 m 25 ls [])) : ∀ (σ : MS) (x1 : Int32) (x3 : Int32) (y0 : Int32) (H : Heap) (locs : List Loc) (ls : Array Slot), X6_status_b41 k25 σ x1 x3 y0 = some (r, σr) → Wd D A s.heap H locs (cM a cy σ) → lv_has ls 4 [(0, .ref (a 0)), (1, .int x1), (3, .int x3)] → W p l e (rmz 1 25) s m args below meth c H locs 0 0 (MQ below (QI D cy cz A (cM a cy σr) r) args s 0 0 A) (F0 m 41 ls [.int y0]) := by
  have hx := C.1
  have hb := C.2.1
  intro σ x1 x3 y0 H locs ls hm hW hl
  unfold X6_status_b41 at hm
  refine lv_aload_n hx hb dX6_status_41 rfl (lv_at hl 0 rfl) ?_
  refine gM_statuses C hW q791 dX6_status_42 ?_
  refine lv_iload_n hx hb dX6_status_45 rfl (lv_at hl 2 rfl) ?_
  obtain ⟨hi1, hm⟩ := mi_ai hm
  refine lM_statuses C hW hi1 dX6_status_46 ?_
  refine lv_goto (tgt := 51) hx hb dX6_status_47 (by decide) ?_
  exact wX6_status_b51 C hr hlk hk25 σ x1 x3 y0 ((σ 4 (Int32.toNatClampNeg x3))) _ _ _ hm hW (lv_sub hl [0, 1, 2] rfl)
def X6_status_b25 : Nat → MS → Int32 → Int32 → Int32 → Option (Int32 × MS)
  | 0, _, _, _, _ => none
  | n + 1, σ, x1, x2, x3 => if (7 : Int32) ≤ x3 then (some (x2, σ)) else (if x1 < (0 : Int32) then (X6_status_b41 (X6_status_b25 n) σ x1 x3 x2) else (if x3 = x1 then (X6_status_b41 (X6_status_b25 n) σ x1 x3 x2) else (X6_status_b51 (X6_status_b25 n) σ x1 x3 x2 (0 : Int32))))
set_option maxHeartbeats 4000000 in
set_option maxRecDepth 100000 in
theorem wX6_status_b25 {p : Program} {l : Launch} {e : Env} {s : State} {m : MethodId} {below : List Frame} {meth : Method} {c : Code} {D : va_G} {cy cz : ClassId} {G : GT} {A : Nat → Prop} {args : Array Value} {a : Nat → Nat} {r : Int32} {σr : MS} (C : Cx p s m args c cX6_status 4 "PumpTalkModel" D cy cz G A) (hr : meth.sig.returnType = some .int) (hlk : meth.locks = false) : ∀ (n : Nat) (σ : MS) (x1 : Int32) (x2 : Int32) (x3 : Int32) (H : Heap) (locs : List Loc) (ls : Array Slot), X6_status_b25 n σ x1 x2 x3 = some (r, σr) → Wd D A s.heap H locs (cM a cy σ) → lv_has ls 4 [(0, .ref (a 0)), (1, .int x1), (2, .int x2), (3, .int x3)] → W p l e (rmz 1 25) s m args below meth c H locs 0 0 (MQ below (QI D cy cz A (cM a cy σr) r) args s 0 0 A) (F0 m 25 ls []) := by
  have hx := C.1
  have hb := C.2.1
  intro n
  induction n with
  | zero =>
    intro σ x1 x2 x3 H locs ls hm
    rw [X6_status_b25] at hm
    cases hm
  | succ n ih =>
    intro σ x1 x2 x3 H locs ls hm hW hl
    rw [X6_status_b25] at hm
    refine lv_iload_n hx hb dX6_status_25 rfl (lv_at hl 3 rfl) ?_
    refine lv_bipush (v := 7) hx hb dX6_status_26 (by decide) ?_
    refine lv_icmp_ge (tgt := 59) hx hb dX6_status_28 (by decide) (fun hc2 => ?_) (fun hc2 => ?_)
    · rw [if_pos hc2] at hm
      refine lv_iload_n hx hb dX6_status_59 rfl (lv_at hl 2 rfl) ?_
      obtain ⟨rfl, rfl⟩ := Prod.mk.inj (Option.some.inj hm)
      exact en_i C hr hlk hW dX6_status_60
    · rw [if_neg hc2] at hm
      refine lv_iload_n hx hb dX6_status_31 rfl (lv_at hl 2 rfl) ?_
      refine lv_iload_n hx hb dX6_status_32 rfl (lv_at hl 1 rfl) ?_
      refine lv_if_lt (tgt := 41) hx hb dX6_status_33 (by decide) (fun hc3 => ?_) (fun hc3 => ?_)
      · rw [if_pos hc3] at hm
        exact wX6_status_b41 C hr hlk ih σ x1 x3 x2 _ _ _ hm hW (lv_sub hl [0, 1, 3] rfl)
      · rw [if_neg hc3] at hm
        refine lv_iload_n hx hb dX6_status_36 rfl (lv_at hl 3 rfl) ?_
        refine lv_iload_n hx hb dX6_status_37 rfl (lv_at hl 1 rfl) ?_
        refine lv_icmp_ne (tgt := 50) hx hb dX6_status_38 (by decide) (fun hc4 => ?_) (fun hc4 => ?_)
        · rw [if_neg hc4] at hm
          refine lv_iconst (v := 0) hx hb dX6_status_50 (by decide) ?_
          exact wX6_status_b51 C hr hlk ih σ x1 x3 x2 (0 : Int32) _ _ _ hm hW (lv_sub hl [0, 1, 3] rfl)
        · rw [if_pos hc4] at hm
          exact wX6_status_b41 C hr hlk ih σ x1 x3 x2 _ _ _ hm hW (lv_sub hl [0, 1, 3] rfl)
def X6_status (σ : MS) (p1 : Int32) : Option (Int32 × MS) := (X6_in (Int32.toInt64 p1) (-1 : Int64) (6 : Int64)).bind fun v6 => if v6 = (0 : Int32) then ((X6_finds σ (-1000001 : Int32)).bind fun q9 => some (q9.1, q9.2)) else (X6_status_b25 FU σ p1 (0 : Int32) (0 : Int32))
set_option maxHeartbeats 4000000 in
set_option maxRecDepth 100000 in
theorem c_X6_status {l : Launch} {D : va_G} {cy cz : ClassId} {G : GT} {a : Nat → Nat} {σ : MS} {p1 : Int32} {r : Int32} {σr : MS} (hm : X6_status σ p1 = some (r, σr)) : CtI l D cy cz G yX6_status cX6_status 4 (some .int) 1 25 [.ref (a 0), .int p1] (cM a cy σ) (cM a cy σr) r := by
  refine ct_i (own := "PumpTalkModel") (by decide) rfl (Nat.le_of_ble_eq_true rfl) ?_
  intro p e s m below meth c ls A C hr hlk hW hl
  have hx := C.1
  have hb := C.2.1
  have hl : lv_has ls 4 [(0, .ref (a 0)), (1, .int p1)] := hl
  unfold X6_status at hm
  refine lv_iload_n hx hb dX6_status_0 rfl (lv_at hl 1 rfl) ?_
  refine lv_i2l hx hb dX6_status_1 rfl ?_
  refine lv_ldc2 hx hb C.2.2.2.1 (C.2.2.2.2.1 _ q1293) dX6_status_2 ?_
  refine lv_ldc2 hx hb C.2.2.2.1 (C.2.2.2.2.1 _ q861) dX6_status_5 ?_
  obtain ⟨v6, e5, hm⟩ := mi_bind hm
  refine cS_i (As := [.long (Int32.toInt64 p1), .long (-1 : Int64), .long (6 : Int64)]) (rest := []) C hW (c_X6_in e5) kX6_in q862 rfl rfl hl.1 ⟨Nat.le_of_ble_eq_true rfl, Nat.le_of_ble_eq_true rfl⟩ ⟨Nat.le_refl 0, Nat.le_refl 0⟩ (Nat.le_of_ble_eq_true rfl) dX6_status_8 (fun H locs hW => ?_)
  refine lv_if_ne (tgt := 21) hx hb dX6_status_11 (by decide) (fun hc7 => ?_) (fun hc7 => ?_)
  · rw [if_neg hc7] at hm
    refine lv_iconst (v := 0) hx hb dX6_status_21 (by decide) ?_
    refine lv_istore_n (lv' := [(2, .int (0 : Int32)), (0, .ref (a 0)), (1, .int p1)]) hx hb dX6_status_22 rfl hl (by decide) rfl (fun ls hl => ?_)
    refine lv_iconst (v := 0) hx hb dX6_status_23 (by decide) ?_
    refine lv_istore_n (lv' := [(3, .int (0 : Int32)), (2, .int (0 : Int32)), (0, .ref (a 0)), (1, .int p1)]) hx hb dX6_status_24 rfl hl (by decide) rfl (fun ls hl => ?_)
    exact wX6_status_b25 C hr hlk FU σ p1 (0 : Int32) (0 : Int32) _ _ _ hm hW (lv_sub hl [2, 3, 1, 0] rfl)
  · rw [if_pos hc7] at hm
    refine lv_aload_n hx hb dX6_status_14 rfl (lv_at hl 0 rfl) ?_
    refine lv_ldc hx hb C.2.2.2.1 (C.2.2.2.2.1 _ q865) dX6_status_15 ?_
    obtain ⟨q9, e8, hm⟩ := mi_bind hm
    refine cs_i (q0 := 0) (As := [.int (-1000001 : Int32)]) (rest := []) C hW (c_X6_finds e8) kX6_finds q866 rfl rfl rfl rfl rfl hl.1 ⟨Nat.le_of_ble_eq_true rfl, Nat.le_of_ble_eq_true rfl⟩ ⟨Nat.le_refl 0, Nat.le_refl 0⟩ (Nat.le_of_ble_eq_true rfl) dX6_status_17 (fun H locs hW => ?_)
    obtain ⟨rfl, rfl⟩ := Prod.mk.inj (Option.some.inj hm)
    exact en_i C hr hlk hW dX6_status_20
theorem kX6_status : KM yX6_status cX6_status 4 (some .int) 1 := ⟨q1290, q1291, q72, q1292, by decide +kernel, by decide +kernel, by decide +kernel⟩
