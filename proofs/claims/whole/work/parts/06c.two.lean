def X4_takeOver (X : XS) : Option (XS) := (some (va_up X 0 (sr (X 0) 0 (va_cpy (X 1 0) (X 0 0) 0 0 8)))).bind fun s1 => (some (va_up s1 0 (sr (s1 0) 1 (va_cpy (s1 1 1) (s1 0 1) 0 0 8)))).bind fun s3 => (some (va_up s3 0 (sr (s3 0) 2 (va_cpy (s3 1 2) (s3 0 2) 0 0 48)))).bind fun s5 => (some (va_up s5 0 (sr (s5 0) 3 (va_cpy (s5 1 3) (s5 0 3) 0 0 10)))).bind fun s7 => (some (va_up s7 0 (su (s7 0) 11 4 (s7 1 11 4)))).bind fun s9 => (some (va_up s9 0 (su (s9 0) 11 5 (s9 1 11 5)))).bind fun s11 => (some (va_up s11 0 (su (s11 0) 11 6 (s11 1 11 6)))).bind fun s13 => (some (va_up s13 0 (su (s13 0) 11 7 (s13 1 11 7)))).bind fun s15 => (some (va_up s15 0 (su (s15 0) 11 8 (s15 1 11 8)))).bind fun s17 => (some (va_up s17 0 (su (s17 0) 11 9 (s17 1 11 9)))).bind fun s19 => (some (va_up s19 0 (su (s19 0) 11 10 (s19 1 11 10)))).bind fun s21 => some s21
set_option maxHeartbeats 4000000 in
set_option maxRecDepth 100000 in
theorem c_X4_takeOver {l : Launch} {D : va_G} {cy cz : ClassId} {G : GT} {o : Nat → Nat → Nat} {X : XS} {Xr : XS} (hm : X4_takeOver X = some Xr) : CtV l D cy cz G yX4_takeOver cX4_takeOver 2 none 1 60 [.ref (o 0 0), .ref (o 1 0)] (cSS o cy X) (cSS o cy Xr) () := by
  refine ct_v (own := "PumpTalk$Square") (by decide) rfl (Nat.le_of_ble_eq_true rfl) ?_
  intro p e s m below meth c ls A C hr hlk hW hl
  have hx := C.1
  have hb := C.2.1
  have hl : lv_has ls 2 [(0, .ref (o 0 0)), (1, .ref (o 1 0))] := hl
  unfold X4_takeOver at hm
  refine lv_aload_n hx hb dX4_takeOver_0 rfl (lv_at hl 1 rfl) ?_
  refine gSq_kindOf C (ws_1 hW) q95 dX4_takeOver_1 ?_
  refine lv_iconst (v := 0) hx hb dX4_takeOver_4 (by decide) ?_
  refine lv_aload_n hx hb dX4_takeOver_5 rfl (lv_at hl 0 rfl) ?_
  refine gSq_kindOf C (ws_0 hW) q95 dX4_takeOver_6 ?_
  refine lv_iconst (v := 0) hx hb dX4_takeOver_9 (by decide) ?_
  refine lv_bipush (v := 8) hx hb dX4_takeOver_10 (by decide) ?_
  refine kS_kindOf C hW hl.1 q404 (Nat.le_of_ble_eq_true rfl) (Nat.le_of_ble_eq_true rfl) dX4_takeOver_12 (fun H locs hW => ?_)
  obtain ⟨s1, e2, hm⟩ := mi_bind hm
  rw [Option.some.inj e2] at hW
  refine lv_aload_n hx hb dX4_takeOver_15 rfl (lv_at hl 1 rfl) ?_
  refine gSq_voiceOf C (ws_1 hW) q96 dX4_takeOver_16 ?_
  refine lv_iconst (v := 0) hx hb dX4_takeOver_19 (by decide) ?_
  refine lv_aload_n hx hb dX4_takeOver_20 rfl (lv_at hl 0 rfl) ?_
  refine gSq_voiceOf C (ws_0 hW) q96 dX4_takeOver_21 ?_
  refine lv_iconst (v := 0) hx hb dX4_takeOver_24 (by decide) ?_
  refine lv_bipush (v := 8) hx hb dX4_takeOver_25 (by decide) ?_
  refine kS_voiceOf C hW hl.1 q404 (Nat.le_of_ble_eq_true rfl) (Nat.le_of_ble_eq_true rfl) dX4_takeOver_27 (fun H locs hW => ?_)
  obtain ⟨s3, e4, hm⟩ := mi_bind hm
  rw [Option.some.inj e4] at hW
  refine lv_aload_n hx hb dX4_takeOver_30 rfl (lv_at hl 1 rfl) ?_
  refine gSq_views C (ws_1 hW) q97 dX4_takeOver_31 ?_
  refine lv_iconst (v := 0) hx hb dX4_takeOver_34 (by decide) ?_
  refine lv_aload_n hx hb dX4_takeOver_35 rfl (lv_at hl 0 rfl) ?_
  refine gSq_views C (ws_0 hW) q97 dX4_takeOver_36 ?_
  refine lv_iconst (v := 0) hx hb dX4_takeOver_39 (by decide) ?_
  refine lv_bipush (v := 48) hx hb dX4_takeOver_40 (by decide) ?_
  refine kS_views C hW hl.1 q404 (Nat.le_of_ble_eq_true rfl) (Nat.le_of_ble_eq_true rfl) dX4_takeOver_42 (fun H locs hW => ?_)
  obtain ⟨s5, e6, hm⟩ := mi_bind hm
  rw [Option.some.inj e6] at hW
  refine lv_aload_n hx hb dX4_takeOver_45 rfl (lv_at hl 1 rfl) ?_
  refine gSq_spots C (ws_1 hW) q98 dX4_takeOver_46 ?_
  refine lv_iconst (v := 0) hx hb dX4_takeOver_49 (by decide) ?_
  refine lv_aload_n hx hb dX4_takeOver_50 rfl (lv_at hl 0 rfl) ?_
  refine gSq_spots C (ws_0 hW) q98 dX4_takeOver_51 ?_
  refine lv_iconst (v := 0) hx hb dX4_takeOver_54 (by decide) ?_
  refine lv_bipush (v := 10) hx hb dX4_takeOver_55 (by decide) ?_
  refine kS_spots C hW hl.1 q404 (Nat.le_of_ble_eq_true rfl) (Nat.le_of_ble_eq_true rfl) dX4_takeOver_57 (fun H locs hW => ?_)
  obtain ⟨s7, e8, hm⟩ := mi_bind hm
  rw [Option.some.inj e8] at hW
  refine lv_aload_n hx hb dX4_takeOver_60 rfl (lv_at hl 0 rfl) ?_
  refine lv_aload_n hx hb dX4_takeOver_61 rfl (lv_at hl 1 rfl) ?_
  refine gSq_people C (ws_1 hW) q100 dX4_takeOver_62 ?_
  refine pS0_people C hW q100 dX4_takeOver_65 (fun H locs hW => ?_)
  obtain ⟨s9, e10, hm⟩ := mi_bind hm
  rw [Option.some.inj e10] at hW
  refine lv_aload_n hx hb dX4_takeOver_68 rfl (lv_at hl 0 rfl) ?_
  refine lv_aload_n hx hb dX4_takeOver_69 rfl (lv_at hl 1 rfl) ?_
  refine gSq_minute C (ws_1 hW) q103 dX4_takeOver_70 ?_
  refine pS0_minute C hW q103 dX4_takeOver_73 (fun H locs hW => ?_)
  obtain ⟨s11, e12, hm⟩ := mi_bind hm
  rw [Option.some.inj e12] at hW
  refine lv_aload_n hx hb dX4_takeOver_76 rfl (lv_at hl 0 rfl) ?_
  refine lv_aload_n hx hb dX4_takeOver_77 rfl (lv_at hl 1 rfl) ?_
  refine gSq_water C (ws_1 hW) q105 dX4_takeOver_78 ?_
  refine pS0_water C hW q105 dX4_takeOver_81 (fun H locs hW => ?_)
  obtain ⟨s13, e14, hm⟩ := mi_bind hm
  rw [Option.some.inj e14] at hW
  refine lv_aload_n hx hb dX4_takeOver_84 rfl (lv_at hl 0 rfl) ?_
  refine lv_aload_n hx hb dX4_takeOver_85 rfl (lv_at hl 1 rfl) ?_
  refine gSq_topic C (ws_1 hW) q107 dX4_takeOver_86 ?_
  refine pS0_topic C hW q107 dX4_takeOver_89 (fun H locs hW => ?_)
  obtain ⟨s15, e16, hm⟩ := mi_bind hm
  rw [Option.some.inj e16] at hW
  refine lv_aload_n hx hb dX4_takeOver_92 rfl (lv_at hl 0 rfl) ?_
  refine lv_aload_n hx hb dX4_takeOver_93 rfl (lv_at hl 1 rfl) ?_
  refine gSq_first C (ws_1 hW) q110 dX4_takeOver_94 ?_
  refine pS0_first C hW q110 dX4_takeOver_97 (fun H locs hW => ?_)
  obtain ⟨s17, e18, hm⟩ := mi_bind hm
  rw [Option.some.inj e18] at hW
  refine lv_aload_n hx hb dX4_takeOver_100 rfl (lv_at hl 0 rfl) ?_
  refine lv_aload_n hx hb dX4_takeOver_101 rfl (lv_at hl 1 rfl) ?_
  refine gSq_second C (ws_1 hW) q112 dX4_takeOver_102 ?_
  refine pS0_second C hW q112 dX4_takeOver_105 (fun H locs hW => ?_)
  obtain ⟨s19, e20, hm⟩ := mi_bind hm
  rw [Option.some.inj e20] at hW
  refine lv_aload_n hx hb dX4_takeOver_108 rfl (lv_at hl 0 rfl) ?_
  refine lv_aload_n hx hb dX4_takeOver_109 rfl (lv_at hl 1 rfl) ?_
  refine gSq_z C (ws_1 hW) q114 dX4_takeOver_110 ?_
  refine pS0_z C hW q114 dX4_takeOver_113 (fun H locs hW => ?_)
  obtain ⟨s21, e22, hm⟩ := mi_bind hm
  rw [Option.some.inj e22] at hW
  obtain rfl := Option.some.inj hm
  exact en_v C hr hlk hW dX4_takeOver_116
theorem kX4_takeOver : KM yX4_takeOver cX4_takeOver 2 none 1 := ⟨q401, q402, q68, q403, by decide +kernel, by decide +kernel, by decide +kernel⟩
def X4_thinksLike_b15 (X : XS) : Nat → Int32 → Option (Int32)
  | 0, _ => none
  | n + 1, x2 => if ((X 0 11 4) * (6 : Int32)) ≤ x2 then (some (1 : Int32)) else (ai x2 48 (ai x2 48 (if (X 0 2 (Int32.toNatClampNeg x2)) = (X 1 2 (Int32.toNatClampNeg x2)) then (X4_thinksLike_b15 X n ((x2 + (1 : Int32)))) else (some (0 : Int32)))))
set_option maxHeartbeats 4000000 in
set_option maxRecDepth 100000 in
theorem wX4_thinksLike_b15 {p : Program} {l : Launch} {e : Env} {s : State} {m : MethodId} {below : List Frame} {meth : Method} {c : Code} {D : va_G} {cy cz : ClassId} {G : GT} {A : Nat → Prop} {args : Array Value} {o : Nat → Nat → Nat} {r : Int32} {X : XS} (C : Cx p s m args c cX4_thinksLike 3 "PumpTalk$Square" D cy cz G A) (hr : meth.sig.returnType = some .boolean) (hlk : meth.locks = false) : ∀ (n : Nat) (x2 : Int32) (H : Heap) (locs : List Loc) (ls : Array Slot), X4_thinksLike_b15 X n x2 = some r → Wd D A s.heap H locs (cSS o cy X) → lv_has ls 3 [(0, .ref (o 0 0)), (1, .ref (o 1 0)), (2, .int x2)] → W p l e (rmz 0 0) s m args below meth c H locs 0 0 (MQ below (QI D cy cz A (cSS o cy X) r) args s 0 0 A) (F0 m 15 ls []) := by
  have hx := C.1
  have hb := C.2.1
  intro n
  induction n with
  | zero =>
    intro x2 H locs ls hm
    rw [X4_thinksLike_b15] at hm
    cases hm
  | succ n ih =>
    intro x2 H locs ls hm hW hl
    rw [X4_thinksLike_b15] at hm
    refine lv_iload_n hx hb dX4_thinksLike_15 rfl (lv_at hl 2 rfl) ?_
    refine lv_aload_n hx hb dX4_thinksLike_16 rfl (lv_at hl 0 rfl) ?_
    refine gSq_people C (ws_0 hW) q100 dX4_thinksLike_17 ?_
    refine lv_bipush (v := 6) hx hb dX4_thinksLike_20 (by decide) ?_
    refine lv_imul hx hb dX4_thinksLike_22 ?_
    refine lv_icmp_ge (tgt := 49) hx hb dX4_thinksLike_23 (by decide) (fun hc1 => ?_) (fun hc1 => ?_)
    · rw [if_pos hc1] at hm
      refine lv_iconst (v := 1) hx hb dX4_thinksLike_49 (by decide) ?_
      obtain rfl := Option.some.inj hm
      exact en_z C hr hlk rfl hW dX4_thinksLike_50
    · rw [if_neg hc1] at hm
      refine lv_aload_n hx hb dX4_thinksLike_26 rfl (lv_at hl 0 rfl) ?_
      refine gSq_views C (ws_0 hW) q97 dX4_thinksLike_27 ?_
      refine lv_iload_n hx hb dX4_thinksLike_30 rfl (lv_at hl 2 rfl) ?_
      obtain ⟨hi2, hm⟩ := mi_ai hm
      refine lSq_views C (ws_0 hW) hi2 dX4_thinksLike_31 ?_
      refine lv_aload_n hx hb dX4_thinksLike_32 rfl (lv_at hl 1 rfl) ?_
      refine gSq_views C (ws_1 hW) q97 dX4_thinksLike_33 ?_
      refine lv_iload_n hx hb dX4_thinksLike_36 rfl (lv_at hl 2 rfl) ?_
      obtain ⟨hi3, hm⟩ := mi_ai hm
      refine lSq_views C (ws_1 hW) hi3 dX4_thinksLike_37 ?_
      refine lv_icmp_eq (tgt := 43) hx hb dX4_thinksLike_38 (by decide) (fun hc4 => ?_) (fun hc4 => ?_)
      · rw [if_pos hc4] at hm
        refine lv_iinc (v := (x2 + (1 : Int32))) (lv' := [(2, .int (x2 + (1 : Int32))), (0, .ref (o 0 0)), (1, .ref (o 1 0))]) hx hb dX4_thinksLike_43 hl (k := 2) rfl (congrArg (fun z : Int32 => x2 + z) (by decide)) (by decide) rfl (fun ls hl => ?_)
        refine lv_goto (tgt := 15) hx hb dX4_thinksLike_46 (by decide) ?_
        exact ih ((x2 + (1 : Int32))) _ _ _ hm hW (lv_sub hl [1, 2, 0] rfl)
      · rw [if_neg hc4] at hm
        refine lv_iconst (v := 0) hx hb dX4_thinksLike_41 (by decide) ?_
        obtain rfl := Option.some.inj hm
        exact en_z C hr hlk rfl hW dX4_thinksLike_42
def X4_thinksLike (X : XS) : Option (Int32) := if (X 0 11 7) = (X 1 11 7) then (X4_thinksLike_b15 X FU (0 : Int32)) else (some (0 : Int32))
set_option maxHeartbeats 4000000 in
set_option maxRecDepth 100000 in
theorem c_X4_thinksLike {l : Launch} {D : va_G} {cy cz : ClassId} {G : GT} {o : Nat → Nat → Nat} {X : XS} {r : Int32} (hm : X4_thinksLike X = some r) : CtI l D cy cz G yX4_thinksLike cX4_thinksLike 3 (some .boolean) 0 0 [.ref (o 0 0), .ref (o 1 0)] (cSS o cy X) (cSS o cy X) r := by
  refine ct_i (own := "PumpTalk$Square") (by decide) rfl (Nat.le_of_ble_eq_true rfl) ?_
  intro p e s m below meth c ls A C hr hlk hW hl
  have hx := C.1
  have hb := C.2.1
  have hl : lv_has ls 3 [(0, .ref (o 0 0)), (1, .ref (o 1 0))] := hl
  unfold X4_thinksLike at hm
  refine lv_aload_n hx hb dX4_thinksLike_0 rfl (lv_at hl 0 rfl) ?_
  refine gSq_topic C (ws_0 hW) q107 dX4_thinksLike_1 ?_
  refine lv_aload_n hx hb dX4_thinksLike_4 rfl (lv_at hl 1 rfl) ?_
  refine gSq_topic C (ws_1 hW) q107 dX4_thinksLike_5 ?_
  refine lv_icmp_eq (tgt := 13) hx hb dX4_thinksLike_8 (by decide) (fun hc5 => ?_) (fun hc5 => ?_)
  · rw [if_pos hc5] at hm
    refine lv_iconst (v := 0) hx hb dX4_thinksLike_13 (by decide) ?_
    refine lv_istore_n (lv' := [(2, .int (0 : Int32)), (0, .ref (o 0 0)), (1, .ref (o 1 0))]) hx hb dX4_thinksLike_14 rfl hl (by decide) rfl (fun ls hl => ?_)
    exact wX4_thinksLike_b15 C hr hlk FU (0 : Int32) _ _ _ hm hW (lv_sub hl [1, 2, 0] rfl)
  · rw [if_neg hc5] at hm
    refine lv_iconst (v := 0) hx hb dX4_thinksLike_11 (by decide) ?_
    obtain rfl := Option.some.inj hm
    exact en_z C hr hlk rfl hW dX4_thinksLike_12
theorem kX4_thinksLike : KM yX4_thinksLike cX4_thinksLike 3 (some .boolean) 1 := ⟨q428, q429, q68, q430, by decide +kernel, by decide +kernel, by decide +kernel⟩
theorem takeOver_1 {X Xr : XS} (hm : X4_takeOver X = some Xr) : Xr 1 = X 1 := by
  simp only [X4_takeOver, Option.bind_some, Option.some.injEq] at hm
  subst hm
  rfl
theorem c_X4_takeOver_2 {l : Launch} {D : va_G} {cy cz : ClassId} {G : GT} {a b : Nat → Nat} {σ τ : MS} {Xr : XS} (hm : X4_takeOver (pr2 σ τ) = some Xr) : CtV l D cy cz G yX4_takeOver cX4_takeOver 2 none 1 60 [.ref (a 0), .ref (b 0)] (cSq a cy σ ++ cSq b cy τ) (cSq a cy (Xr 0) ++ cSq b cy τ) () := by
  have h1 := takeOver_1 hm
  have h := c_X4_takeOver (l := l) (D := D) (cy := cy) (cz := cz) (G := G) (o := fun k => if k = 0 then a else b) hm
  have e : Xr 1 = τ := h1
  have h2 : CtV l D cy cz G yX4_takeOver cX4_takeOver 2 none 1 60 [.ref (a 0), .ref (b 0)] (cSq a cy σ ++ cSq b cy τ) (cSq a cy (Xr 0) ++ cSq b cy (Xr 1)) () := h
  rw [e] at h2
  exact h2
theorem c_X4_thinksLike_2 {l : Launch} {D : va_G} {cy cz : ClassId} {G : GT} {a b : Nat → Nat} {σ τ : MS} {r : Int32} (hm : X4_thinksLike (pr2 σ τ) = some r) : CtI l D cy cz G yX4_thinksLike cX4_thinksLike 3 (some .boolean) 0 0 [.ref (a 0), .ref (b 0)] (cSq a cy σ ++ cSq b cy τ) (cSq a cy σ ++ cSq b cy τ) r :=
  c_X4_thinksLike (l := l) (D := D) (cy := cy) (cz := cz) (G := G) (o := fun k => if k = 0 then a else b) hm
