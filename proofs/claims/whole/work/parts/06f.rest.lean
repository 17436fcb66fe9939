def X2_isWord_b28 (σ : MS) : Nat → Nat → Int32 → Option (Int32)
  | 0, _, _ => none
  | n + 1, j1, x2 => if (nI (strL.getD j1 0)) ≤ x2 then (some (1 : Int32)) else (ai ((σ 6 3) + x2) 120 (ai x2 (strL.getD j1 0) (if (σ 0 (Int32.toNatClampNeg ((σ 6 3) + x2))) = (chs j1 x2) then (X2_isWord_b28 σ n j1 ((x2 + (1 : Int32)))) else (some (0 : Int32)))))
set_option maxHeartbeats 4000000 in
set_option maxRecDepth 100000 in
theorem wX2_isWord_b28 {p : Program} {l : Launch} {e : Env} {s : State} {m : MethodId} {below : List Frame} {meth : Method} {c : Code} {D : va_G} {cy cz : ClassId} {G : GT} {A : Nat → Prop} {args : Array Value} {a : Nat → Nat} {z : ZT} {r : Int32} {σ : MS} (C : Cx p s m args c cX2_isWord 3 "PumpTalk$Reader" D cy cz G A) (hr : meth.sig.returnType = some .boolean) (hlk : meth.locks = false) (hg : GH G z) : ∀ (n : Nat) (j1 : Nat) (x2 : Int32) (H : Heap) (locs : List Loc) (ls : Array Slot), j1 < 11 → X2_isWord_b28 σ n j1 x2 = some r → Wd D A s.heap H locs (cRd a cy σ) → lv_has ls 3 [(0, .ref (a 0)), (1, .ref (z.2.1 j1)), (2, .int x2)] → W p l e (rmz 4 85) s m args below meth c H locs 0 0 (MQ below (QI D cy cz A (cRd a cy σ) r) args s 0 0 A) (F0 m 28 ls []) := by
  have hx := C.1
  have hb := C.2.1
  intro n
  induction n with
  | zero =>
    intro j1 x2 H locs ls hj1 hm
    rw [X2_isWord_b28] at hm
    cases hm
  | succ n ih =>
    intro j1 x2 H locs ls hj1 hm hW hl
    rw [X2_isWord_b28] at hm
    refine lv_iload_n hx hb dX2_isWord_28 rfl (lv_at hl 2 rfl) ?_
    refine lv_aload_n hx hb dX2_isWord_29 rfl (lv_at hl 1 rfl) ?_
    refine cT_i (As := []) (rest := [.int x2]) C hW (c_J0_length hg hj1) hj1 hg rfl kJ0_length_8abf5 q626 rfl rfl hl.1 ⟨Nat.le_of_ble_eq_true rfl, Nat.le_of_ble_eq_true rfl⟩ ⟨Nat.le_refl 0, Nat.le_refl 0⟩ (Nat.le_of_ble_eq_true rfl) dX2_isWord_30 (fun H locs hW => ?_)
    refine lv_icmp_ge (tgt := 63) hx hb dX2_isWord_33 (by decide) (fun hc1 => ?_) (fun hc1 => ?_)
    · rw [if_pos hc1] at hm
      refine lv_iconst (v := 1) hx hb dX2_isWord_63 (by decide) ?_
      obtain rfl := Option.some.inj hm
      exact en_z C hr hlk rfl hW dX2_isWord_64
    · rw [if_neg hc1] at hm
      refine lv_aload_n hx hb dX2_isWord_36 rfl (lv_at hl 0 rfl) ?_
      refine gRd_bytes C hW q146 dX2_isWord_37 ?_
      refine lv_aload_n hx hb dX2_isWord_40 rfl (lv_at hl 0 rfl) ?_
      refine gRd_start C hW q150 dX2_isWord_41 ?_
      refine lv_iload_n hx hb dX2_isWord_44 rfl (lv_at hl 2 rfl) ?_
      refine lv_iadd hx hb dX2_isWord_45 ?_
      obtain ⟨hi2, hm⟩ := mi_ai hm
      refine lRd_bytes C hW hi2 dX2_isWord_46 ?_
      refine lv_aload_n hx hb dX2_isWord_47 rfl (lv_at hl 1 rfl) ?_
      refine lv_iload_n hx hb dX2_isWord_48 rfl (lv_at hl 2 rfl) ?_
      obtain ⟨hi3, hm⟩ := mi_ai hm
      refine cT_i (As := [.int x2]) (rest := [.int (σ 0 (Int32.toNatClampNeg ((σ 6 3) + x2)))]) C hW (c_J0_charAt hg hj1 hi3) hj1 hg rfl kJ0_charAt_5068e q636 rfl rfl hl.1 ⟨Nat.le_of_ble_eq_true rfl, Nat.le_of_ble_eq_true rfl⟩ ⟨Nat.le_refl 0, Nat.le_refl 0⟩ (Nat.le_of_ble_eq_true rfl) dX2_isWord_49 (fun H locs hW => ?_)
      refine lv_icmp_eq (tgt := 57) hx hb dX2_isWord_52 (by decide) (fun hc4 => ?_) (fun hc4 => ?_)
      · rw [if_pos hc4] at hm
        refine lv_iinc (v := (x2 + (1 : Int32))) (lv' := [(2, .int (x2 + (1 : Int32))), (0, .ref (a 0)), (1, .ref (z.2.1 j1))]) hx hb dX2_isWord_57 hl (k := 2) rfl (congrArg (fun z : Int32 => x2 + z) (by decide)) (by decide) rfl (fun ls hl => ?_)
        refine lv_goto (tgt := 28) hx hb dX2_isWord_60 (by decide) ?_
        exact ih j1 ((x2 + (1 : Int32))) _ _ _ hj1 hm hW (lv_sub hl [1, 2, 0] rfl)
      · rw [if_neg hc4] at hm
        refine lv_iconst (v := 0) hx hb dX2_isWord_55 (by decide) ?_
        obtain rfl := Option.some.inj hm
        exact en_z C hr hlk rfl hW dX2_isWord_56
def X2_isWord (σ : MS) (j1 : Nat) : Option (Int32) := if (σ 6 2) = (1 : Int32) then (if ((σ 6 4) - (σ 6 3)) = (nI (strL.getD j1 0)) then (X2_isWord_b28 σ FU j1 (0 : Int32)) else (some (0 : Int32))) else (some (0 : Int32))
set_option maxHeartbeats 4000000 in
set_option maxRecDepth 100000 in
theorem c_X2_isWord {l : Launch} {D : va_G} {cy cz : ClassId} {G : GT} {a : Nat → Nat} {σ : MS} {j1 : Nat} {r : Int32} {z : ZT} (hg : GH G z) (hj1 : j1 < 11) (hm : X2_isWord σ j1 = some r) : CtI l D cy cz G yX2_isWord cX2_isWord 3 (some .boolean) 4 85 [.ref (a 0), .ref (z.2.1 j1)] (cRd a cy σ) (cRd a cy σ) r := by
  refine ct_i (own := "PumpTalk$Reader") (by decide) rfl (Nat.le_of_ble_eq_true rfl) ?_
  intro p e s m below meth c ls A C hr hlk hW hl
  have hx := C.1
  have hb := C.2.1
  have hl : lv_has ls 3 [(0, .ref (a 0)), (1, .ref (z.2.1 j1))] := hl
  unfold X2_isWord at hm
  refine lv_aload_n hx hb dX2_isWord_0 rfl (lv_at hl 0 rfl) ?_
  refine gRd_sort C hW q149 dX2_isWord_1 ?_
  refine lv_iconst (v := 1) hx hb dX2_isWord_4 (by decide) ?_
  refine lv_icmp_ne (tgt := 24) hx hb dX2_isWord_5 (by decide) (fun hc5 => ?_) (fun hc5 => ?_)
  · rw [if_neg hc5] at hm
    refine lv_iconst (v := 0) hx hb dX2_isWord_24 (by decide) ?_
    obtain rfl := Option.some.inj hm
    exact en_z C hr hlk rfl hW dX2_isWord_25
  · rw [if_pos hc5] at hm
    refine lv_aload_n hx hb dX2_isWord_8 rfl (lv_at hl 0 rfl) ?_
    refine gRd_behind C hW q151 dX2_isWord_9 ?_
    refine lv_aload_n hx hb dX2_isWord_12 rfl (lv_at hl 0 rfl) ?_
    refine gRd_start C hW q150 dX2_isWord_13 ?_
    refine lv_isub hx hb dX2_isWord_16 ?_
    refine lv_aload_n hx hb dX2_isWord_17 rfl (lv_at hl 1 rfl) ?_
    refine cT_i (As := []) (rest := [.int ((σ 6 4) - (σ 6 3))]) C hW (c_J0_length hg hj1) hj1 hg rfl kJ0_length_8abf5 q626 rfl rfl hl.1 ⟨Nat.le_of_ble_eq_true rfl, Nat.le_of_ble_eq_true rfl⟩ ⟨Nat.le_refl 0, Nat.le_refl 0⟩ (Nat.le_of_ble_eq_true rfl) dX2_isWord_18 (fun H locs hW => ?_)
    refine lv_icmp_eq (tgt := 26) hx hb dX2_isWord_21 (by decide) (fun hc6 => ?_) (fun hc6 => ?_)
    · rw [if_pos hc6] at hm
      refine lv_iconst (v := 0) hx hb dX2_isWord_26 (by decide) ?_
      refine lv_istore_n (lv' := [(2, .int (0 : Int32)), (0, .ref (a 0)), (1, .ref (z.2.1 j1))]) hx hb dX2_isWord_27 rfl hl (by decide) rfl (fun ls hl => ?_)
      exact wX2_isWord_b28 C hr hlk hg FU j1 (0 : Int32) _ _ _ hj1 hm hW (lv_sub hl [1, 2, 0] rfl)
    · rw [if_neg hc6] at hm
      refine lv_iconst (v := 0) hx hb dX2_isWord_24 (by decide) ?_
      obtain rfl := Option.some.inj hm
      exact en_z C hr hlk rfl hW dX2_isWord_25
theorem kX2_isWord : KM yX2_isWord cX2_isWord 3 (some .boolean) 1 := ⟨q624, q16, q69, q625, by decide +kernel, by decide +kernel, by decide +kernel⟩
def X0_isUnder_b4 : Nat → Int32 → Int32 → Int32 → Option (Int32)
  | 0, _, _, _ => none
  | n + 1, x1, x2, x3 => if (7 : Int32) ≤ x3 then (some (0 : Int32)) else (if x2 < (0 : Int32) then (some (0 : Int32)) else (if (7 : Int32) ≤ x2 then (some (0 : Int32)) else (if x2 = x1 then (some (1 : Int32)) else (ai x2 7 (X0_isUnder_b4 n x1 ((abv (Int32.toNatClampNeg x2))) ((x3 + (1 : Int32))))))))
set_option maxHeartbeats 4000000 in
set_option maxRecDepth 100000 in
theorem wX0_isUnder_b4 {p : Program} {l : Launch} {e : Env} {s : State} {m : MethodId} {below : List Frame} {meth : Method} {c : Code} {D : va_G} {cy cz : ClassId} {G : GT} {A : Nat → Prop} {args : Array Value} {z : ZT} {r : Int32} (C : Cx p s m args c cX0_isUnder 4 "PumpTalk$Kinds" D cy cz G A) (hr : meth.sig.returnType = some .boolean) (hlk : meth.locks = false) (hg : GH G z) : ∀ (n : Nat) (x1 : Int32) (x2 : Int32) (x3 : Int32) (H : Heap) (locs : List Loc) (ls : Array Slot), X0_isUnder_b4 n x1 x2 x3 = some r → Wd D A s.heap H locs ([] : va_W) → lv_has ls 4 [(1, .int x1), (2, .int x2), (3, .int x3)] → W p l e (rmz 0 0) s m args below meth c H locs 0 0 (MQ below (QI D cy cz A ([] : va_W) r) args s 0 0 A) (F0 m 4 ls []) := by
  have hx := C.1
  have hb := C.2.1
  intro n
  induction n with
  | zero =>
    intro x1 x2 x3 H locs ls hm
    rw [X0_isUnder_b4] at hm
    cases hm
  | succ n ih =>
    intro x1 x2 x3 H locs ls hm hW hl
    rw [X0_isUnder_b4] at hm
    refine lv_iload_n hx hb dX0_isUnder_4 rfl (lv_at hl 2 rfl) ?_
    refine lv_bipush (v := 7) hx hb dX0_isUnder_5 (by decide) ?_
    refine lv_icmp_ge (tgt := 39) hx hb dX0_isUnder_7 (by decide) (fun hc1 => ?_) (fun hc1 => ?_)
    · rw [if_pos hc1] at hm
      refine lv_iconst (v := 0) hx hb dX0_isUnder_39 (by decide) ?_
      obtain rfl := Option.some.inj hm
      exact en_z C hr hlk rfl hW dX0_isUnder_40
    · rw [if_neg hc1] at hm
      refine lv_iload_n hx hb dX0_isUnder_10 rfl (lv_at hl 1 rfl) ?_
      refine lv_if_lt (tgt := 39) hx hb dX0_isUnder_11 (by decide) (fun hc2 => ?_) (fun hc2 => ?_)
      · rw [if_pos hc2] at hm
        refine lv_iconst (v := 0) hx hb dX0_isUnder_39 (by decide) ?_
        obtain rfl := Option.some.inj hm
        exact en_z C hr hlk rfl hW dX0_isUnder_40
      · rw [if_neg hc2] at hm
        refine lv_iload_n hx hb dX0_isUnder_14 rfl (lv_at hl 1 rfl) ?_
        refine lv_bipush (v := 7) hx hb dX0_isUnder_15 (by decide) ?_
        refine lv_icmp_ge (tgt := 39) hx hb dX0_isUnder_17 (by decide) (fun hc3 => ?_) (fun hc3 => ?_)
        · rw [if_pos hc3] at hm
          refine lv_iconst (v := 0) hx hb dX0_isUnder_39 (by decide) ?_
          obtain rfl := Option.some.inj hm
          exact en_z C hr hlk rfl hW dX0_isUnder_40
        · rw [if_neg hc3] at hm
          refine lv_iload_n hx hb dX0_isUnder_20 rfl (lv_at hl 1 rfl) ?_
          refine lv_iload_n hx hb dX0_isUnder_21 rfl (lv_at hl 0 rfl) ?_
          refine lv_icmp_ne (tgt := 27) hx hb dX0_isUnder_22 (by decide) (fun hc4 => ?_) (fun hc4 => ?_)
          · rw [if_neg hc4] at hm
            refine va_gets hx hb (hg A s s.heap C.2.2.2.2.2.2.1.2).2.1.1 hW.2.2 C.2.2.2.1 (C.2.2.2.2.1 _ q719) (fun _ h9 => h9) dX0_isUnder_27 ?_
            refine lv_iload_n hx hb dX0_isUnder_30 rfl (lv_at hl 1 rfl) ?_
            obtain ⟨hi5, hm⟩ := mi_ai hm
            refine va_ti hx hb (hg A s s.heap C.2.2.2.2.2.2.1.2).2.1.2 hW.2.2 hi5 rfl dX0_isUnder_31 ?_
            refine lv_istore_n (lv' := [(2, .int (abv (Int32.toNatClampNeg x2))), (1, .int x1), (3, .int x3)]) hx hb dX0_isUnder_32 rfl hl (by decide) rfl (fun ls hl => ?_)
            refine lv_iinc (v := (x3 + (1 : Int32))) (lv' := [(3, .int (x3 + (1 : Int32))), (2, .int (abv (Int32.toNatClampNeg x2))), (1, .int x1)]) hx hb dX0_isUnder_33 hl (k := 2) rfl (congrArg (fun z : Int32 => x3 + z) (by decide)) (by decide) rfl (fun ls hl => ?_)
            refine lv_goto (tgt := 4) hx hb dX0_isUnder_36 (by decide) ?_
            exact ih x1 ((abv (Int32.toNatClampNeg x2))) ((x3 + (1 : Int32))) _ _ _ hm hW (lv_sub hl [2, 1, 0] rfl)
          · rw [if_pos hc4] at hm
            refine lv_iconst (v := 1) hx hb dX0_isUnder_25 (by decide) ?_
            obtain rfl := Option.some.inj hm
            exact en_z C hr hlk rfl hW dX0_isUnder_26
def X0_isUnder (p1 : Int32) (p2 : Int32) : Option (Int32) := X0_isUnder_b4 FU p2 p1 (0 : Int32)
set_option maxHeartbeats 4000000 in
set_option maxRecDepth 100000 in
theorem c_X0_isUnder {l : Launch} {D : va_G} {cy cz : ClassId} {G : GT} {p1 : Int32} {p2 : Int32} {r : Int32} {z : ZT} (hg : GH G z) (hm : X0_isUnder p1 p2 = some r) : CtI l D cy cz G yX0_isUnder cX0_isUnder 4 (some .boolean) 0 0 [.int p1, .int p2] ([] : va_W) ([] : va_W) r := by
  refine ct_i (own := "PumpTalk$Kinds") (by decide) rfl (Nat.le_of_ble_eq_true rfl) ?_
  intro p e s m below meth c ls A C hr hlk hW hl
  have hx := C.1
  have hb := C.2.1
  have hl : lv_has ls 4 [(0, .int p1), (1, .int p2)] := hl
  unfold X0_isUnder at hm
  refine lv_iload_n hx hb dX0_isUnder_0 rfl (lv_at hl 0 rfl) ?_
  refine lv_istore_n (lv' := [(2, .int p1), (0, .int p1), (1, .int p2)]) hx hb dX0_isUnder_1 rfl hl (by decide) rfl (fun ls hl => ?_)
  refine lv_iconst (v := 0) hx hb dX0_isUnder_2 (by decide) ?_
  refine lv_istore_n (lv' := [(3, .int (0 : Int32)), (2, .int p1), (0, .int p1), (1, .int p2)]) hx hb dX0_isUnder_3 rfl hl (by decide) rfl (fun ls hl => ?_)
  exact wX0_isUnder_b4 C hr hlk hg FU p2 p1 (0 : Int32) _ _ _ hm hW (lv_sub hl [3, 1, 0] rfl)
theorem kX0_isUnder : KS yX0_isUnder cX0_isUnder 4 (some .boolean) 2 := ⟨q717, q73, q718, by decide +kernel, by decide +kernel, by decide +kernel⟩
def X2_readViews_b75 (k2 : XS → Int32 → Int32 → Option (Int32 × XS)) (X : XS) (x2 : Int32) (x3 : Int32) (y1 : Int32) (y2 : Int32) (y3 : Int32) : Option (Int32 × XS) := (X4_setView (X 1) y1 y2 y3).bind fun s2 => (X2_advance ((va_up X 1 s2) 3)).bind fun s4 => k2 (va_up (va_up X 1 s2) 3 s4) x2 ((x3 + (1 : Int32)))
set_option maxHeartbeats 4000000 in
set_option maxRecDepth 100000 in
theorem wX2_readViews_b75 {p : Program} {l : Launch} {e : Env} {s : State} {m : MethodId} {below : List Frame} {meth : Method} {c : Code} {D : va_G} {cy cz : ClassId} {G : GT} {A : Nat → Prop} {args : Array Value} {o : Nat → Nat → Nat} {r : Int32} {Xr : XS} (C : Cx p s m args c cX2_readViews 5 "PumpTalk$Reader" D cy cz G A) (hr : meth.sig.returnType = some .boolean) (hlk : meth.locks = false) {k2 : XS → Int32 → Int32 → Option (Int32 × XS)} (hk2 : ∀ (X : XS) (x2 : Int32) (x3 : Int32) (H : Heap) (locs : List Loc) (ls : Array Slot), k2 X x2 x3 = some (r, Xr) → Wd D A s.heap H locs (cRS o cy X) → lv_has ls 5 [(0, .ref (o 3 0)), (1, .ref (o 1 0)), (2, .int x2), (3, .int x3)] → W p l e (rmz 2 42) s m args below meth c H locs 0 0 (MQ below (QI D cy cz A (cRS o cy Xr) r) args s 0 0 A) (F0 m 2 ls [])) : ∀ (X : XS) (x2 : Int32) (x3 : Int32) (y1 : Int32) (y2 : Int32) (y3 : Int32) (H : Heap) (locs : List Loc) (ls : Array Slot), X2_readViews_b75 k2 X x2 x3 y1 y2 y3 = some (r, Xr) → Wd D A s.heap H locs (cRS o cy X) → lv_has ls 5 [(0, .ref (o 3 0)), (1, .ref (o 1 0)), (2, .int x2), (3, .int x3)] → W p l e (rmz 2 42) s m args below meth c H locs 0 0 (MQ below (QI D cy cz A (cRS o cy Xr) r) args s 0 0 A) (F0 m 75 ls [.int y3, .int y2, .int y1, .ref (o 1 0)]) := by
  have hx := C.1
  have hb := C.2.1
  intro X x2 x3 y1 y2 y3 H locs ls hm hW hl
  unfold X2_readViews_b75 at hm
  obtain ⟨s2, e1, hm⟩ := mi_bind hm
  refine cr1_v_s (As := [.int y1, .int y2, .int y3]) (rest := []) C hW (c_X4_setView e1) kX4_setView q695 rfl rfl rfl hl.1 ⟨Nat.le_of_ble_eq_true rfl, Nat.le_of_ble_eq_true rfl⟩ ⟨Nat.le_refl 0, Nat.le_refl 0⟩ (Nat.le_of_ble_eq_true rfl) dX2_readViews_75 (fun H locs hW => ?_)
  refine lv_aload_n hx hb dX2_readViews_78 rfl (lv_at hl 0 rfl) ?_
  obtain ⟨s4, e3, hm⟩ := mi_bind hm
  refine cr3_v_s (As := []) (rest := []) C hW (c_X2_advance e3) kX2_advance q596 rfl rfl rfl hl.1 ⟨Nat.le_of_ble_eq_true rfl, Nat.le_of_ble_eq_true rfl⟩ ⟨Nat.le_refl 0, Nat.le_refl 0⟩ (Nat.le_of_ble_eq_true rfl) dX2_readViews_79 (fun H locs hW => ?_)
  refine lv_iinc (v := (x3 + (1 : Int32))) (lv' := [(3, .int (x3 + (1 : Int32))), (0, .ref (o 3 0)), (1, .ref (o 1 0)), (2, .int x2)]) hx hb dX2_readViews_82 hl (k := 3) rfl (congrArg (fun z : Int32 => x3 + z) (by decide)) (by decide) rfl (fun ls hl => ?_)
  refine lv_goto (tgt := 2) hx hb dX2_readViews_85 (by decide) ?_
  exact hk2 (va_up (va_up X 1 s2) 3 s4) x2 ((x3 + (1 : Int32))) _ _ _ hm hW (lv_sub hl [1, 2, 3, 0] rfl)
def X2_readViews_b44 (k2 : XS → Int32 → Int32 → Option (Int32 × XS)) (X : XS) (x2 : Int32) (x3 : Int32) (x4 : Int32) : Option (Int32 × XS) := (X2_isNumberUpTo (X 3) (9 : Int32)).bind fun v6 => if v6 = (0 : Int32) then (some ((0 : Int32), X)) else (if x4 = (0 : Int32) then (X2_readViews_b75 k2 X x2 x3 x2 x3 (X 3 6 5)) else (X2_readViews_b75 k2 X x2 x3 x2 x3 ((-(X 3 6 5)))))
set_option maxHeartbeats 4000000 in
set_option maxRecDepth 100000 in
theorem wX2_readViews_b44 {p : Program} {l : Launch} {e : Env} {s : State} {m : MethodId} {below : List Frame} {meth : Method} {c : Code} {D : va_G} {cy cz : ClassId} {G : GT} {A : Nat → Prop} {args : Array Value} {o : Nat → Nat → Nat} {r : Int32} {Xr : XS} (C : Cx p s m args c cX2_readViews 5 "PumpTalk$Reader" D cy cz G A) (hr : meth.sig.returnType = some .boolean) (hlk : meth.locks = false) {k2 : XS → Int32 → Int32 → Option (Int32 × XS)} (hk2 : ∀ (X : XS) (x2 : Int32) (x3 : Int32) (H : Heap) (locs : List Loc) (ls : Array Slot), k2 X x2 x3 = some (r, Xr) → Wd D A s.heap H locs (cRS o cy X) → lv_has ls 5 [(0, .ref (o 3 0)), (1, .ref (o 1 0)), (2, .int x2), (3, .int x3)] → W p l e (rmz 2 42) s m args below meth c H locs 0 0 (MQ below (QI D cy cz A (cRS o cy Xr) r) args s 0 0 A) (F0 m 2 ls [])) : ∀ (X : XS) (x2 : Int32) (x3 : Int32) (x4 : Int32) (H : Heap) (locs : List Loc) (ls : Array Slot), X2_readViews_b44 k2 X x2 x3 x4 = some (r, Xr) → Wd D A s.heap H locs (cRS o cy X) → lv_has ls 5 [(0, .ref (o 3 0)), (1, .ref (o 1 0)), (2, .int x2), (3, .int x3), (4, .int x4)] → W p l e (rmz 2 42) s m args below meth c H locs 0 0 (MQ below (QI D cy cz A (cRS o cy Xr) r) args s 0 0 A) (F0 m 44 ls []) := by
  have hx := C.1
  have hb := C.2.1
  intro X x2 x3 x4 H locs ls hm hW hl
  unfold X2_readViews_b44 at hm
  refine lv_aload_n hx hb dX2_readViews_44 rfl (lv_at hl 0 rfl) ?_
  refine lv_bipush (v := 9) hx hb dX2_readViews_45 (by decide) ?_
  obtain ⟨v6, e5, hm⟩ := mi_bind hm
  refine cr3_i_p (As := [.int (9 : Int32)]) (rest := []) C hW (c_X2_isNumberUpTo e5) kX2_isNumberUpTo q681 rfl rfl rfl hl.1 ⟨Nat.le_of_ble_eq_true rfl, Nat.le_of_ble_eq_true rfl⟩ ⟨Nat.le_refl 0, Nat.le_refl 0⟩ (Nat.le_of_ble_eq_true rfl) dX2_readViews_47 (fun H locs hW => ?_)
  refine lv_if_ne (tgt := 55) hx hb dX2_readViews_50 (by decide) (fun hc7 => ?_) (fun hc7 => ?_)
  · rw [if_neg hc7] at hm
    refine lv_aload_n hx hb dX2_readViews_55 rfl (lv_at hl 1 rfl) ?_
    refine lv_iload_n hx hb dX2_readViews_56 rfl (lv_at hl 2 rfl) ?_
    refine lv_iload_n hx hb dX2_readViews_57 rfl (lv_at hl 3 rfl) ?_
    refine lv_iload hx hb dX2_readViews_58 (lv_at hl 4 rfl) ?_
    refine lv_if_eq (tgt := 71) hx hb dX2_readViews_60 (by decide) (fun hc8 => ?_) (fun hc8 => ?_)
    · rw [if_pos hc8] at hm
      refine lv_aload_n hx hb dX2_readViews_71 rfl (lv_at hl 0 rfl) ?_
      refine gRd_number C (wr_3 hW) q152 dX2_readViews_72 ?_
      exact wX2_readViews_b75 C hr hlk hk2 X x2 x3 x2 x3 (X 3 6 5) _ _ _ hm hW (lv_sub hl [0, 1, 2, 3] rfl)
    · rw [if_neg hc8] at hm
      refine lv_aload_n hx hb dX2_readViews_63 rfl (lv_at hl 0 rfl) ?_
      refine gRd_number C (wr_3 hW) q152 dX2_readViews_64 ?_
      refine lv_ineg hx hb dX2_readViews_67 ?_
      refine lv_goto (tgt := 75) hx hb dX2_readViews_68 (by decide) ?_
      exact wX2_readViews_b75 C hr hlk hk2 X x2 x3 x2 x3 ((-(X 3 6 5))) _ _ _ hm hW (lv_sub hl [0, 1, 2, 3] rfl)
  · rw [if_pos hc7] at hm
    refine lv_iconst (v := 0) hx hb dX2_readViews_53 (by decide) ?_
    obtain ⟨rfl, rfl⟩ := Prod.mk.inj (Option.some.inj hm)
    exact en_z C hr hlk rfl hW dX2_readViews_54
def X2_readViews_b35 (k2 : XS → Int32 → Int32 → Option (Int32 × XS)) (X : XS) (x2 : Int32) (x3 : Int32) (x4 : Int32) : Option (Int32 × XS) := if x4 = (0 : Int32) then (X2_readViews_b44 k2 X x2 x3 x4) else ((X2_advance (X 3)).bind fun s11 => X2_readViews_b44 k2 (va_up X 3 s11) x2 x3 x4)
set_option maxHeartbeats 4000000 in
set_option maxRecDepth 100000 in
theorem wX2_readViews_b35 {p : Program} {l : Launch} {e : Env} {s : State} {m : MethodId} {below : List Frame} {meth : Method} {c : Code} {D : va_G} {cy cz : ClassId} {G : GT} {A : Nat → Prop} {args : Array Value} {o : Nat → Nat → Nat} {r : Int32} {Xr : XS} (C : Cx p s m args c cX2_readViews 5 "PumpTalk$Reader" D cy cz G A) (hr : meth.sig.returnType = some .boolean) (hlk : meth.locks = false) {k2 : XS → Int32 → Int32 → Option (Int32 × XS)} (hk2 : ∀ (X : XS) (x2 : Int32) (x3 : Int32) (H : Heap) (locs : List Loc) (ls : Array Slot), k2 X x2 x3 = some (r, Xr) → Wd D A s.heap H locs (cRS o cy X) → lv_has ls 5 [(0, .ref (o 3 0)), (1, .ref (o 1 0)), (2, .int x2), (3, .int x3)] → W p l e (rmz 2 42) s m args below meth c H locs 0 0 (MQ below (QI D cy cz A (cRS o cy Xr) r) args s 0 0 A) (F0 m 2 ls [])) : ∀ (X : XS) (x2 : Int32) (x3 : Int32) (x4 : Int32) (H : Heap) (locs : List Loc) (ls : Array Slot), X2_readViews_b35 k2 X x2 x3 x4 = some (r, Xr) → Wd D A s.heap H locs (cRS o cy X) → lv_has ls 5 [(0, .ref (o 3 0)), (1, .ref (o 1 0)), (2, .int x2), (3, .int x3), (4, .int x4)] → W p l e (rmz 2 42) s m args below meth c H locs 0 0 (MQ below (QI D cy cz A (cRS o cy Xr) r) args s 0 0 A) (F0 m 35 ls []) := by
  have hx := C.1
  have hb := C.2.1
  intro X x2 x3 x4 H locs ls hm hW hl
  unfold X2_readViews_b35 at hm
  refine lv_iload hx hb dX2_readViews_35 (lv_at hl 4 rfl) ?_
  refine lv_if_eq (tgt := 44) hx hb dX2_readViews_37 (by decide) (fun hc9 => ?_) (fun hc9 => ?_)
  · rw [if_pos hc9] at hm
    exact wX2_readViews_b44 C hr hlk hk2 X x2 x3 x4 _ _ _ hm hW (lv_sub hl [0, 1, 2, 3, 4] rfl)
  · rw [if_neg hc9] at hm
    refine lv_aload_n hx hb dX2_readViews_40 rfl (lv_at hl 0 rfl) ?_
    obtain ⟨s11, e10, hm⟩ := mi_bind hm
    refine cr3_v_s (As := []) (rest := []) C hW (c_X2_advance e10) kX2_advance q596 rfl rfl rfl hl.1 ⟨Nat.le_of_ble_eq_true rfl, Nat.le_of_ble_eq_true rfl⟩ ⟨Nat.le_refl 0, Nat.le_refl 0⟩ (Nat.le_of_ble_eq_true rfl) dX2_readViews_41 (fun H locs hW => ?_)
    exact wX2_readViews_b44 C hr hlk hk2 (va_up X 3 s11) x2 x3 x4 _ _ _ hm hW (lv_sub hl [0, 1, 2, 3, 4] rfl)
def X2_readViews_b2 : Nat → XS → Int32 → Int32 → Option (Int32 × XS)
  | 0, _, _, _ => none
  | n + 1, X, x2, x3 => if (6 : Int32) ≤ x3 then (some ((1 : Int32), X)) else ((X2_isSign (X 3) (45 : Int32)).bind fun v14 => if x3 ≤ (0 : Int32) then (X2_readViews_b35 (X2_readViews_b2 n) X x2 x3 v14) else (if v14 = (0 : Int32) then (if (X 3 6 2) = (2 : Int32) then (X2_readViews_b35 (X2_readViews_b2 n) X x2 x3 v14) else (some ((1 : Int32), X))) else (X2_readViews_b35 (X2_readViews_b2 n) X x2 x3 v14)))
set_option maxHeartbeats 4000000 in
set_option maxRecDepth 100000 in
theorem wX2_readViews_b2 {p : Program} {l : Launch} {e : Env} {s : State} {m : MethodId} {below : List Frame} {meth : Method} {c : Code} {D : va_G} {cy cz : ClassId} {G : GT} {A : Nat → Prop} {args : Array Value} {o : Nat → Nat → Nat} {r : Int32} {Xr : XS} (C : Cx p s m args c cX2_readViews 5 "PumpTalk$Reader" D cy cz G A) (hr : meth.sig.returnType = some .boolean) (hlk : meth.locks = false) : ∀ (n : Nat) (X : XS) (x2 : Int32) (x3 : Int32) (H : Heap) (locs : List Loc) (ls : Array Slot), X2_readViews_b2 n X x2 x3 = some (r, Xr) → Wd D A s.heap H locs (cRS o cy X) → lv_has ls 5 [(0, .ref (o 3 0)), (1, .ref (o 1 0)), (2, .int x2), (3, .int x3)] → W p l e (rmz 2 42) s m args below meth c H locs 0 0 (MQ below (QI D cy cz A (cRS o cy Xr) r) args s 0 0 A) (F0 m 2 ls []) := by
  have hx := C.1
  have hb := C.2.1
  intro n
  induction n with
  | zero =>
    intro X x2 x3 H locs ls hm
    rw [X2_readViews_b2] at hm
    cases hm
  | succ n ih =>
    intro X x2 x3 H locs ls hm hW hl
    rw [X2_readViews_b2] at hm
    refine lv_iload_n hx hb dX2_readViews_2 rfl (lv_at hl 3 rfl) ?_
    refine lv_bipush (v := 6) hx hb dX2_readViews_3 (by decide) ?_
    refine lv_icmp_ge (tgt := 88) hx hb dX2_readViews_5 (by decide) (fun hc12 => ?_) (fun hc12 => ?_)
    · rw [if_pos hc12] at hm
      refine lv_iconst (v := 1) hx hb dX2_readViews_88 (by decide) ?_
      obtain ⟨rfl, rfl⟩ := Prod.mk.inj (Option.some.inj hm)
      exact en_z C hr hlk rfl hW dX2_readViews_89
    · rw [if_neg hc12] at hm
      refine lv_aload_n hx hb dX2_readViews_8 rfl (lv_at hl 0 rfl) ?_
      refine lv_bipush (v := 45) hx hb dX2_readViews_9 (by decide) ?_
      obtain ⟨v14, e13, hm⟩ := mi_bind hm
      refine cr3_i_p (As := [.int (45 : Int32)]) (rest := []) C hW (c_X2_isSign e13) kX2_isSign q691 rfl rfl rfl hl.1 ⟨Nat.le_of_ble_eq_true rfl, Nat.le_of_ble_eq_true rfl⟩ ⟨Nat.le_refl 0, Nat.le_refl 0⟩ (Nat.le_of_ble_eq_true rfl) dX2_readViews_11 (fun H locs hW => ?_)
      refine lv_istore (lv' := [(4, .int v14), (0, .ref (o 3 0)), (1, .ref (o 1 0)), (2, .int x2), (3, .int x3)]) hx hb dX2_readViews_14 hl (by decide) rfl (fun ls hl => ?_)
      refine lv_iload_n hx hb dX2_readViews_16 rfl (lv_at hl 4 rfl) ?_
      refine lv_if_le (tgt := 35) hx hb dX2_readViews_17 (by decide) (fun hc15 => ?_) (fun hc15 => ?_)
      · rw [if_pos hc15] at hm
        exact wX2_readViews_b35 C hr hlk ih X x2 x3 v14 _ _ _ hm hW (lv_sub hl [1, 2, 3, 4, 0] rfl)
      · rw [if_neg hc15] at hm
        refine lv_iload hx hb dX2_readViews_20 (lv_at hl 0 rfl) ?_
        refine lv_if_ne (tgt := 35) hx hb dX2_readViews_22 (by decide) (fun hc16 => ?_) (fun hc16 => ?_)
        · rw [if_neg hc16] at hm
          exact wX2_readViews_b35 C hr hlk ih X x2 x3 v14 _ _ _ hm hW (lv_sub hl [1, 2, 3, 4, 0] rfl)
        · rw [if_pos hc16] at hm
          refine lv_aload_n hx hb dX2_readViews_25 rfl (lv_at hl 1 rfl) ?_
          refine gRd_sort C (wr_3 hW) q149 dX2_readViews_26 ?_
          refine lv_iconst (v := 2) hx hb dX2_readViews_29 (by decide) ?_
          refine lv_icmp_eq (tgt := 35) hx hb dX2_readViews_30 (by decide) (fun hc17 => ?_) (fun hc17 => ?_)
          · rw [if_pos hc17] at hm
            exact wX2_readViews_b35 C hr hlk ih X x2 x3 v14 _ _ _ hm hW (lv_sub hl [1, 2, 3, 4, 0] rfl)
          · rw [if_neg hc17] at hm
            refine lv_iconst (v := 1) hx hb dX2_readViews_33 (by decide) ?_
            obtain ⟨rfl, rfl⟩ := Prod.mk.inj (Option.some.inj hm)
            exact en_z C hr hlk rfl hW dX2_readViews_34
def X2_readViews (X : XS) (p2 : Int32) : Option (Int32 × XS) := X2_readViews_b2 FU X p2 (0 : Int32)
set_option maxHeartbeats 4000000 in
set_option maxRecDepth 100000 in
theorem c_X2_readViews {l : Launch} {D : va_G} {cy cz : ClassId} {G : GT} {o : Nat → Nat → Nat} {X : XS} {p2 : Int32} {r : Int32} {Xr : XS} (hm : X2_readViews X p2 = some (r, Xr)) : CtI l D cy cz G yX2_readViews cX2_readViews 5 (some .boolean) 2 42 [.ref (o 3 0), .ref (o 1 0), .int p2] (cRS o cy X) (cRS o cy Xr) r := by
  refine ct_i (own := "PumpTalk$Reader") (by decide) rfl (Nat.le_of_ble_eq_true rfl) ?_
  intro p e s m below meth c ls A C hr hlk hW hl
  have hx := C.1
  have hb := C.2.1
  have hl : lv_has ls 5 [(0, .ref (o 3 0)), (1, .ref (o 1 0)), (2, .int p2)] := hl
  unfold X2_readViews at hm
  refine lv_iconst (v := 0) hx hb dX2_readViews_0 (by decide) ?_
  refine lv_istore_n (lv' := [(3, .int (0 : Int32)), (0, .ref (o 3 0)), (1, .ref (o 1 0)), (2, .int p2)]) hx hb dX2_readViews_1 rfl hl (by decide) rfl (fun ls hl => ?_)
  exact wX2_readViews_b2 C hr hlk FU X p2 (0 : Int32) _ _ _ hm hW (lv_sub hl [1, 2, 3, 0] rfl)
theorem kX2_readViews : KM yX2_readViews cX2_readViews 5 (some .boolean) 2 := ⟨q689, q19, q69, q690, by decide +kernel, by decide +kernel, by decide +kernel⟩
def X2_readPerson_b57 (X : XS) (x3 : Int32) : Option (Int32 × XS) := (X2_isWord (X 3) 8).bind fun v2 => if v2 = (0 : Int32) then (some ((1 : Int32), X)) else ((X2_advance (X 3)).bind fun s5 => (X2_readViews (va_up X 3 s5) x3).bind fun q7 => zb q7.1 (some (q7.1, q7.2)))
set_option maxHeartbeats 4000000 in
set_option maxRecDepth 100000 in
theorem wX2_readPerson_b57 {p : Program} {l : Launch} {e : Env} {s : State} {m : MethodId} {below : List Frame} {meth : Method} {c : Code} {D : va_G} {cy cz : ClassId} {G : GT} {A : Nat → Prop} {args : Array Value} {o : Nat → Nat → Nat} {z : ZT} {r : Int32} {Xr : XS} (C : Cx p s m args c cX2_readPerson 4 "PumpTalk$Reader" D cy cz G A) (hr : meth.sig.returnType = some .boolean) (hlk : meth.locks = false) (hg : GH G z) : ∀ (X : XS) (x3 : Int32) (H : Heap) (locs : List Loc) (ls : Array Slot), X2_readPerson_b57 X x3 = some (r, Xr) → Wd D A s.heap H locs (cRS o cy X) → lv_has ls 4 [(0, .ref (o 3 0)), (1, .ref (o 1 0)), (3, .int x3)] → W p l e (rmz 5 107) s m args below meth c H locs 0 0 (MQ below (QI D cy cz A (cRS o cy Xr) r) args s 0 0 A) (F0 m 57 ls []) := by
  have hx := C.1
  have hb := C.2.1
  intro X x3 H locs ls hm hW hl
  unfold X2_readPerson_b57 at hm
  refine lv_aload_n hx hb dX2_readPerson_57 rfl (lv_at hl 0 rfl) ?_
  refine va_ldcS hx hb C.2.2.2.1 ((hg A s s.heap C.2.2.2.2.2.2.1.2).2.2.2.1.2.2.2.2.2.2.2.2.1) dX2_readPerson_58 ?_
  obtain ⟨v2, e1, hm⟩ := mi_bind hm
  refine cr3_i_p (As := [.ref (z.2.1 8)]) (rest := []) C hW (c_X2_isWord hg (by decide) e1) kX2_isWord q622 rfl rfl rfl hl.1 ⟨Nat.le_of_ble_eq_true rfl, Nat.le_of_ble_eq_true rfl⟩ ⟨Nat.le_refl 0, Nat.le_refl 0⟩ (Nat.le_of_ble_eq_true rfl) dX2_readPerson_60 (fun H locs hW => ?_)
  refine lv_if_eq (tgt := 77) hx hb dX2_readPerson_63 (by decide) (fun hc3 => ?_) (fun hc3 => ?_)
  · rw [if_pos hc3] at hm
    refine lv_iconst (v := 1) hx hb dX2_readPerson_77 (by decide) ?_
    obtain ⟨rfl, rfl⟩ := Prod.mk.inj (Option.some.inj hm)
    exact en_z C hr hlk rfl hW dX2_readPerson_78
  · rw [if_neg hc3] at hm
    refine lv_aload_n hx hb dX2_readPerson_66 rfl (lv_at hl 0 rfl) ?_
    obtain ⟨s5, e4, hm⟩ := mi_bind hm
    refine cr3_v_s (As := []) (rest := []) C hW (c_X2_advance e4) kX2_advance q596 rfl rfl rfl hl.1 ⟨Nat.le_of_ble_eq_true rfl, Nat.le_of_ble_eq_true rfl⟩ ⟨Nat.le_refl 0, Nat.le_refl 0⟩ (Nat.le_of_ble_eq_true rfl) dX2_readPerson_67 (fun H locs hW => ?_)
    refine lv_aload_n hx hb dX2_readPerson_70 rfl (lv_at hl 0 rfl) ?_
    refine lv_aload_n hx hb dX2_readPerson_71 rfl (lv_at hl 1 rfl) ?_
    refine lv_iload_n hx hb dX2_readPerson_72 rfl (lv_at hl 2 rfl) ?_
    obtain ⟨q7, e6, hm⟩ := mi_bind hm
    refine cs_i (q0 := 0) (As := [.ref (o 1 0), .int x3]) (rest := []) C hW (c_X2_readViews e6) kX2_readViews q687 rfl rfl rfl rfl rfl hl.1 ⟨Nat.le_of_ble_eq_true rfl, Nat.le_of_ble_eq_true rfl⟩ ⟨Nat.le_refl 0, Nat.le_refl 0⟩ (Nat.le_of_ble_eq_true rfl) dX2_readPerson_73 (fun H locs hW => ?_)
    obtain ⟨hz8, hm⟩ := mi_zb hm
    obtain ⟨rfl, rfl⟩ := Prod.mk.inj (Option.some.inj hm)
    exact en_z C hr hlk hz8.1 hW dX2_readPerson_76
def X2_readPerson (X : XS) (p2 : Int32) : Option (Int32 × XS) := (X4_isCrowded (X 1)).bind fun v10 => if v10 = (0 : Int32) then ((X4_addPerson (X 1) p2).bind fun q13 => (X2_advance ((va_up X 1 q13.2) 3)).bind fun s15 => (X2_isWord ((va_up (va_up X 1 q13.2) 3 s15) 3) 7).bind fun v17 => if v17 = (0 : Int32) then (X2_readPerson_b57 (va_up (va_up X 1 q13.2) 3 s15) q13.1) else ((X2_advance ((va_up (va_up X 1 q13.2) 3 s15) 3)).bind fun s20 => (X2_isNumberUpTo ((va_up (va_up (va_up X 1 q13.2) 3 s15) 3 s20) 3) (9 : Int32)).bind fun v22 => if v22 = (0 : Int32) then (some ((0 : Int32), va_up (va_up (va_up X 1 q13.2) 3 s15) 3 s20)) else ((X4_setTrait ((va_up (va_up (va_up X 1 q13.2) 3 s15) 3 s20) 1) q13.1 (1 : Int32) ((va_up (va_up (va_up X 1 q13.2) 3 s15) 3 s20) 3 6 5)).bind fun s25 => (X2_advance ((va_up (va_up (va_up (va_up X 1 q13.2) 3 s15) 3 s20) 1 s25) 3)).bind fun s27 => X2_readPerson_b57 (va_up (va_up (va_up (va_up (va_up X 1 q13.2) 3 s15) 3 s20) 1 s25) 3 s27) q13.1))) else (some ((0 : Int32), X))
set_option maxHeartbeats 4000000 in
set_option maxRecDepth 100000 in
theorem c_X2_readPerson {l : Launch} {D : va_G} {cy cz : ClassId} {G : GT} {o : Nat → Nat → Nat} {X : XS} {p2 : Int32} {r : Int32} {Xr : XS} {z : ZT} (hg : GH G z) (hm : X2_readPerson X p2 = some (r, Xr)) : CtI l D cy cz G yX2_readPerson cX2_readPerson 4 (some .boolean) 5 107 [.ref (o 3 0), .ref (o 1 0), .int p2] (cRS o cy X) (cRS o cy Xr) r := by
  refine ct_i (own := "PumpTalk$Reader") (by decide) rfl (Nat.le_of_ble_eq_true rfl) ?_
  intro p e s m below meth c ls A C hr hlk hW hl
  have hx := C.1
  have hb := C.2.1
  have hl : lv_has ls 4 [(0, .ref (o 3 0)), (1, .ref (o 1 0)), (2, .int p2)] := hl
  unfold X2_readPerson at hm
  refine lv_aload_n hx hb dX2_readPerson_0 rfl (lv_at hl 1 rfl) ?_
  obtain ⟨v10, e9, hm⟩ := mi_bind hm
  refine cr1_i_p (As := []) (rest := []) C hW (c_X4_isCrowded e9) kX4_isCrowded q678 rfl rfl rfl hl.1 ⟨Nat.le_of_ble_eq_true rfl, Nat.le_of_ble_eq_true rfl⟩ ⟨Nat.le_refl 0, Nat.le_refl 0⟩ (Nat.le_of_ble_eq_true rfl) dX2_readPerson_1 (fun H locs hW => ?_)
  refine lv_if_eq (tgt := 9) hx hb dX2_readPerson_4 (by decide) (fun hc11 => ?_) (fun hc11 => ?_)
  · rw [if_pos hc11] at hm
    refine lv_aload_n hx hb dX2_readPerson_9 rfl (lv_at hl 1 rfl) ?_
    refine lv_iload_n hx hb dX2_readPerson_10 rfl (lv_at hl 2 rfl) ?_
    obtain ⟨q13, e12, hm⟩ := mi_bind hm
    refine cr1_i_s (As := [.int p2]) (rest := []) C hW (c_X4_addPerson e12) kX4_addPerson q679 rfl rfl rfl hl.1 ⟨Nat.le_of_ble_eq_true rfl, Nat.le_of_ble_eq_true rfl⟩ ⟨Nat.le_refl 0, Nat.le_refl 0⟩ (Nat.le_of_ble_eq_true rfl) dX2_readPerson_11 (fun H locs hW => ?_)
    refine lv_istore_n (lv' := [(3, .int q13.1), (0, .ref (o 3 0)), (1, .ref (o 1 0)), (2, .int p2)]) hx hb dX2_readPerson_14 rfl hl (by decide) rfl (fun ls hl => ?_)
    refine lv_aload_n hx hb dX2_readPerson_15 rfl (lv_at hl 1 rfl) ?_
    obtain ⟨s15, e14, hm⟩ := mi_bind hm
    refine cr3_v_s (As := []) (rest := []) C hW (c_X2_advance e14) kX2_advance q596 rfl rfl rfl hl.1 ⟨Nat.le_of_ble_eq_true rfl, Nat.le_of_ble_eq_true rfl⟩ ⟨Nat.le_refl 0, Nat.le_refl 0⟩ (Nat.le_of_ble_eq_true rfl) dX2_readPerson_16 (fun H locs hW => ?_)
    refine lv_aload_n hx hb dX2_readPerson_19 rfl (lv_at hl 1 rfl) ?_
    refine va_ldcS hx hb C.2.2.2.1 ((hg A s s.heap C.2.2.2.2.2.2.1.2).2.2.2.1.2.2.2.2.2.2.2.1) dX2_readPerson_20 ?_
    obtain ⟨v17, e16, hm⟩ := mi_bind hm
    refine cr3_i_p (As := [.ref (z.2.1 7)]) (rest := []) C hW (c_X2_isWord hg (by decide) e16) kX2_isWord q622 rfl rfl rfl hl.1 ⟨Nat.le_of_ble_eq_true rfl, Nat.le_of_ble_eq_true rfl⟩ ⟨Nat.le_refl 0, Nat.le_refl 0⟩ (Nat.le_of_ble_eq_true rfl) dX2_readPerson_22 (fun H locs hW => ?_)
    refine lv_if_eq (tgt := 57) hx hb dX2_readPerson_25 (by decide) (fun hc18 => ?_) (fun hc18 => ?_)
    · rw [if_pos hc18] at hm
      exact wX2_readPerson_b57 C hr hlk hg (va_up (va_up X 1 q13.2) 3 s15) q13.1 _ _ _ hm hW (lv_sub hl [1, 2, 0] rfl)
    · rw [if_neg hc18] at hm
      refine lv_aload_n hx hb dX2_readPerson_28 rfl (lv_at hl 1 rfl) ?_
      obtain ⟨s20, e19, hm⟩ := mi_bind hm
      refine cr3_v_s (As := []) (rest := []) C hW (c_X2_advance e19) kX2_advance q596 rfl rfl rfl hl.1 ⟨Nat.le_of_ble_eq_true rfl, Nat.le_of_ble_eq_true rfl⟩ ⟨Nat.le_refl 0, Nat.le_refl 0⟩ (Nat.le_of_ble_eq_true rfl) dX2_readPerson_29 (fun H locs hW => ?_)
      refine lv_aload_n hx hb dX2_readPerson_32 rfl (lv_at hl 1 rfl) ?_
      refine lv_bipush (v := 9) hx hb dX2_readPerson_33 (by decide) ?_
      obtain ⟨v22, e21, hm⟩ := mi_bind hm
      refine cr3_i_p (As := [.int (9 : Int32)]) (rest := []) C hW (c_X2_isNumberUpTo e21) kX2_isNumberUpTo q681 rfl rfl rfl hl.1 ⟨Nat.le_of_ble_eq_true rfl, Nat.le_of_ble_eq_true rfl⟩ ⟨Nat.le_refl 0, Nat.le_refl 0⟩ (Nat.le_of_ble_eq_true rfl) dX2_readPerson_35 (fun H locs hW => ?_)
      refine lv_if_ne (tgt := 43) hx hb dX2_readPerson_38 (by decide) (fun hc23 => ?_) (fun hc23 => ?_)
      · rw [if_neg hc23] at hm
        refine lv_aload_n hx hb dX2_readPerson_43 rfl (lv_at hl 2 rfl) ?_
        refine lv_iload_n hx hb dX2_readPerson_44 rfl (lv_at hl 0 rfl) ?_
        refine lv_iconst (v := 1) hx hb dX2_readPerson_45 (by decide) ?_
        refine lv_aload_n hx hb dX2_readPerson_46 rfl (lv_at hl 1 rfl) ?_
        refine gRd_number C (wr_3 hW) q152 dX2_readPerson_47 ?_
        obtain ⟨s25, e24, hm⟩ := mi_bind hm
        refine cr1_v_s (As := [.int q13.1, .int (1 : Int32), .int ((va_up (va_up (va_up X 1 q13.2) 3 s15) 3 s20) 3 6 5)]) (rest := []) C hW (c_X4_setTrait e24) kX4_setTrait q685 rfl rfl rfl hl.1 ⟨Nat.le_of_ble_eq_true rfl, Nat.le_of_ble_eq_true rfl⟩ ⟨Nat.le_refl 0, Nat.le_refl 0⟩ (Nat.le_of_ble_eq_true rfl) dX2_readPerson_50 (fun H locs hW => ?_)
        refine lv_aload_n hx hb dX2_readPerson_53 rfl (lv_at hl 1 rfl) ?_
        obtain ⟨s27, e26, hm⟩ := mi_bind hm
        refine cr3_v_s (As := []) (rest := []) C hW (c_X2_advance e26) kX2_advance q596 rfl rfl rfl hl.1 ⟨Nat.le_of_ble_eq_true rfl, Nat.le_of_ble_eq_true rfl⟩ ⟨Nat.le_refl 0, Nat.le_refl 0⟩ (Nat.le_of_ble_eq_true rfl) dX2_readPerson_54 (fun H locs hW => ?_)
        exact wX2_readPerson_b57 C hr hlk hg (va_up (va_up (va_up (va_up (va_up X 1 q13.2) 3 s15) 3 s20) 1 s25) 3 s27) q13.1 _ _ _ hm hW (lv_sub hl [1, 2, 0] rfl)
      · rw [if_pos hc23] at hm
        refine lv_iconst (v := 0) hx hb dX2_readPerson_41 (by decide) ?_
        obtain ⟨rfl, rfl⟩ := Prod.mk.inj (Option.some.inj hm)
        exact en_z C hr hlk rfl hW dX2_readPerson_42
  · rw [if_neg hc11] at hm
    refine lv_iconst (v := 0) hx hb dX2_readPerson_7 (by decide) ?_
    obtain ⟨rfl, rfl⟩ := Prod.mk.inj (Option.some.inj hm)
    exact en_z C hr hlk rfl hW dX2_readPerson_8
theorem kX2_readPerson : KM yX2_readPerson cX2_readPerson 4 (some .boolean) 2 := ⟨q676, q17, q69, q677, by decide +kernel, by decide +kernel, by decide +kernel⟩
def X2_readPair (X : XS) : Option (Int32 × XS) := (X2_advance (X 3)).bind fun s2 => (X2_isNumberUpTo ((va_up X 3 s2) 3) (((va_up X 3 s2) 1 11 4) - (1 : Int32))).bind fun v4 => if v4 = (0 : Int32) then (some ((0 : Int32), va_up X 3 s2)) else ((X2_advance ((va_up X 3 s2) 3)).bind fun s7 => (X2_isNumberUpTo ((va_up (va_up X 3 s2) 3 s7) 3) (((va_up (va_up X 3 s2) 3 s7) 1 11 4) - (1 : Int32))).bind fun v9 => if v9 = (0 : Int32) then (some ((0 : Int32), va_up (va_up X 3 s2) 3 s7)) else (if ((va_up (va_up X 3 s2) 3 s7) 3 6 5) = ((va_up X 3 s2) 3 6 5) then (some ((0 : Int32), va_up (va_up X 3 s2) 3 s7)) else ((X4_seat ((va_up (va_up X 3 s2) 3 s7) 1) ((va_up X 3 s2) 3 6 5) ((va_up (va_up X 3 s2) 3 s7) 3 6 5)).bind fun s13 => (X2_advance ((va_up (va_up (va_up X 3 s2) 3 s7) 1 s13) 3)).bind fun s15 => some ((1 : Int32), va_up (va_up (va_up (va_up X 3 s2) 3 s7) 1 s13) 3 s15))))
set_option maxHeartbeats 4000000 in
set_option maxRecDepth 100000 in
theorem c_X2_readPair {l : Launch} {D : va_G} {cy cz : ClassId} {G : GT} {o : Nat → Nat → Nat} {X : XS} {r : Int32} {Xr : XS} (hm : X2_readPair X = some (r, Xr)) : CtI l D cy cz G yX2_readPair cX2_readPair 3 (some .boolean) 2 42 [.ref (o 3 0), .ref (o 1 0)] (cRS o cy X) (cRS o cy Xr) r := by
  refine ct_i (own := "PumpTalk$Reader") (by decide) rfl (Nat.le_of_ble_eq_true rfl) ?_
  intro p e s m below meth c ls A C hr hlk hW hl
  have hx := C.1
  have hb := C.2.1
  have hl : lv_has ls 3 [(0, .ref (o 3 0)), (1, .ref (o 1 0))] := hl
  unfold X2_readPair at hm
  refine lv_aload_n hx hb dX2_readPair_0 rfl (lv_at hl 0 rfl) ?_
  obtain ⟨s2, e1, hm⟩ := mi_bind hm
  refine cr3_v_s (As := []) (rest := []) C hW (c_X2_advance e1) kX2_advance q596 rfl rfl rfl hl.1 ⟨Nat.le_of_ble_eq_true rfl, Nat.le_of_ble_eq_true rfl⟩ ⟨Nat.le_refl 0, Nat.le_refl 0⟩ (Nat.le_of_ble_eq_true rfl) dX2_readPair_1 (fun H locs hW => ?_)
  refine lv_aload_n hx hb dX2_readPair_4 rfl (lv_at hl 0 rfl) ?_
  refine lv_aload_n hx hb dX2_readPair_5 rfl (lv_at hl 1 rfl) ?_
  refine gSq_people C (wr_1 hW) q101 dX2_readPair_6 ?_
  refine lv_iconst (v := 1) hx hb dX2_readPair_9 (by decide) ?_
  refine lv_isub hx hb dX2_readPair_10 ?_
  obtain ⟨v4, e3, hm⟩ := mi_bind hm
  refine cr3_i_p (As := [.int (((va_up X 3 s2) 1 11 4) - (1 : Int32))]) (rest := []) C hW (c_X2_isNumberUpTo e3) kX2_isNumberUpTo q681 rfl rfl rfl hl.1 ⟨Nat.le_of_ble_eq_true rfl, Nat.le_of_ble_eq_true rfl⟩ ⟨Nat.le_refl 0, Nat.le_refl 0⟩ (Nat.le_of_ble_eq_true rfl) dX2_readPair_11 (fun H locs hW => ?_)
  refine lv_if_ne (tgt := 19) hx hb dX2_readPair_14 (by decide) (fun hc5 => ?_) (fun hc5 => ?_)
  · rw [if_neg hc5] at hm
    refine lv_aload_n hx hb dX2_readPair_19 rfl (lv_at hl 0 rfl) ?_
    refine gRd_number C (wr_3 hW) q152 dX2_readPair_20 ?_
    refine lv_istore_n (lv' := [(2, .int ((va_up X 3 s2) 3 6 5)), (0, .ref (o 3 0)), (1, .ref (o 1 0))]) hx hb dX2_readPair_23 rfl hl (by decide) rfl (fun ls hl => ?_)
    refine lv_aload_n hx hb dX2_readPair_24 rfl (lv_at hl 1 rfl) ?_
    obtain ⟨s7, e6, hm⟩ := mi_bind hm
    refine cr3_v_s (As := []) (rest := []) C hW (c_X2_advance e6) kX2_advance q596 rfl rfl rfl hl.1 ⟨Nat.le_of_ble_eq_true rfl, Nat.le_of_ble_eq_true rfl⟩ ⟨Nat.le_refl 0, Nat.le_refl 0⟩ (Nat.le_of_ble_eq_true rfl) dX2_readPair_25 (fun H locs hW => ?_)
    refine lv_aload_n hx hb dX2_readPair_28 rfl (lv_at hl 1 rfl) ?_
    refine lv_aload_n hx hb dX2_readPair_29 rfl (lv_at hl 2 rfl) ?_
    refine gSq_people C (wr_1 hW) q101 dX2_readPair_30 ?_
    refine lv_iconst (v := 1) hx hb dX2_readPair_33 (by decide) ?_
    refine lv_isub hx hb dX2_readPair_34 ?_
    obtain ⟨v9, e8, hm⟩ := mi_bind hm
    refine cr3_i_p (As := [.int (((va_up (va_up X 3 s2) 3 s7) 1 11 4) - (1 : Int32))]) (rest := []) C hW (c_X2_isNumberUpTo e8) kX2_isNumberUpTo q681 rfl rfl rfl hl.1 ⟨Nat.le_of_ble_eq_true rfl, Nat.le_of_ble_eq_true rfl⟩ ⟨Nat.le_refl 0, Nat.le_refl 0⟩ (Nat.le_of_ble_eq_true rfl) dX2_readPair_35 (fun H locs hW => ?_)
    refine lv_if_eq (tgt := 49) hx hb dX2_readPair_38 (by decide) (fun hc10 => ?_) (fun hc10 => ?_)
    · rw [if_pos hc10] at hm
      refine lv_iconst (v := 0) hx hb dX2_readPair_49 (by decide) ?_
      obtain ⟨rfl, rfl⟩ := Prod.mk.inj (Option.some.inj hm)
      exact en_z C hr hlk rfl hW dX2_readPair_50
    · rw [if_neg hc10] at hm
      refine lv_aload_n hx hb dX2_readPair_41 rfl (lv_at hl 1 rfl) ?_
      refine gRd_number C (wr_3 hW) q152 dX2_readPair_42 ?_
      refine lv_iload_n hx hb dX2_readPair_45 rfl (lv_at hl 0 rfl) ?_
      refine lv_icmp_ne (tgt := 51) hx hb dX2_readPair_46 (by decide) (fun hc11 => ?_) (fun hc11 => ?_)
      · rw [if_neg hc11] at hm
        refine lv_aload_n hx hb dX2_readPair_51 rfl (lv_at hl 2 rfl) ?_
        refine lv_iload_n hx hb dX2_readPair_52 rfl (lv_at hl 0 rfl) ?_
        refine lv_aload_n hx hb dX2_readPair_53 rfl (lv_at hl 1 rfl) ?_
        refine gRd_number C (wr_3 hW) q152 dX2_readPair_54 ?_
        obtain ⟨s13, e12, hm⟩ := mi_bind hm
        refine cr1_v_s (As := [.int ((va_up X 3 s2) 3 6 5), .int ((va_up (va_up X 3 s2) 3 s7) 3 6 5)]) (rest := []) C hW (c_X4_seat e12) kX4_seat q701 rfl rfl rfl hl.1 ⟨Nat.le_of_ble_eq_true rfl, Nat.le_of_ble_eq_true rfl⟩ ⟨Nat.le_refl 0, Nat.le_refl 0⟩ (Nat.le_of_ble_eq_true rfl) dX2_readPair_57 (fun H locs hW => ?_)
        refine lv_aload_n hx hb dX2_readPair_60 rfl (lv_at hl 1 rfl) ?_
        obtain ⟨s15, e14, hm⟩ := mi_bind hm
        refine cr3_v_s (As := []) (rest := []) C hW (c_X2_advance e14) kX2_advance q596 rfl rfl rfl hl.1 ⟨Nat.le_of_ble_eq_true rfl, Nat.le_of_ble_eq_true rfl⟩ ⟨Nat.le_refl 0, Nat.le_refl 0⟩ (Nat.le_of_ble_eq_true rfl) dX2_readPair_61 (fun H locs hW => ?_)
        refine lv_iconst (v := 1) hx hb dX2_readPair_64 (by decide) ?_
        obtain ⟨rfl, rfl⟩ := Prod.mk.inj (Option.some.inj hm)
        exact en_z C hr hlk rfl hW dX2_readPair_65
      · rw [if_pos hc11] at hm
        refine lv_iconst (v := 0) hx hb dX2_readPair_49 (by decide) ?_
        obtain ⟨rfl, rfl⟩ := Prod.mk.inj (Option.some.inj hm)
        exact en_z C hr hlk rfl hW dX2_readPair_50
  · rw [if_pos hc5] at hm
    refine lv_iconst (v := 0) hx hb dX2_readPair_17 (by decide) ?_
    obtain ⟨rfl, rfl⟩ := Prod.mk.inj (Option.some.inj hm)
    exact en_z C hr hlk rfl hW dX2_readPair_18
theorem kX2_readPair : KM yX2_readPair cX2_readPair 3 (some .boolean) 1 := ⟨q699, q21, q69, q700, by decide +kernel, by decide +kernel, by decide +kernel⟩
def X2_readSubject (X : XS) : Option (Int32 × XS) := (X2_advance (X 3)).bind fun s2 => (X2_isNumberUpTo ((va_up X 3 s2) 3) (5 : Int32)).bind fun v4 => if v4 = (0 : Int32) then (some ((0 : Int32), va_up X 3 s2)) else ((some (va_up (va_up X 3 s2) 1 (su ((va_up X 3 s2) 1) 11 7 ((va_up X 3 s2) 3 6 5)))).bind fun s6 => (X2_advance (s6 3)).bind fun s9 => some ((1 : Int32), va_up s6 3 s9))
set_option maxHeartbeats 4000000 in
set_option maxRecDepth 100000 in
theorem c_X2_readSubject {l : Launch} {D : va_G} {cy cz : ClassId} {G : GT} {o : Nat → Nat → Nat} {X : XS} {r : Int32} {Xr : XS} (hm : X2_readSubject X = some (r, Xr)) : CtI l D cy cz G yX2_readSubject cX2_readSubject 2 (some .boolean) 2 42 [.ref (o 3 0), .ref (o 1 0)] (cRS o cy X) (cRS o cy Xr) r := by
  refine ct_i (own := "PumpTalk$Reader") (by decide) rfl (Nat.le_of_ble_eq_true rfl) ?_
  intro p e s m below meth c ls A C hr hlk hW hl
  have hx := C.1
  have hb := C.2.1
  have hl : lv_has ls 2 [(0, .ref (o 3 0)), (1, .ref (o 1 0))] := hl
  unfold X2_readSubject at hm
  refine lv_aload_n hx hb dX2_readSubject_0 rfl (lv_at hl 0 rfl) ?_
  obtain ⟨s2, e1, hm⟩ := mi_bind hm
  refine cr3_v_s (As := []) (rest := []) C hW (c_X2_advance e1) kX2_advance q596 rfl rfl rfl hl.1 ⟨Nat.le_of_ble_eq_true rfl, Nat.le_of_ble_eq_true rfl⟩ ⟨Nat.le_refl 0, Nat.le_refl 0⟩ (Nat.le_of_ble_eq_true rfl) dX2_readSubject_1 (fun H locs hW => ?_)
  refine lv_aload_n hx hb dX2_readSubject_4 rfl (lv_at hl 0 rfl) ?_
  refine lv_iconst (v := 5) hx hb dX2_readSubject_5 (by decide) ?_
  obtain ⟨v4, e3, hm⟩ := mi_bind hm
  refine cr3_i_p (As := [.int (5 : Int32)]) (rest := []) C hW (c_X2_isNumberUpTo e3) kX2_isNumberUpTo q681 rfl rfl rfl hl.1 ⟨Nat.le_of_ble_eq_true rfl, Nat.le_of_ble_eq_true rfl⟩ ⟨Nat.le_refl 0, Nat.le_refl 0⟩ (Nat.le_of_ble_eq_true rfl) dX2_readSubject_6 (fun H locs hW => ?_)
  refine lv_if_ne (tgt := 14) hx hb dX2_readSubject_9 (by decide) (fun hc5 => ?_) (fun hc5 => ?_)
  · rw [if_neg hc5] at hm
    refine lv_aload_n hx hb dX2_readSubject_14 rfl (lv_at hl 1 rfl) ?_
    refine lv_aload_n hx hb dX2_readSubject_15 rfl (lv_at hl 0 rfl) ?_
    refine gRd_number C (wr_3 hW) q152 dX2_readSubject_16 ?_
    refine pR1_topic C hW q108 dX2_readSubject_19 (fun H locs hW => ?_)
    obtain ⟨s6, e7, hm⟩ := mi_bind hm
    rw [Option.some.inj e7] at hW
    refine lv_aload_n hx hb dX2_readSubject_22 rfl (lv_at hl 0 rfl) ?_
    obtain ⟨s9, e8, hm⟩ := mi_bind hm
    refine cr3_v_s (As := []) (rest := []) C hW (c_X2_advance e8) kX2_advance q596 rfl rfl rfl hl.1 ⟨Nat.le_of_ble_eq_true rfl, Nat.le_of_ble_eq_true rfl⟩ ⟨Nat.le_refl 0, Nat.le_refl 0⟩ (Nat.le_of_ble_eq_true rfl) dX2_readSubject_23 (fun H locs hW => ?_)
    refine lv_iconst (v := 1) hx hb dX2_readSubject_26 (by decide) ?_
    obtain ⟨rfl, rfl⟩ := Prod.mk.inj (Option.some.inj hm)
    exact en_z C hr hlk rfl hW dX2_readSubject_27
  · rw [if_pos hc5] at hm
    refine lv_iconst (v := 0) hx hb dX2_readSubject_12 (by decide) ?_
    obtain ⟨rfl, rfl⟩ := Prod.mk.inj (Option.some.inj hm)
    exact en_z C hr hlk rfl hW dX2_readSubject_13
theorem kX2_readSubject : KM yX2_readSubject cX2_readSubject 2 (some .boolean) 1 := ⟨q705, q22, q69, q706, by decide +kernel, by decide +kernel, by decide +kernel⟩
def X2_readItem_b2 : Nat → XS → Int32 → Option (Int32 × XS)
  | 0, _, _ => none
  | n + 1, X, x2 => if (7 : Int32) ≤ x2 then ((X2_isWord (X 3) 9).bind fun v3 => if v3 = (0 : Int32) then ((X2_isWord (X 3) 10).bind fun v6 => if v6 = (0 : Int32) then (some ((0 : Int32), X)) else ((X2_readSubject X).bind fun q9 => if q9.1 = (0 : Int32) then (some ((0 : Int32), q9.2)) else (some ((1 : Int32), q9.2)))) else ((X2_readPair X).bind fun q12 => zb q12.1 (some (q12.1, q12.2)))) else ((X2_isWord (X 3) (nmi x2)).bind fun v15 => if v15 = (0 : Int32) then (X2_readItem_b2 n X ((x2 + (1 : Int32)))) else ((X2_readPerson X x2).bind fun q18 => zb q18.1 (some (q18.1, q18.2))))
set_option maxHeartbeats 4000000 in
set_option maxRecDepth 100000 in
theorem wX2_readItem_b2 {p : Program} {l : Launch} {e : Env} {s : State} {m : MethodId} {below : List Frame} {meth : Method} {c : Code} {D : va_G} {cy cz : ClassId} {G : GT} {A : Nat → Prop} {args : Array Value} {o : Nat → Nat → Nat} {z : ZT} {r : Int32} {Xr : XS} (C : Cx p s m args c cX2_readItem 3 "PumpTalk$Reader" D cy cz G A) (hr : meth.sig.returnType = some .boolean) (hlk : meth.locks = false) (hg : GH G z) : ∀ (n : Nat) (X : XS) (x2 : Int32) (H : Heap) (locs : List Loc) (ls : Array Slot), X2_readItem_b2 n X x2 = some (r, Xr) → Wd D A s.heap H locs (cRS o cy X) → lv_has ls 3 [(0, .ref (o 3 0)), (1, .ref (o 1 0)), (2, .int x2)] → W p l e (rmz 6 130) s m args below meth c H locs 0 0 (MQ below (QI D cy cz A (cRS o cy Xr) r) args s 0 0 A) (F0 m 2 ls []) := by
  have hx := C.1
  have hb := C.2.1
  intro n
  induction n with
  | zero =>
    intro X x2 H locs ls hm
    rw [X2_readItem_b2] at hm
    cases hm
  | succ n ih =>
    intro X x2 H locs ls hm hW hl
    rw [X2_readItem_b2] at hm
    refine lv_iload_n hx hb dX2_readItem_2 rfl (lv_at hl 2 rfl) ?_
    refine lv_bipush (v := 7) hx hb dX2_readItem_3 (by decide) ?_
    refine lv_icmp_ge (tgt := 32) hx hb dX2_readItem_5 (by decide) (fun hc1 => ?_) (fun hc1 => ?_)
    · rw [if_pos hc1] at hm
      refine lv_aload_n hx hb dX2_readItem_32 rfl (lv_at hl 0 rfl) ?_
      refine va_ldcS hx hb C.2.2.2.1 ((hg A s s.heap C.2.2.2.2.2.2.1.2).2.2.2.1.2.2.2.2.2.2.2.2.2.1) dX2_readItem_33 ?_
      obtain ⟨v3, e2, hm⟩ := mi_bind hm
      refine cr3_i_p (As := [.ref (z.2.1 9)]) (rest := []) C hW (c_X2_isWord hg (by decide) e2) kX2_isWord q622 rfl rfl rfl hl.1 ⟨Nat.le_of_ble_eq_true rfl, Nat.le_of_ble_eq_true rfl⟩ ⟨Nat.le_refl 0, Nat.le_refl 0⟩ (Nat.le_of_ble_eq_true rfl) dX2_readItem_35 (fun H locs hW => ?_)
      refine lv_if_eq (tgt := 47) hx hb dX2_readItem_38 (by decide) (fun hc4 => ?_) (fun hc4 => ?_)
      · rw [if_pos hc4] at hm
        refine lv_aload_n hx hb dX2_readItem_47 rfl (lv_at hl 0 rfl) ?_
        refine va_ldcS hx hb C.2.2.2.1 ((hg A s s.heap C.2.2.2.2.2.2.1.2).2.2.2.1.2.2.2.2.2.2.2.2.2.2) dX2_readItem_48 ?_
        obtain ⟨v6, e5, hm⟩ := mi_bind hm
        refine cr3_i_p (As := [.ref (z.2.1 10)]) (rest := []) C hW (c_X2_isWord hg (by decide) e5) kX2_isWord q622 rfl rfl rfl hl.1 ⟨Nat.le_of_ble_eq_true rfl, Nat.le_of_ble_eq_true rfl⟩ ⟨Nat.le_refl 0, Nat.le_refl 0⟩ (Nat.le_of_ble_eq_true rfl) dX2_readItem_50 (fun H locs hW => ?_)
        refine lv_if_eq (tgt := 68) hx hb dX2_readItem_53 (by decide) (fun hc7 => ?_) (fun hc7 => ?_)
        · rw [if_pos hc7] at hm
          refine lv_iconst (v := 0) hx hb dX2_readItem_68 (by decide) ?_
          obtain ⟨rfl, rfl⟩ := Prod.mk.inj (Option.some.inj hm)
          exact en_z C hr hlk rfl hW dX2_readItem_69
        · rw [if_neg hc7] at hm
          refine lv_aload_n hx hb dX2_readItem_56 rfl (lv_at hl 0 rfl) ?_
          refine lv_aload_n hx hb dX2_readItem_57 rfl (lv_at hl 1 rfl) ?_
          obtain ⟨q9, e8, hm⟩ := mi_bind hm
          refine cs_i (q0 := 0) (As := [.ref (o 1 0)]) (rest := []) C hW (c_X2_readSubject e8) kX2_readSubject q703 rfl rfl rfl rfl rfl hl.1 ⟨Nat.le_of_ble_eq_true rfl, Nat.le_of_ble_eq_true rfl⟩ ⟨Nat.le_refl 0, Nat.le_refl 0⟩ (Nat.le_of_ble_eq_true rfl) dX2_readItem_58 (fun H locs hW => ?_)
          refine lv_if_eq (tgt := 68) hx hb dX2_readItem_61 (by decide) (fun hc10 => ?_) (fun hc10 => ?_)
          · rw [if_pos hc10] at hm
            refine lv_iconst (v := 0) hx hb dX2_readItem_68 (by decide) ?_
            obtain ⟨rfl, rfl⟩ := Prod.mk.inj (Option.some.inj hm)
            exact en_z C hr hlk rfl hW dX2_readItem_69
          · rw [if_neg hc10] at hm
            refine lv_iconst (v := 1) hx hb dX2_readItem_64 (by decide) ?_
            refine lv_goto (tgt := 69) hx hb dX2_readItem_65 (by decide) ?_
            obtain ⟨rfl, rfl⟩ := Prod.mk.inj (Option.some.inj hm)
            exact en_z C hr hlk rfl hW dX2_readItem_69
      · rw [if_neg hc4] at hm
        refine lv_aload_n hx hb dX2_readItem_41 rfl (lv_at hl 0 rfl) ?_
        refine lv_aload_n hx hb dX2_readItem_42 rfl (lv_at hl 1 rfl) ?_
        obtain ⟨q12, e11, hm⟩ := mi_bind hm
        refine cs_i (q0 := 0) (As := [.ref (o 1 0)]) (rest := []) C hW (c_X2_readPair e11) kX2_readPair q697 rfl rfl rfl rfl rfl hl.1 ⟨Nat.le_of_ble_eq_true rfl, Nat.le_of_ble_eq_true rfl⟩ ⟨Nat.le_refl 0, Nat.le_refl 0⟩ (Nat.le_of_ble_eq_true rfl) dX2_readItem_43 (fun H locs hW => ?_)
        obtain ⟨hz13, hm⟩ := mi_zb hm
        obtain ⟨rfl, rfl⟩ := Prod.mk.inj (Option.some.inj hm)
        exact en_z C hr hlk hz13.1 hW dX2_readItem_46
    · rw [if_neg hc1] at hm
      refine lv_aload_n hx hb dX2_readItem_8 rfl (lv_at hl 0 rfl) ?_
      refine lv_iload_n hx hb dX2_readItem_9 rfl (lv_at hl 2 rfl) ?_
      refine cS_r (As := [.int x2]) (rest := [.ref (o 3 0)]) C hW (c_X0_nameOf hg) kX0_nameOf q612 rfl rfl hl.1 ⟨Nat.le_of_ble_eq_true rfl, Nat.le_of_ble_eq_true rfl⟩ ⟨Nat.le_refl 0, Nat.le_refl 0⟩ (Nat.le_of_ble_eq_true rfl) dX2_readItem_10 (fun H locs hW => ?_)
      obtain ⟨v15, e14, hm⟩ := mi_bind hm
      refine cr3_i_p (As := [.ref (z.2.1 (nmi x2))]) (rest := []) C hW (c_X2_isWord hg (nmi_lt x2) e14) kX2_isWord q622 rfl rfl rfl hl.1 ⟨Nat.le_of_ble_eq_true rfl, Nat.le_of_ble_eq_true rfl⟩ ⟨Nat.le_refl 0, Nat.le_refl 0⟩ (Nat.le_of_ble_eq_true rfl) dX2_readItem_13 (fun H locs hW => ?_)
      refine lv_if_eq (tgt := 26) hx hb dX2_readItem_16 (by decide) (fun hc16 => ?_) (fun hc16 => ?_)
      · rw [if_pos hc16] at hm
        refine lv_iinc (v := (x2 + (1 : Int32))) (lv' := [(2, .int (x2 + (1 : Int32))), (0, .ref (o 3 0)), (1, .ref (o 1 0))]) hx hb dX2_readItem_26 hl (k := 2) rfl (congrArg (fun z : Int32 => x2 + z) (by decide)) (by decide) rfl (fun ls hl => ?_)
        refine lv_goto (tgt := 2) hx hb dX2_readItem_29 (by decide) ?_
        exact ih X ((x2 + (1 : Int32))) _ _ _ hm hW (lv_sub hl [1, 2, 0] rfl)
      · rw [if_neg hc16] at hm
        refine lv_aload_n hx hb dX2_readItem_19 rfl (lv_at hl 0 rfl) ?_
        refine lv_aload_n hx hb dX2_readItem_20 rfl (lv_at hl 1 rfl) ?_
        refine lv_iload_n hx hb dX2_readItem_21 rfl (lv_at hl 2 rfl) ?_
        obtain ⟨q18, e17, hm⟩ := mi_bind hm
        refine cs_i (q0 := 0) (As := [.ref (o 1 0), .int x2]) (rest := []) C hW (c_X2_readPerson hg e17) kX2_readPerson q674 rfl rfl rfl rfl rfl hl.1 ⟨Nat.le_of_ble_eq_true rfl, Nat.le_of_ble_eq_true rfl⟩ ⟨Nat.le_refl 0, Nat.le_refl 0⟩ (Nat.le_of_ble_eq_true rfl) dX2_readItem_22 (fun H locs hW => ?_)
        obtain ⟨hz19, hm⟩ := mi_zb hm
        obtain ⟨rfl, rfl⟩ := Prod.mk.inj (Option.some.inj hm)
        exact en_z C hr hlk hz19.1 hW dX2_readItem_25
def X2_readItem (X : XS) : Option (Int32 × XS) := X2_readItem_b2 FU X (0 : Int32)
set_option maxHeartbeats 4000000 in
set_option maxRecDepth 100000 in
theorem c_X2_readItem {l : Launch} {D : va_G} {cy cz : ClassId} {G : GT} {o : Nat → Nat → Nat} {X : XS} {r : Int32} {Xr : XS} {z : ZT} (hg : GH G z) (hm : X2_readItem X = some (r, Xr)) : CtI l D cy cz G yX2_readItem cX2_readItem 3 (some .boolean) 6 130 [.ref (o 3 0), .ref (o 1 0)] (cRS o cy X) (cRS o cy Xr) r := by
  refine ct_i (own := "PumpTalk$Reader") (by decide) rfl (Nat.le_of_ble_eq_true rfl) ?_
  intro p e s m below meth c ls A C hr hlk hW hl
  have hx := C.1
  have hb := C.2.1
  have hl : lv_has ls 3 [(0, .ref (o 3 0)), (1, .ref (o 1 0))] := hl
  unfold X2_readItem at hm
  refine lv_iconst (v := 0) hx hb dX2_readItem_0 (by decide) ?_
  refine lv_istore_n (lv' := [(2, .int (0 : Int32)), (0, .ref (o 3 0)), (1, .ref (o 1 0))]) hx hb dX2_readItem_1 rfl hl (by decide) rfl (fun ls hl => ?_)
  exact wX2_readItem_b2 C hr hlk hg FU X (0 : Int32) _ _ _ hm hW (lv_sub hl [1, 2, 0] rfl)
theorem kX2_readItem : KM yX2_readItem cX2_readItem 3 (some .boolean) 1 := ⟨q610, q15, q69, q611, by decide +kernel, by decide +kernel, by decide +kernel⟩
def X2_readInto_b11 : Nat → XS → Int32 → Option (Int32 × XS)
  | 0, _, _ => none
  | n + 1, X, x2 => if (120 : Int32) < x2 then (some (((-1 : Int32) - (X 3 6 3)), X)) else ((X2_readItem X).bind fun q3 => if q3.1 = (0 : Int32) then (some (((-1 : Int32) - (q3.2 3 6 3)), q3.2)) else (if (q3.2 3 6 2) = (0 : Int32) then (some (x2, q3.2)) else ((X2_isSign (q3.2 3) (59 : Int32)).bind fun v7 => if v7 = (0 : Int32) then (some (((-1 : Int32) - (q3.2 3 6 3)), q3.2)) else ((X2_advance (q3.2 3)).bind fun s10 => X2_readInto_b11 n (va_up q3.2 3 s10) ((x2 + (1 : Int32)))))))
set_option maxHeartbeats 4000000 in
set_option maxRecDepth 100000 in
theorem wX2_readInto_b11 {p : Program} {l : Launch} {e : Env} {s : State} {m : MethodId} {below : List Frame} {meth : Method} {c : Code} {D : va_G} {cy cz : ClassId} {G : GT} {A : Nat → Prop} {args : Array Value} {o : Nat → Nat → Nat} {z : ZT} {r : Int32} {Xr : XS} (C : Cx p s m args c cX2_readInto 3 "PumpTalk$Reader" D cy cz G A) (hr : meth.sig.returnType = some .int) (hlk : meth.locks = false) (hg : GH G z) : ∀ (n : Nat) (X : XS) (x2 : Int32) (H : Heap) (locs : List Loc) (ls : Array Slot), X2_readInto_b11 n X x2 = some (r, Xr) → Wd D A s.heap H locs (cRS o cy X) → lv_has ls 3 [(0, .ref (o 3 0)), (1, .ref (o 1 0)), (2, .int x2)] → W p l e (rmz 7 152) s m args below meth c H locs 0 0 (MQ below (QI D cy cz A (cRS o cy Xr) r) args s 0 0 A) (F0 m 11 ls []) := by
  have hx := C.1
  have hb := C.2.1
  intro n
  induction n with
  | zero =>
    intro X x2 H locs ls hm
    rw [X2_readInto_b11] at hm
    cases hm
  | succ n ih =>
    intro X x2 H locs ls hm hW hl
    rw [X2_readInto_b11] at hm
    refine lv_iload_n hx hb dX2_readInto_11 rfl (lv_at hl 2 rfl) ?_
    refine lv_bipush (v := 120) hx hb dX2_readInto_12 (by decide) ?_
    refine lv_icmp_gt (tgt := 67) hx hb dX2_readInto_14 (by decide) (fun hc1 => ?_) (fun hc1 => ?_)
    · rw [if_pos hc1] at hm
      refine lv_iconst (v := -1) hx hb dX2_readInto_67 (by decide) ?_
      refine lv_aload_n hx hb dX2_readInto_68 rfl (lv_at hl 0 rfl) ?_
      refine gRd_start C (wr_3 hW) q150 dX2_readInto_69 ?_
      refine lv_isub hx hb dX2_readInto_72 ?_
      obtain ⟨rfl, rfl⟩ := Prod.mk.inj (Option.some.inj hm)
      exact en_i C hr hlk hW dX2_readInto_73
    · rw [if_neg hc1] at hm
      refine lv_aload_n hx hb dX2_readInto_17 rfl (lv_at hl 0 rfl) ?_
      refine lv_aload_n hx hb dX2_readInto_18 rfl (lv_at hl 1 rfl) ?_
      obtain ⟨q3, e2, hm⟩ := mi_bind hm
      refine cs_i (q0 := 0) (As := [.ref (o 1 0)]) (rest := []) C hW (c_X2_readItem hg e2) kX2_readItem q608 rfl rfl rfl rfl rfl hl.1 ⟨Nat.le_of_ble_eq_true rfl, Nat.le_of_ble_eq_true rfl⟩ ⟨Nat.le_refl 0, Nat.le_refl 0⟩ (Nat.le_of_ble_eq_true rfl) dX2_readInto_19 (fun H locs hW => ?_)
      refine lv_if_ne (tgt := 32) hx hb dX2_readInto_22 (by decide) (fun hc4 => ?_) (fun hc4 => ?_)
      · rw [if_neg hc4] at hm
        refine lv_aload_n hx hb dX2_readInto_32 rfl (lv_at hl 0 rfl) ?_
        refine gRd_sort C (wr_3 hW) q149 dX2_readInto_33 ?_
        refine lv_if_ne (tgt := 41) hx hb dX2_readInto_36 (by decide) (fun hc5 => ?_) (fun hc5 => ?_)
        · rw [if_neg hc5] at hm
          refine lv_aload_n hx hb dX2_readInto_41 rfl (lv_at hl 0 rfl) ?_
          refine lv_bipush (v := 59) hx hb dX2_readInto_42 (by decide) ?_
          obtain ⟨v7, e6, hm⟩ := mi_bind hm
          refine cr3_i_p (As := [.int (59 : Int32)]) (rest := []) C hW (c_X2_isSign e6) kX2_isSign q691 rfl rfl rfl hl.1 ⟨Nat.le_of_ble_eq_true rfl, Nat.le_of_ble_eq_true rfl⟩ ⟨Nat.le_refl 0, Nat.le_refl 0⟩ (Nat.le_of_ble_eq_true rfl) dX2_readInto_44 (fun H locs hW => ?_)
          refine lv_if_ne (tgt := 57) hx hb dX2_readInto_47 (by decide) (fun hc8 => ?_) (fun hc8 => ?_)
          · rw [if_neg hc8] at hm
            refine lv_aload_n hx hb dX2_readInto_57 rfl (lv_at hl 0 rfl) ?_
            obtain ⟨s10, e9, hm⟩ := mi_bind hm
            refine cr3_v_s (As := []) (rest := []) C hW (c_X2_advance e9) kX2_advance q596 rfl rfl rfl hl.1 ⟨Nat.le_of_ble_eq_true rfl, Nat.le_of_ble_eq_true rfl⟩ ⟨Nat.le_refl 0, Nat.le_refl 0⟩ (Nat.le_of_ble_eq_true rfl) dX2_readInto_58 (fun H locs hW => ?_)
            refine lv_iinc (v := (x2 + (1 : Int32))) (lv' := [(2, .int (x2 + (1 : Int32))), (0, .ref (o 3 0)), (1, .ref (o 1 0))]) hx hb dX2_readInto_61 hl (k := 2) rfl (congrArg (fun z : Int32 => x2 + z) (by decide)) (by decide) rfl (fun ls hl => ?_)
            refine lv_goto (tgt := 11) hx hb dX2_readInto_64 (by decide) ?_
            exact ih (va_up q3.2 3 s10) ((x2 + (1 : Int32))) _ _ _ hm hW (lv_sub hl [1, 2, 0] rfl)
          · rw [if_pos hc8] at hm
            refine lv_iconst (v := -1) hx hb dX2_readInto_50 (by decide) ?_
            refine lv_aload_n hx hb dX2_readInto_51 rfl (lv_at hl 0 rfl) ?_
            refine gRd_start C (wr_3 hW) q150 dX2_readInto_52 ?_
            refine lv_isub hx hb dX2_readInto_55 ?_
            obtain ⟨rfl, rfl⟩ := Prod.mk.inj (Option.some.inj hm)
            exact en_i C hr hlk hW dX2_readInto_56
        · rw [if_pos hc5] at hm
          refine lv_iload_n hx hb dX2_readInto_39 rfl (lv_at hl 2 rfl) ?_
          obtain ⟨rfl, rfl⟩ := Prod.mk.inj (Option.some.inj hm)
          exact en_i C hr hlk hW dX2_readInto_40
      · rw [if_pos hc4] at hm
        refine lv_iconst (v := -1) hx hb dX2_readInto_25 (by decide) ?_
        refine lv_aload_n hx hb dX2_readInto_26 rfl (lv_at hl 0 rfl) ?_
        refine gRd_start C (wr_3 hW) q150 dX2_readInto_27 ?_
        refine lv_isub hx hb dX2_readInto_30 ?_
        obtain ⟨rfl, rfl⟩ := Prod.mk.inj (Option.some.inj hm)
        exact en_i C hr hlk hW dX2_readInto_31
def X2_readInto (X : XS) : Option (Int32 × XS) := (some (va_up X 3 (su (X 3) 6 4 (0 : Int32)))).bind fun s11 => (X2_advance (s11 3)).bind fun s14 => X2_readInto_b11 FU (va_up s11 3 s14) (1 : Int32)
set_option maxHeartbeats 4000000 in
set_option maxRecDepth 100000 in
theorem c_X2_readInto {l : Launch} {D : va_G} {cy cz : ClassId} {G : GT} {o : Nat → Nat → Nat} {X : XS} {r : Int32} {Xr : XS} {z : ZT} (hg : GH G z) (hm : X2_readInto X = some (r, Xr)) : CtI l D cy cz G yX2_readInto cX2_readInto 3 (some .int) 7 152 [.ref (o 3 0), .ref (o 1 0)] (cRS o cy X) (cRS o cy Xr) r := by
  refine ct_i (own := "PumpTalk$Reader") (by decide) rfl (Nat.le_of_ble_eq_true rfl) ?_
  intro p e s m below meth c ls A C hr hlk hW hl
  have hx := C.1
  have hb := C.2.1
  have hl : lv_has ls 3 [(0, .ref (o 3 0)), (1, .ref (o 1 0))] := hl
  unfold X2_readInto at hm
  refine lv_aload_n hx hb dX2_readInto_0 rfl (lv_at hl 0 rfl) ?_
  refine lv_iconst (v := 0) hx hb dX2_readInto_1 (by decide) ?_
  refine pR3_behind C hW q151 dX2_readInto_2 (fun H locs hW => ?_)
  obtain ⟨s11, e12, hm⟩ := mi_bind hm
  rw [Option.some.inj e12] at hW
  refine lv_aload_n hx hb dX2_readInto_5 rfl (lv_at hl 0 rfl) ?_
  obtain ⟨s14, e13, hm⟩ := mi_bind hm
  refine cr3_v_s (As := []) (rest := []) C hW (c_X2_advance e13) kX2_advance q596 rfl rfl rfl hl.1 ⟨Nat.le_of_ble_eq_true rfl, Nat.le_of_ble_eq_true rfl⟩ ⟨Nat.le_refl 0, Nat.le_refl 0⟩ (Nat.le_of_ble_eq_true rfl) dX2_readInto_6 (fun H locs hW => ?_)
  refine lv_iconst (v := 1) hx hb dX2_readInto_9 (by decide) ?_
  refine lv_istore_n (lv' := [(2, .int (1 : Int32)), (0, .ref (o 3 0)), (1, .ref (o 1 0))]) hx hb dX2_readInto_10 rfl hl (by decide) rfl (fun ls hl => ?_)
  exact wX2_readInto_b11 C hr hlk hg FU (va_up s11 3 s14) (1 : Int32) _ _ _ hm hW (lv_sub hl [1, 2, 0] rfl)
theorem kX2_readInto : KM yX2_readInto cX2_readInto 3 (some .int) 1 := ⟨q593, q594, q69, q595, by decide +kernel, by decide +kernel, by decide +kernel⟩
def X5_as_b20 (X : XS) : Option (Int32 × XS) := (X5_found X (-1000001 : Int32)).bind fun q2 => some (q2.1, q2.2)
set_option maxHeartbeats 4000000 in
set_option maxRecDepth 100000 in
theorem wX5_as_b20 {p : Program} {l : Launch} {e : Env} {s : State} {m : MethodId} {below : List Frame} {meth : Method} {c : Code} {D : va_G} {cy cz : ClassId} {G : GT} {A : Nat → Prop} {args : Array Value} {o : Nat → Nat → Nat} {z : ZT} {r : Int32} {Xr : XS} (C : Cx p s m args c cX5_as 4 "PumpTalk" D cy cz G A) (hr : meth.sig.returnType = some .int) (hlk : meth.locks = false) (hg : GH G z) : ∀ (X : XS) (H : Heap) (locs : List Loc) (ls : Array Slot), X5_as_b20 X = some (r, Xr) → Wd D A s.heap H locs (cPT o cy cz X) → lv_has ls 4 [(0, .ref (o 9 0))] → W p l e (rmz 2 44) s m args below meth c H locs 0 0 (MQ below (QI D cy cz A (cPT o cy cz Xr) r) args s 0 0 A) (F0 m 20 ls []) := by
  have hx := C.1
  have hb := C.2.1
  intro X H locs ls hm hW hl
  unfold X5_as_b20 at hm
  refine lv_aload_n hx hb dX5_as_20 rfl (lv_at hl 0 rfl) ?_
  refine lv_ldc hx hb C.2.2.2.1 (C.2.2.2.2.1 _ q231) dX5_as_21 ?_
  obtain ⟨q2, e1, hm⟩ := mi_bind hm
  refine cs_i (q0 := 0) (As := [.int (-1000001 : Int32)]) (rest := []) C hW (c_X5_found e1) kX5_found q232 rfl rfl rfl rfl rfl hl.1 ⟨Nat.le_of_ble_eq_true rfl, Nat.le_of_ble_eq_true rfl⟩ ⟨Nat.le_refl 0, Nat.le_refl 0⟩ (Nat.le_of_ble_eq_true rfl) dX5_as_23 (fun H locs hW => ?_)
  obtain ⟨rfl, rfl⟩ := Prod.mk.inj (Option.some.inj hm)
  exact en_i C hr hlk hW dX5_as_26
def X5_as (X : XS) (p1 : Int32) (p2 : Int32) : Option (Int32 × XS) := (X5_isOutside p1 (0 : Int32) (9 : Int32)).bind fun v4 => if v4 = (0 : Int32) then ((X5_isOutside p2 (0 : Int32) (6 : Int32)).bind fun v7 => if v7 = (0 : Int32) then (ai p1 10 ((X4_isThere (X 0) (X 0 3 (Int32.toNatClampNeg p1))).bind fun v11 => if v11 = (0 : Int32) then ((X5_found X (-1000006 : Int32)).bind fun q21 => some (q21.1, q21.2)) else ((X4_trait (X 0) (X 0 3 (Int32.toNatClampNeg p1)) (0 : Int32)).bind fun v14 => (X0_isUnder v14 p2).bind fun v16 => if v16 = (0 : Int32) then ((X5_found X (-1000003 : Int32)).bind fun q19 => some (q19.1, q19.2)) else (some ((X 0 3 (Int32.toNatClampNeg p1)), X))))) else (X5_as_b20 X)) else (X5_as_b20 X)
set_option maxHeartbeats 4000000 in
set_option maxRecDepth 100000 in
theorem c_X5_as {l : Launch} {D : va_G} {cy cz : ClassId} {G : GT} {o : Nat → Nat → Nat} {X : XS} {p1 : Int32} {p2 : Int32} {r : Int32} {Xr : XS} {z : ZT} (hg : GH G z) (hm : X5_as X p1 p2 = some (r, Xr)) : CtI l D cy cz G yX5_as cX5_as 4 (some .int) 2 44 [.ref (o 9 0), .int p1, .int p2] (cPT o cy cz X) (cPT o cy cz Xr) r := by
  refine ct_i (own := "PumpTalk") (by decide) rfl (Nat.le_of_ble_eq_true rfl) ?_
  intro p e s m below meth c ls A C hr hlk hW hl
  have hx := C.1
  have hb := C.2.1
  have hl : lv_has ls 4 [(0, .ref (o 9 0)), (1, .int p1), (2, .int p2)] := hl
  unfold X5_as at hm
  refine lv_iload_n hx hb dX5_as_0 rfl (lv_at hl 1 rfl) ?_
  refine lv_iconst (v := 0) hx hb dX5_as_1 (by decide) ?_
  refine lv_bipush (v := 9) hx hb dX5_as_2 (by decide) ?_
  obtain ⟨v4, e3, hm⟩ := mi_bind hm
  refine cS_i (As := [.int p1, .int (0 : Int32), .int (9 : Int32)]) (rest := []) C hW (c_X5_isOutside e3) kX5_isOutside q228 rfl rfl hl.1 ⟨Nat.le_of_ble_eq_true rfl, Nat.le_of_ble_eq_true rfl⟩ ⟨Nat.le_refl 0, Nat.le_refl 0⟩ (Nat.le_of_ble_eq_true rfl) dX5_as_4 (fun H locs hW => ?_)
  refine lv_if_ne (tgt := 20) hx hb dX5_as_7 (by decide) (fun hc5 => ?_) (fun hc5 => ?_)
  · rw [if_neg hc5] at hm
    exact wX5_as_b20 C hr hlk hg X _ _ _ hm hW (lv_sub hl [0] rfl)
  · rw [if_pos hc5] at hm
    refine lv_iload_n hx hb dX5_as_10 rfl (lv_at hl 2 rfl) ?_
    refine lv_iconst (v := 0) hx hb dX5_as_11 (by decide) ?_
    refine lv_bipush (v := 6) hx hb dX5_as_12 (by decide) ?_
    obtain ⟨v7, e6, hm⟩ := mi_bind hm
    refine cS_i (As := [.int p2, .int (0 : Int32), .int (6 : Int32)]) (rest := []) C hW (c_X5_isOutside e6) kX5_isOutside q228 rfl rfl hl.1 ⟨Nat.le_of_ble_eq_true rfl, Nat.le_of_ble_eq_true rfl⟩ ⟨Nat.le_refl 0, Nat.le_refl 0⟩ (Nat.le_of_ble_eq_true rfl) dX5_as_14 (fun H locs hW => ?_)
    refine lv_if_eq (tgt := 27) hx hb dX5_as_17 (by decide) (fun hc8 => ?_) (fun hc8 => ?_)
    · rw [if_pos hc8] at hm
      refine lv_aload_n hx hb dX5_as_27 rfl (lv_at hl 0 rfl) ?_
      refine gP_square C hW q199 dX5_as_28 ?_
      refine gSq_spots C (wd_0 hW) q99 dX5_as_31 ?_
      refine lv_iload_n hx hb dX5_as_34 rfl (lv_at hl 1 rfl) ?_
      obtain ⟨hi9, hm⟩ := mi_ai hm
      refine lSq_spots C (wd_0 hW) hi9 dX5_as_35 ?_
      refine lv_istore_n (lv' := [(3, .int (X 0 3 (Int32.toNatClampNeg p1))), (0, .ref (o 9 0)), (1, .int p1), (2, .int p2)]) hx hb dX5_as_36 rfl hl (by decide) rfl (fun ls hl => ?_)
      refine lv_aload_n hx hb dX5_as_37 rfl (lv_at hl 1 rfl) ?_
      refine gP_square C hW q199 dX5_as_38 ?_
      refine lv_iload_n hx hb dX5_as_41 rfl (lv_at hl 0 rfl) ?_
      obtain ⟨v11, e10, hm⟩ := mi_bind hm
      refine cq0_i_p (As := [.int (X 0 3 (Int32.toNatClampNeg p1))]) (rest := []) C hW (c_X4_isThere e10) kX4_isThere q253 rfl rfl rfl hl.1 ⟨Nat.le_of_ble_eq_true rfl, Nat.le_of_ble_eq_true rfl⟩ ⟨Nat.le_refl 0, Nat.le_refl 0⟩ (Nat.le_of_ble_eq_true rfl) dX5_as_42 (fun H locs hW => ?_)
      refine lv_if_ne (tgt := 55) hx hb dX5_as_45 (by decide) (fun hc12 => ?_) (fun hc12 => ?_)
      · rw [if_neg hc12] at hm
        refine lv_aload_n hx hb dX5_as_55 rfl (lv_at hl 1 rfl) ?_
        refine gP_square C hW q199 dX5_as_56 ?_
        refine lv_iload_n hx hb dX5_as_59 rfl (lv_at hl 0 rfl) ?_
        refine lv_iconst (v := 0) hx hb dX5_as_60 (by decide) ?_
        obtain ⟨v14, e13, hm⟩ := mi_bind hm
        refine cq0_i_p (As := [.int (X 0 3 (Int32.toNatClampNeg p1)), .int (0 : Int32)]) (rest := []) C hW (c_X4_trait e13) kX4_trait q261 rfl rfl rfl hl.1 ⟨Nat.le_of_ble_eq_true rfl, Nat.le_of_ble_eq_true rfl⟩ ⟨Nat.le_refl 0, Nat.le_refl 0⟩ (Nat.le_of_ble_eq_true rfl) dX5_as_61 (fun H locs hW => ?_)
        refine lv_iload_n hx hb dX5_as_64 rfl (lv_at hl 3 rfl) ?_
        obtain ⟨v16, e15, hm⟩ := mi_bind hm
        refine cS_i (As := [.int v14, .int p2]) (rest := []) C hW (c_X0_isUnder hg e15) kX0_isUnder q716 rfl rfl hl.1 ⟨Nat.le_of_ble_eq_true rfl, Nat.le_of_ble_eq_true rfl⟩ ⟨Nat.le_refl 0, Nat.le_refl 0⟩ (Nat.le_of_ble_eq_true rfl) dX5_as_65 (fun H locs hW => ?_)
        refine lv_if_eq (tgt := 75) hx hb dX5_as_68 (by decide) (fun hc17 => ?_) (fun hc17 => ?_)
        · rw [if_pos hc17] at hm
          refine lv_aload_n hx hb dX5_as_75 rfl (lv_at hl 1 rfl) ?_
          refine lv_ldc hx hb C.2.2.2.1 (C.2.2.2.2.1 _ q721) dX5_as_76 ?_
          obtain ⟨q19, e18, hm⟩ := mi_bind hm
          refine cs_i (q0 := 0) (As := [.int (-1000003 : Int32)]) (rest := []) C hW (c_X5_found e18) kX5_found q232 rfl rfl rfl rfl rfl hl.1 ⟨Nat.le_of_ble_eq_true rfl, Nat.le_of_ble_eq_true rfl⟩ ⟨Nat.le_refl 0, Nat.le_refl 0⟩ (Nat.le_of_ble_eq_true rfl) dX5_as_78 (fun H locs hW => ?_)
          obtain ⟨rfl, rfl⟩ := Prod.mk.inj (Option.some.inj hm)
          exact en_i C hr hlk hW dX5_as_81
        · rw [if_neg hc17] at hm
          refine lv_iload_n hx hb dX5_as_71 rfl (lv_at hl 0 rfl) ?_
          refine lv_goto (tgt := 81) hx hb dX5_as_72 (by decide) ?_
          obtain ⟨rfl, rfl⟩ := Prod.mk.inj (Option.some.inj hm)
          exact en_i C hr hlk hW dX5_as_81
      · rw [if_pos hc12] at hm
        refine lv_aload_n hx hb dX5_as_48 rfl (lv_at hl 1 rfl) ?_
        refine lv_ldc hx hb C.2.2.2.1 (C.2.2.2.2.1 _ q541) dX5_as_49 ?_
        obtain ⟨q21, e20, hm⟩ := mi_bind hm
        refine cs_i (q0 := 0) (As := [.int (-1000006 : Int32)]) (rest := []) C hW (c_X5_found e20) kX5_found q232 rfl rfl rfl rfl rfl hl.1 ⟨Nat.le_of_ble_eq_true rfl, Nat.le_of_ble_eq_true rfl⟩ ⟨Nat.le_refl 0, Nat.le_refl 0⟩ (Nat.le_of_ble_eq_true rfl) dX5_as_51 (fun H locs hW => ?_)
        obtain ⟨rfl, rfl⟩ := Prod.mk.inj (Option.some.inj hm)
        exact en_i C hr hlk hW dX5_as_54
    · rw [if_neg hc8] at hm
      exact wX5_as_b20 C hr hlk hg X _ _ _ hm hW (lv_sub hl [0] rfl)
theorem kX5_as : KM yX5_as cX5_as 4 (some .int) 2 := ⟨q713, q714, q67, q715, by decide +kernel, by decide +kernel, by decide +kernel⟩
def X5_text (X : XS) : Option (Int32 × XS) := (X4_takeOver (pr2 (X 1) (X 0))).bind fun s2 => (X2_readInto (va_up X 1 (s2 0))).bind fun q4 => (some (va_up (va_up (va_up (va_up X 1 (s2 0)) 3 (q4.2 3)) 1 (q4.2 1)) 3 (su ((va_up (va_up (va_up X 1 (s2 0)) 3 (q4.2 3)) 1 (q4.2 1)) 3) 6 1 (0 : Int32)))).bind fun s5 => if q4.1 < (0 : Int32) then (some (q4.1, s5)) else ((X4_takeOver (pr2 (s5 0) (s5 1))).bind fun s9 => some (q4.1, va_up s5 0 (s9 0)))
set_option maxHeartbeats 4000000 in
set_option maxRecDepth 100000 in
theorem c_X5_text {l : Launch} {D : va_G} {cy cz : ClassId} {G : GT} {o : Nat → Nat → Nat} {X : XS} {r : Int32} {Xr : XS} {z : ZT} (hg : GH G z) (hm : X5_text X = some (r, Xr)) : CtI l D cy cz G yX5_text cX5_text 2 (some .int) 8 174 [.ref (o 9 0)] (cPT o cy cz X) (cPT o cy cz Xr) r := by
  refine ct_i (own := "PumpTalk") (by decide) rfl (Nat.le_of_ble_eq_true rfl) ?_
  intro p e s m below meth c ls A C hr hlk hW hl
  have hx := C.1
  have hb := C.2.1
  have hl : lv_has ls 2 [(0, .ref (o 9 0))] := hl
  unfold X5_text at hm
  refine lv_aload_n hx hb dX5_text_0 rfl (lv_at hl 0 rfl) ?_
  refine gP_trial C hW q200 dX5_text_1 ?_
  refine lv_aload_n hx hb dX5_text_4 rfl (lv_at hl 0 rfl) ?_
  refine gP_square C hW q199 dX5_text_5 ?_
  obtain ⟨s2, e1, hm⟩ := mi_bind hm
  refine cq10_v_s1 (As := [.ref (o 0 0)]) (rest := []) C hW (c_X4_takeOver_2 e1) kX4_takeOver q400 rfl rfl rfl hl.1 ⟨Nat.le_of_ble_eq_true rfl, Nat.le_of_ble_eq_true rfl⟩ ⟨Nat.le_refl 0, Nat.le_refl 0⟩ (Nat.le_of_ble_eq_true rfl) dX5_text_8 (fun H locs hW => ?_)
  refine lv_aload_n hx hb dX5_text_11 rfl (lv_at hl 0 rfl) ?_
  refine gP_reader C hW q203 dX5_text_12 ?_
  refine lv_aload_n hx hb dX5_text_15 rfl (lv_at hl 0 rfl) ?_
  refine gP_trial C hW q200 dX5_text_16 ?_
  obtain ⟨q4, e3, hm⟩ := mi_bind hm
  refine cq31_i_s (As := [.ref (o 1 0)]) (rest := []) C hW (c_X2_readInto hg e3) kX2_readInto q592 rfl rfl rfl hl.1 ⟨Nat.le_of_ble_eq_true rfl, Nat.le_of_ble_eq_true rfl⟩ ⟨Nat.le_refl 0, Nat.le_refl 0⟩ (Nat.le_of_ble_eq_true rfl) dX5_text_19 (fun H locs hW => ?_)
  refine lv_istore_n (lv' := [(1, .int q4.1), (0, .ref (o 9 0))]) hx hb dX5_text_22 rfl hl (by decide) rfl (fun ls hl => ?_)
  refine lv_aload_n hx hb dX5_text_23 rfl (lv_at hl 1 rfl) ?_
  refine gP_reader C hW q203 dX5_text_24 ?_
  refine lv_iconst (v := 0) hx hb dX5_text_27 (by decide) ?_
  refine pP3_length C hW q148 dX5_text_28 (fun H locs hW => ?_)
  obtain ⟨s5, e6, hm⟩ := mi_bind hm
  rw [Option.some.inj e6] at hW
  refine lv_iload_n hx hb dX5_text_31 rfl (lv_at hl 0 rfl) ?_
  refine lv_if_lt (tgt := 46) hx hb dX5_text_32 (by decide) (fun hc7 => ?_) (fun hc7 => ?_)
  · rw [if_pos hc7] at hm
    refine lv_iload_n hx hb dX5_text_46 rfl (lv_at hl 0 rfl) ?_
    obtain ⟨rfl, rfl⟩ := Prod.mk.inj (Option.some.inj hm)
    exact en_i C hr hlk hW dX5_text_47
  · rw [if_neg hc7] at hm
    refine lv_aload_n hx hb dX5_text_35 rfl (lv_at hl 1 rfl) ?_
    refine gP_square C hW q199 dX5_text_36 ?_
    refine lv_aload_n hx hb dX5_text_39 rfl (lv_at hl 1 rfl) ?_
    refine gP_trial C hW q200 dX5_text_40 ?_
    obtain ⟨s9, e8, hm⟩ := mi_bind hm
    refine cq01_v_s0 (As := [.ref (o 1 0)]) (rest := []) C hW (c_X4_takeOver_2 e8) kX4_takeOver q400 rfl rfl rfl hl.1 ⟨Nat.le_of_ble_eq_true rfl, Nat.le_of_ble_eq_true rfl⟩ ⟨Nat.le_refl 0, Nat.le_refl 0⟩ (Nat.le_of_ble_eq_true rfl) dX5_text_43 (fun H locs hW => ?_)
    refine lv_iload_n hx hb dX5_text_46 rfl (lv_at hl 0 rfl) ?_
    obtain ⟨rfl, rfl⟩ := Prod.mk.inj (Option.some.inj hm)
    exact en_i C hr hlk hW dX5_text_47
theorem kX5_text : KM yX5_text cX5_text 2 (some .int) 0 := ⟨q589, q590, q67, q591, by decide +kernel, by decide +kernel, by decide +kernel⟩
