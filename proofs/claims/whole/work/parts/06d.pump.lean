def J6_bitCount_0f7a4 (p1 : Int32) : Option (Int32) := some ((((((((p1 - ((((p1).toUInt32 >>> (((1 : Int32)).toUInt32 &&& Int32.toUInt32 31)).toInt32) &&& (1431655765 : Int32))) &&& (858993459 : Int32)) + (((((p1 - ((((p1).toUInt32 >>> (((1 : Int32)).toUInt32 &&& Int32.toUInt32 31)).toInt32) &&& (1431655765 : Int32)))).toUInt32 >>> (((2 : Int32)).toUInt32 &&& Int32.toUInt32 31)).toInt32) &&& (858993459 : Int32))) + ((((((p1 - ((((p1).toUInt32 >>> (((1 : Int32)).toUInt32 &&& Int32.toUInt32 31)).toInt32) &&& (1431655765 : Int32))) &&& (858993459 : Int32)) + (((((p1 - ((((p1).toUInt32 >>> (((1 : Int32)).toUInt32 &&& Int32.toUInt32 31)).toInt32) &&& (1431655765 : Int32)))).toUInt32 >>> (((2 : Int32)).toUInt32 &&& Int32.toUInt32 31)).toInt32) &&& (858993459 : Int32)))).toUInt32 >>> (((4 : Int32)).toUInt32 &&& Int32.toUInt32 31)).toInt32)) &&& (252645135 : Int32)) + ((((((((p1 - ((((p1).toUInt32 >>> (((1 : Int32)).toUInt32 &&& Int32.toUInt32 31)).toInt32) &&& (1431655765 : Int32))) &&& (858993459 : Int32)) + (((((p1 - ((((p1).toUInt32 >>> (((1 : Int32)).toUInt32 &&& Int32.toUInt32 31)).toInt32) &&& (1431655765 : Int32)))).toUInt32 >>> (((2 : Int32)).toUInt32 &&& Int32.toUInt32 31)).toInt32) &&& (858993459 : Int32))) + ((((((p1 - ((((p1).toUInt32 >>> (((1 : Int32)).toUInt32 &&& Int32.toUInt32 31)).toInt32) &&& (1431655765 : Int32))) &&& (858993459 : Int32)) + (((((p1 - ((((p1).toUInt32 >>> (((1 : Int32)).toUInt32 &&& Int32.toUInt32 31)).toInt32) &&& (1431655765 : Int32)))).toUInt32 >>> (((2 : Int32)).toUInt32 &&& Int32.toUInt32 31)).toInt32) &&& (858993459 : Int32)))).toUInt32 >>> (((4 : Int32)).toUInt32 &&& Int32.toUInt32 31)).toInt32)) &&& (252645135 : Int32))).toUInt32 >>> (((8 : Int32)).toUInt32 &&& Int32.toUInt32 31)).toInt32)) + (((((((((p1 - ((((p1).toUInt32 >>> (((1 : Int32)).toUInt32 &&& Int32.toUInt32 31)).toInt32) &&& (1431655765 : Int32))) &&& (858993459 : Int32)) + (((((p1 - ((((p1).toUInt32 >>> (((1 : Int32)).toUInt32 &&& Int32.toUInt32 31)).toInt32) &&& (1431655765 : Int32)))).toUInt32 >>> (((2 : Int32)).toUInt32 &&& Int32.toUInt32 31)).toInt32) &&& (858993459 : Int32))) + ((((((p1 - ((((p1).toUInt32 >>> (((1 : Int32)).toUInt32 &&& Int32.toUInt32 31)).toInt32) &&& (1431655765 : Int32))) &&& (858993459 : Int32)) + (((((p1 - ((((p1).toUInt32 >>> (((1 : Int32)).toUInt32 &&& Int32.toUInt32 31)).toInt32) &&& (1431655765 : Int32)))).toUInt32 >>> (((2 : Int32)).toUInt32 &&& Int32.toUInt32 31)).toInt32) &&& (858993459 : Int32)))).toUInt32 >>> (((4 : Int32)).toUInt32 &&& Int32.toUInt32 31)).toInt32)) &&& (252645135 : Int32)) + ((((((((p1 - ((((p1).toUInt32 >>> (((1 : Int32)).toUInt32 &&& Int32.toUInt32 31)).toInt32) &&& (1431655765 : Int32))) &&& (858993459 : Int32)) + (((((p1 - ((((p1).toUInt32 >>> (((1 : Int32)).toUInt32 &&& Int32.toUInt32 31)).toInt32) &&& (1431655765 : Int32)))).toUInt32 >>> (((2 : Int32)).toUInt32 &&& Int32.toUInt32 31)).toInt32) &&& (858993459 : Int32))) + ((((((p1 - ((((p1).toUInt32 >>> (((1 : Int32)).toUInt32 &&& Int32.toUInt32 31)).toInt32) &&& (1431655765 : Int32))) &&& (858993459 : Int32)) + (((((p1 - ((((p1).toUInt32 >>> (((1 : Int32)).toUInt32 &&& Int32.toUInt32 31)).toInt32) &&& (1431655765 : Int32)))).toUInt32 >>> (((2 : Int32)).toUInt32 &&& Int32.toUInt32 31)).toInt32) &&& (858993459 : Int32)))).toUInt32 >>> (((4 : Int32)).toUInt32 &&& Int32.toUInt32 31)).toInt32)) &&& (252645135 : Int32))).toUInt32 >>> (((8 : Int32)).toUInt32 &&& Int32.toUInt32 31)).toInt32))).toUInt32 >>> (((16 : Int32)).toUInt32 &&& Int32.toUInt32 31)).toInt32)) &&& (63 : Int32))
set_option maxHeartbeats 4000000 in
set_option maxRecDepth 100000 in
theorem c_J6_bitCount_0f7a4 {l : Launch} {D : va_G} {cy cz : ClassId} {G : GT} {p1 : Int32} {r : Int32} (hm : J6_bitCount_0f7a4 p1 = some r) : CtI l D cy cz G yJ6_bitCount_0f7a4 cJ6_bitCount_0f7a4 1 (some .int) 0 0 [.int p1] ([] : va_W) ([] : va_W) r := by
  refine ct_i (own := "java/lang/Integer") (by decide) rfl (Nat.le_of_ble_eq_true rfl) ?_
  intro p e s m below meth c ls A C hr hlk hW hl
  have hx := C.1
  have hb := C.2.1
  have hl : lv_has ls 1 [(0, .int p1)] := hl
  unfold J6_bitCount_0f7a4 at hm
  refine lv_iload_n hx hb dJ6_bitCount_0f7a4_0 rfl (lv_at hl 0 rfl) ?_
  refine lv_iload_n hx hb dJ6_bitCount_0f7a4_1 rfl (lv_at hl 0 rfl) ?_
  refine lv_iconst (v := 1) hx hb dJ6_bitCount_0f7a4_2 (by decide) ?_
  refine lv_iushr hx hb dJ6_bitCount_0f7a4_3 rfl ?_
  refine lv_ldcw hx hb C.2.2.2.1 (C.2.2.2.2.1 _ q343) dJ6_bitCount_0f7a4_4 ?_
  refine lv_iand hx hb dJ6_bitCount_0f7a4_7 ?_
  refine lv_isub hx hb dJ6_bitCount_0f7a4_8 ?_
  refine lv_istore_n (lv' := [(0, .int (p1 - ((((p1).toUInt32 >>> (((1 : Int32)).toUInt32 &&& Int32.toUInt32 31)).toInt32) &&& (1431655765 : Int32))))]) hx hb dJ6_bitCount_0f7a4_9 rfl hl (by decide) rfl (fun ls hl => ?_)
  refine lv_iload_n hx hb dJ6_bitCount_0f7a4_10 rfl (lv_at hl 0 rfl) ?_
  refine lv_ldcw hx hb C.2.2.2.1 (C.2.2.2.2.1 _ q344) dJ6_bitCount_0f7a4_11 ?_
  refine lv_iand hx hb dJ6_bitCount_0f7a4_14 ?_
  refine lv_iload_n hx hb dJ6_bitCount_0f7a4_15 rfl (lv_at hl 0 rfl) ?_
  refine lv_iconst (v := 2) hx hb dJ6_bitCount_0f7a4_16 (by decide) ?_
  refine lv_iushr hx hb dJ6_bitCount_0f7a4_17 rfl ?_
  refine lv_ldcw hx hb C.2.2.2.1 (C.2.2.2.2.1 _ q344) dJ6_bitCount_0f7a4_18 ?_
  refine lv_iand hx hb dJ6_bitCount_0f7a4_21 ?_
  refine lv_iadd hx hb dJ6_bitCount_0f7a4_22 ?_
  refine lv_istore_n (lv' := [(0, .int (((p1 - ((((p1).toUInt32 >>> (((1 : Int32)).toUInt32 &&& Int32.toUInt32 31)).toInt32) &&& (1431655765 : Int32))) &&& (858993459 : Int32)) + (((((p1 - ((((p1).toUInt32 >>> (((1 : Int32)).toUInt32 &&& Int32.toUInt32 31)).toInt32) &&& (1431655765 : Int32)))).toUInt32 >>> (((2 : Int32)).toUInt32 &&& Int32.toUInt32 31)).toInt32) &&& (858993459 : Int32))))]) hx hb dJ6_bitCount_0f7a4_23 rfl hl (by decide) rfl (fun ls hl => ?_)
  refine lv_iload_n hx hb dJ6_bitCount_0f7a4_24 rfl (lv_at hl 0 rfl) ?_
  refine lv_iload_n hx hb dJ6_bitCount_0f7a4_25 rfl (lv_at hl 0 rfl) ?_
  refine lv_iconst (v := 4) hx hb dJ6_bitCount_0f7a4_26 (by decide) ?_
  refine lv_iushr hx hb dJ6_bitCount_0f7a4_27 rfl ?_
  refine lv_iadd hx hb dJ6_bitCount_0f7a4_28 ?_
  refine lv_ldcw hx hb C.2.2.2.1 (C.2.2.2.2.1 _ q345) dJ6_bitCount_0f7a4_29 ?_
  refine lv_iand hx hb dJ6_bitCount_0f7a4_32 ?_
  refine lv_istore_n (lv' := [(0, .int (((((p1 - ((((p1).toUInt32 >>> (((1 : Int32)).toUInt32 &&& Int32.toUInt32 31)).toInt32) &&& (1431655765 : Int32))) &&& (858993459 : Int32)) + (((((p1 - ((((p1).toUInt32 >>> (((1 : Int32)).toUInt32 &&& Int32.toUInt32 31)).toInt32) &&& (1431655765 : Int32)))).toUInt32 >>> (((2 : Int32)).toUInt32 &&& Int32.toUInt32 31)).toInt32) &&& (858993459 : Int32))) + ((((((p1 - ((((p1).toUInt32 >>> (((1 : Int32)).toUInt32 &&& Int32.toUInt32 31)).toInt32) &&& (1431655765 : Int32))) &&& (858993459 : Int32)) + (((((p1 - ((((p1).toUInt32 >>> (((1 : Int32)).toUInt32 &&& Int32.toUInt32 31)).toInt32) &&& (1431655765 : Int32)))).toUInt32 >>> (((2 : Int32)).toUInt32 &&& Int32.toUInt32 31)).toInt32) &&& (858993459 : Int32)))).toUInt32 >>> (((4 : Int32)).toUInt32 &&& Int32.toUInt32 31)).toInt32)) &&& (252645135 : Int32)))]) hx hb dJ6_bitCount_0f7a4_33 rfl hl (by decide) rfl (fun ls hl => ?_)
  refine lv_iload_n hx hb dJ6_bitCount_0f7a4_34 rfl (lv_at hl 0 rfl) ?_
  refine lv_iload_n hx hb dJ6_bitCount_0f7a4_35 rfl (lv_at hl 0 rfl) ?_
  refine lv_bipush (v := 8) hx hb dJ6_bitCount_0f7a4_36 (by decide) ?_
  refine lv_iushr hx hb dJ6_bitCount_0f7a4_38 rfl ?_
  refine lv_iadd hx hb dJ6_bitCount_0f7a4_39 ?_
  refine lv_istore_n (lv' := [(0, .int ((((((p1 - ((((p1).toUInt32 >>> (((1 : Int32)).toUInt32 &&& Int32.toUInt32 31)).toInt32) &&& (1431655765 : Int32))) &&& (858993459 : Int32)) + (((((p1 - ((((p1).toUInt32 >>> (((1 : Int32)).toUInt32 &&& Int32.toUInt32 31)).toInt32) &&& (1431655765 : Int32)))).toUInt32 >>> (((2 : Int32)).toUInt32 &&& Int32.toUInt32 31)).toInt32) &&& (858993459 : Int32))) + ((((((p1 - ((((p1).toUInt32 >>> (((1 : Int32)).toUInt32 &&& Int32.toUInt32 31)).toInt32) &&& (1431655765 : Int32))) &&& (858993459 : Int32)) + (((((p1 - ((((p1).toUInt32 >>> (((1 : Int32)).toUInt32 &&& Int32.toUInt32 31)).toInt32) &&& (1431655765 : Int32)))).toUInt32 >>> (((2 : Int32)).toUInt32 &&& Int32.toUInt32 31)).toInt32) &&& (858993459 : Int32)))).toUInt32 >>> (((4 : Int32)).toUInt32 &&& Int32.toUInt32 31)).toInt32)) &&& (252645135 : Int32)) + ((((((((p1 - ((((p1).toUInt32 >>> (((1 : Int32)).toUInt32 &&& Int32.toUInt32 31)).toInt32) &&& (1431655765 : Int32))) &&& (858993459 : Int32)) + (((((p1 - ((((p1).toUInt32 >>> (((1 : Int32)).toUInt32 &&& Int32.toUInt32 31)).toInt32) &&& (1431655765 : Int32)))).toUInt32 >>> (((2 : Int32)).toUInt32 &&& Int32.toUInt32 31)).toInt32) &&& (858993459 : Int32))) + ((((((p1 - ((((p1).toUInt32 >>> (((1 : Int32)).toUInt32 &&& Int32.toUInt32 31)).toInt32) &&& (1431655765 : Int32))) &&& (858993459 : Int32)) + (((((p1 - ((((p1).toUInt32 >>> (((1 : Int32)).toUInt32 &&& Int32.toUInt32 31)).toInt32) &&& (1431655765 : Int32)))).toUInt32 >>> (((2 : Int32)).toUInt32 &&& Int32.toUInt32 31)).toInt32) &&& (858993459 : Int32)))).toUInt32 >>> (((4 : Int32)).toUInt32 &&& Int32.toUInt32 31)).toInt32)) &&& (252645135 : Int32))).toUInt32 >>> (((8 : Int32)).toUInt32 &&& Int32.toUInt32 31)).toInt32)))]) hx hb dJ6_bitCount_0f7a4_40 rfl hl (by decide) rfl (fun ls hl => ?_)
  refine lv_iload_n hx hb dJ6_bitCount_0f7a4_41 rfl (lv_at hl 0 rfl) ?_
  refine lv_iload_n hx hb dJ6_bitCount_0f7a4_42 rfl (lv_at hl 0 rfl) ?_
  refine lv_bipush (v := 16) hx hb dJ6_bitCount_0f7a4_43 (by decide) ?_
  refine lv_iushr hx hb dJ6_bitCount_0f7a4_45 rfl ?_
  refine lv_iadd hx hb dJ6_bitCount_0f7a4_46 ?_
  refine lv_istore_n (lv' := [(0, .int (((((((p1 - ((((p1).toUInt32 >>> (((1 : Int32)).toUInt32 &&& Int32.toUInt32 31)).toInt32) &&& (1431655765 : Int32))) &&& (858993459 : Int32)) + (((((p1 - ((((p1).toUInt32 >>> (((1 : Int32)).toUInt32 &&& Int32.toUInt32 31)).toInt32) &&& (1431655765 : Int32)))).toUInt32 >>> (((2 : Int32)).toUInt32 &&& Int32.toUInt32 31)).toInt32) &&& (858993459 : Int32))) + ((((((p1 - ((((p1).toUInt32 >>> (((1 : Int32)).toUInt32 &&& Int32.toUInt32 31)).toInt32) &&& (1431655765 : Int32))) &&& (858993459 : Int32)) + (((((p1 - ((((p1).toUInt32 >>> (((1 : Int32)).toUInt32 &&& Int32.toUInt32 31)).toInt32) &&& (1431655765 : Int32)))).toUInt32 >>> (((2 : Int32)).toUInt32 &&& Int32.toUInt32 31)).toInt32) &&& (858993459 : Int32)))).toUInt32 >>> (((4 : Int32)).toUInt32 &&& Int32.toUInt32 31)).toInt32)) &&& (252645135 : Int32)) + ((((((((p1 - ((((p1).toUInt32 >>> (((1 : Int32)).toUInt32 &&& Int32.toUInt32 31)).toInt32) &&& (1431655765 : Int32))) &&& (858993459 : Int32)) + (((((p1 - ((((p1).toUInt32 >>> (((1 : Int32)).toUInt32 &&& Int32.toUInt32 31)).toInt32) &&& (1431655765 : Int32)))).toUInt32 >>> (((2 : Int32)).toUInt32 &&& Int32.toUInt32 31)).toInt32) &&& (858993459 : Int32))) + ((((((p1 - ((((p1).toUInt32 >>> (((1 : Int32)).toUInt32 &&& Int32.toUInt32 31)).toInt32) &&& (1431655765 : Int32))) &&& (858993459 : Int32)) + (((((p1 - ((((p1).toUInt32 >>> (((1 : Int32)).toUInt32 &&& Int32.toUInt32 31)).toInt32) &&& (1431655765 : Int32)))).toUInt32 >>> (((2 : Int32)).toUInt32 &&& Int32.toUInt32 31)).toInt32) &&& (858993459 : Int32)))).toUInt32 >>> (((4 : Int32)).toUInt32 &&& Int32.toUInt32 31)).toInt32)) &&& (252645135 : Int32))).toUInt32 >>> (((8 : Int32)).toUInt32 &&& Int32.toUInt32 31)).toInt32)) + (((((((((p1 - ((((p1).toUInt32 >>> (((1 : Int32)).toUInt32 &&& Int32.toUInt32 31)).toInt32) &&& (1431655765 : Int32))) &&& (858993459 : Int32)) + (((((p1 - ((((p1).toUInt32 >>> (((1 : Int32)).toUInt32 &&& Int32.toUInt32 31)).toInt32) &&& (1431655765 : Int32)))).toUInt32 >>> (((2 : Int32)).toUInt32 &&& Int32.toUInt32 31)).toInt32) &&& (858993459 : Int32))) + ((((((p1 - ((((p1).toUInt32 >>> (((1 : Int32)).toUInt32 &&& Int32.toUInt32 31)).toInt32) &&& (1431655765 : Int32))) &&& (858993459 : Int32)) + (((((p1 - ((((p1).toUInt32 >>> (((1 : Int32)).toUInt32 &&& Int32.toUInt32 31)).toInt32) &&& (1431655765 : Int32)))).toUInt32 >>> (((2 : Int32)).toUInt32 &&& Int32.toUInt32 31)).toInt32) &&& (858993459 : Int32)))).toUInt32 >>> (((4 : Int32)).toUInt32 &&& Int32.toUInt32 31)).toInt32)) &&& (252645135 : Int32)) + ((((((((p1 - ((((p1).toUInt32 >>> (((1 : Int32)).toUInt32 &&& Int32.toUInt32 31)).toInt32) &&& (1431655765 : Int32))) &&& (858993459 : Int32)) + (((((p1 - ((((p1).toUInt32 >>> (((1 : Int32)).toUInt32 &&& Int32.toUInt32 31)).toInt32) &&& (1431655765 : Int32)))).toUInt32 >>> (((2 : Int32)).toUInt32 &&& Int32.toUInt32 31)).toInt32) &&& (858993459 : Int32))) + ((((((p1 - ((((p1).toUInt32 >>> (((1 : Int32)).toUInt32 &&& Int32.toUInt32 31)).toInt32) &&& (1431655765 : Int32))) &&& (858993459 : Int32)) + (((((p1 - ((((p1).toUInt32 >>> (((1 : Int32)).toUInt32 &&& Int32.toUInt32 31)).toInt32) &&& (1431655765 : Int32)))).toUInt32 >>> (((2 : Int32)).toUInt32 &&& Int32.toUInt32 31)).toInt32) &&& (858993459 : Int32)))).toUInt32 >>> (((4 : Int32)).toUInt32 &&& Int32.toUInt32 31)).toInt32)) &&& (252645135 : Int32))).toUInt32 >>> (((8 : Int32)).toUInt32 &&& Int32.toUInt32 31)).toInt32))).toUInt32 >>> (((16 : Int32)).toUInt32 &&& Int32.toUInt32 31)).toInt32)))]) hx hb dJ6_bitCount_0f7a4_47 rfl hl (by decide) rfl (fun ls hl => ?_)
  refine lv_iload_n hx hb dJ6_bitCount_0f7a4_48 rfl (lv_at hl 0 rfl) ?_
  refine lv_bipush (v := 63) hx hb dJ6_bitCount_0f7a4_49 (by decide) ?_
  refine lv_iand hx hb dJ6_bitCount_0f7a4_51 ?_
  obtain rfl := Option.some.inj hm
  exact en_i C hr hlk hW dJ6_bitCount_0f7a4_52
theorem kJ6_bitCount_0f7a4 : KS yJ6_bitCount_0f7a4 cJ6_bitCount_0f7a4 1 (some .int) 1 := ⟨q341, q75, q342, by decide +kernel, by decide +kernel, by decide +kernel⟩
def X5_isOutside (p1 : Int32) (p2 : Int32) (p3 : Int32) : Option (Int32) := if p1 < p2 then (some (1 : Int32)) else (if p1 ≤ p3 then (some (0 : Int32)) else (some (1 : Int32)))
set_option maxHeartbeats 4000000 in
set_option maxRecDepth 100000 in
theorem c_X5_isOutside {l : Launch} {D : va_G} {cy cz : ClassId} {G : GT} {p1 : Int32} {p2 : Int32} {p3 : Int32} {r : Int32} (hm : X5_isOutside p1 p2 p3 = some r) : CtI l D cy cz G yX5_isOutside cX5_isOutside 3 (some .boolean) 0 0 [.int p1, .int p2, .int p3] ([] : va_W) ([] : va_W) r := by
  refine ct_i (own := "PumpTalk") (by decide) rfl (Nat.le_of_ble_eq_true rfl) ?_
  intro p e s m below meth c ls A C hr hlk hW hl
  have hx := C.1
  have hb := C.2.1
  have hl : lv_has ls 3 [(0, .int p1), (1, .int p2), (2, .int p3)] := hl
  unfold X5_isOutside at hm
  refine lv_iload_n hx hb dX5_isOutside_0 rfl (lv_at hl 0 rfl) ?_
  refine lv_iload_n hx hb dX5_isOutside_1 rfl (lv_at hl 1 rfl) ?_
  refine lv_icmp_lt (tgt := 10) hx hb dX5_isOutside_2 (by decide) (fun hc1 => ?_) (fun hc1 => ?_)
  · rw [if_pos hc1] at hm
    refine lv_iconst (v := 1) hx hb dX5_isOutside_10 (by decide) ?_
    refine lv_goto (tgt := 15) hx hb dX5_isOutside_11 (by decide) ?_
    obtain rfl := Option.some.inj hm
    exact en_z C hr hlk rfl hW dX5_isOutside_15
  · rw [if_neg hc1] at hm
    refine lv_iload_n hx hb dX5_isOutside_5 rfl (lv_at hl 0 rfl) ?_
    refine lv_iload_n hx hb dX5_isOutside_6 rfl (lv_at hl 2 rfl) ?_
    refine lv_icmp_le (tgt := 14) hx hb dX5_isOutside_7 (by decide) (fun hc2 => ?_) (fun hc2 => ?_)
    · rw [if_pos hc2] at hm
      refine lv_iconst (v := 0) hx hb dX5_isOutside_14 (by decide) ?_
      obtain rfl := Option.some.inj hm
      exact en_z C hr hlk rfl hW dX5_isOutside_15
    · rw [if_neg hc2] at hm
      refine lv_iconst (v := 1) hx hb dX5_isOutside_10 (by decide) ?_
      refine lv_goto (tgt := 15) hx hb dX5_isOutside_11 (by decide) ?_
      obtain rfl := Option.some.inj hm
      exact en_z C hr hlk rfl hW dX5_isOutside_15
theorem kX5_isOutside : KS yX5_isOutside cX5_isOutside 3 (some .boolean) 3 := ⟨q229, q67, q230, by decide +kernel, by decide +kernel, by decide +kernel⟩
def X5_found (X : XS) (p1 : Int32) : Option (Int32 × XS) := if ((-1000001 : Int32) - p1) < (0 : Int32) then (some (p1, X)) else (if (7 : Int32) ≤ ((-1000001 : Int32) - p1) then (some (p1, X)) else (ai ((-1000001 : Int32) - p1) 7 (ai ((-1000001 : Int32) - p1) 7 ((some (va_up X 9 (su (X 9) 7 (Int32.toNatClampNeg ((-1000001 : Int32) - p1)) ((X 9 7 (Int32.toNatClampNeg ((-1000001 : Int32) - p1))) + (1 : Int32))))).bind fun s5 => some (p1, s5)))))
set_option maxHeartbeats 4000000 in
set_option maxRecDepth 100000 in
theorem c_X5_found {l : Launch} {D : va_G} {cy cz : ClassId} {G : GT} {o : Nat → Nat → Nat} {X : XS} {p1 : Int32} {r : Int32} {Xr : XS} (hm : X5_found X p1 = some (r, Xr)) : CtI l D cy cz G yX5_found cX5_found 3 (some .int) 0 0 [.ref (o 9 0), .int p1] (cPT o cy cz X) (cPT o cy cz Xr) r := by
  refine ct_i (own := "PumpTalk") (by decide) rfl (Nat.le_of_ble_eq_true rfl) ?_
  intro p e s m below meth c ls A C hr hlk hW hl
  have hx := C.1
  have hb := C.2.1
  have hl : lv_has ls 3 [(0, .ref (o 9 0)), (1, .int p1)] := hl
  unfold X5_found at hm
  refine lv_ldc hx hb C.2.2.2.1 (C.2.2.2.2.1 _ q231) dX5_found_0 ?_
  refine lv_iload_n hx hb dX5_found_2 rfl (lv_at hl 1 rfl) ?_
  refine lv_isub hx hb dX5_found_3 ?_
  refine lv_istore_n (lv' := [(2, .int ((-1000001 : Int32) - p1)), (0, .ref (o 9 0)), (1, .int p1)]) hx hb dX5_found_4 rfl hl (by decide) rfl (fun ls hl => ?_)
  refine lv_iload_n hx hb dX5_found_5 rfl (lv_at hl 0 rfl) ?_
  refine lv_if_lt (tgt := 25) hx hb dX5_found_6 (by decide) (fun hc1 => ?_) (fun hc1 => ?_)
  · rw [if_pos hc1] at hm
    refine lv_iload_n hx hb dX5_found_25 rfl (lv_at hl 2 rfl) ?_
    obtain ⟨rfl, rfl⟩ := Prod.mk.inj (Option.some.inj hm)
    exact en_i C hr hlk hW dX5_found_26
  · rw [if_neg hc1] at hm
    refine lv_iload_n hx hb dX5_found_9 rfl (lv_at hl 0 rfl) ?_
    refine lv_bipush (v := 7) hx hb dX5_found_10 (by decide) ?_
    refine lv_icmp_ge (tgt := 25) hx hb dX5_found_12 (by decide) (fun hc2 => ?_) (fun hc2 => ?_)
    · rw [if_pos hc2] at hm
      refine lv_iload_n hx hb dX5_found_25 rfl (lv_at hl 2 rfl) ?_
      obtain ⟨rfl, rfl⟩ := Prod.mk.inj (Option.some.inj hm)
      exact en_i C hr hlk hW dX5_found_26
    · rw [if_neg hc2] at hm
      refine lv_aload_n hx hb dX5_found_15 rfl (lv_at hl 1 rfl) ?_
      refine gP_tally C hW q206 dX5_found_16 ?_
      refine lv_iload_n hx hb dX5_found_19 rfl (lv_at hl 0 rfl) ?_
      refine lv_dup2_11 hx hb dX5_found_20 rfl rfl ?_
      obtain ⟨hi3, hm⟩ := mi_ai hm
      refine lP_tally C hW hi3 dX5_found_21 ?_
      refine lv_iconst (v := 1) hx hb dX5_found_22 (by decide) ?_
      refine lv_iadd hx hb dX5_found_23 ?_
      obtain ⟨hi4, hm⟩ := mi_ai hm
      refine tP_tally C hW hi4 dX5_found_24 (fun H locs hW => ?_)
      obtain ⟨s5, e6, hm⟩ := mi_bind hm
      rw [Option.some.inj e6] at hW
      refine lv_iload_n hx hb dX5_found_25 rfl (lv_at hl 2 rfl) ?_
      obtain ⟨rfl, rfl⟩ := Prod.mk.inj (Option.some.inj hm)
      exact en_i C hr hlk hW dX5_found_26
theorem kX5_found : KM yX5_found cX5_found 3 (some .int) 1 := ⟨q234, q0, q67, q235, by decide +kernel, by decide +kernel, by decide +kernel⟩
def X5_person (X : XS) (p1 : Int32) : Option (Int32 × XS) := (X5_isOutside p1 (0 : Int32) (6 : Int32)).bind fun v2 => if v2 = (0 : Int32) then ((X4_isCrowded (X 0)).bind fun v5 => if v5 = (0 : Int32) then ((X4_addPerson (X 0) p1).bind fun q8 => some (q8.1, va_up X 0 q8.2)) else ((X5_found X (-1000002 : Int32)).bind fun q10 => some (q10.1, q10.2))) else ((X5_found X (-1000001 : Int32)).bind fun q12 => some (q12.1, q12.2))
set_option maxHeartbeats 4000000 in
set_option maxRecDepth 100000 in
theorem c_X5_person {l : Launch} {D : va_G} {cy cz : ClassId} {G : GT} {o : Nat → Nat → Nat} {X : XS} {p1 : Int32} {r : Int32} {Xr : XS} (hm : X5_person X p1 = some (r, Xr)) : CtI l D cy cz G yX5_person cX5_person 2 (some .int) 2 46 [.ref (o 9 0), .int p1] (cPT o cy cz X) (cPT o cy cz Xr) r := by
  refine ct_i (own := "PumpTalk") (by decide) rfl (Nat.le_of_ble_eq_true rfl) ?_
  intro p e s m below meth c ls A C hr hlk hW hl
  have hx := C.1
  have hb := C.2.1
  have hl : lv_has ls 2 [(0, .ref (o 9 0)), (1, .int p1)] := hl
  unfold X5_person at hm
  refine lv_iload_n hx hb dX5_person_0 rfl (lv_at hl 1 rfl) ?_
  refine lv_iconst (v := 0) hx hb dX5_person_1 (by decide) ?_
  refine lv_bipush (v := 6) hx hb dX5_person_2 (by decide) ?_
  obtain ⟨v2, e1, hm⟩ := mi_bind hm
  refine cS_i (As := [.int p1, .int (0 : Int32), .int (6 : Int32)]) (rest := []) C hW (c_X5_isOutside e1) kX5_isOutside q228 rfl rfl hl.1 ⟨Nat.le_of_ble_eq_true rfl, Nat.le_of_ble_eq_true rfl⟩ ⟨Nat.le_refl 0, Nat.le_refl 0⟩ (Nat.le_of_ble_eq_true rfl) dX5_person_4 (fun H locs hW => ?_)
  refine lv_if_eq (tgt := 17) hx hb dX5_person_7 (by decide) (fun hc3 => ?_) (fun hc3 => ?_)
  · rw [if_pos hc3] at hm
    refine lv_aload_n hx hb dX5_person_17 rfl (lv_at hl 0 rfl) ?_
    refine gP_square C hW q199 dX5_person_18 ?_
    obtain ⟨v5, e4, hm⟩ := mi_bind hm
    refine cq0_i_p (As := []) (rest := []) C hW (c_X4_isCrowded e4) kX4_isCrowded q236 rfl rfl rfl hl.1 ⟨Nat.le_of_ble_eq_true rfl, Nat.le_of_ble_eq_true rfl⟩ ⟨Nat.le_refl 0, Nat.le_refl 0⟩ (Nat.le_of_ble_eq_true rfl) dX5_person_21 (fun H locs hW => ?_)
    refine lv_if_eq (tgt := 34) hx hb dX5_person_24 (by decide) (fun hc6 => ?_) (fun hc6 => ?_)
    · rw [if_pos hc6] at hm
      refine lv_aload_n hx hb dX5_person_34 rfl (lv_at hl 0 rfl) ?_
      refine gP_square C hW q199 dX5_person_35 ?_
      refine lv_iload_n hx hb dX5_person_38 rfl (lv_at hl 1 rfl) ?_
      obtain ⟨q8, e7, hm⟩ := mi_bind hm
      refine cq0_i_s (As := [.int p1]) (rest := []) C hW (c_X4_addPerson e7) kX4_addPerson q241 rfl rfl rfl hl.1 ⟨Nat.le_of_ble_eq_true rfl, Nat.le_of_ble_eq_true rfl⟩ ⟨Nat.le_refl 0, Nat.le_refl 0⟩ (Nat.le_of_ble_eq_true rfl) dX5_person_39 (fun H locs hW => ?_)
      obtain ⟨rfl, rfl⟩ := Prod.mk.inj (Option.some.inj hm)
      exact en_i C hr hlk hW dX5_person_42
    · rw [if_neg hc6] at hm
      refine lv_aload_n hx hb dX5_person_27 rfl (lv_at hl 0 rfl) ?_
      refine lv_ldc hx hb C.2.2.2.1 (C.2.2.2.2.1 _ q240) dX5_person_28 ?_
      obtain ⟨q10, e9, hm⟩ := mi_bind hm
      refine cs_i (q0 := 0) (As := [.int (-1000002 : Int32)]) (rest := []) C hW (c_X5_found e9) kX5_found q232 rfl rfl rfl rfl rfl hl.1 ⟨Nat.le_of_ble_eq_true rfl, Nat.le_of_ble_eq_true rfl⟩ ⟨Nat.le_refl 0, Nat.le_refl 0⟩ (Nat.le_of_ble_eq_true rfl) dX5_person_30 (fun H locs hW => ?_)
      obtain ⟨rfl, rfl⟩ := Prod.mk.inj (Option.some.inj hm)
      exact en_i C hr hlk hW dX5_person_33
  · rw [if_neg hc3] at hm
    refine lv_aload_n hx hb dX5_person_10 rfl (lv_at hl 0 rfl) ?_
    refine lv_ldc hx hb C.2.2.2.1 (C.2.2.2.2.1 _ q231) dX5_person_11 ?_
    obtain ⟨q12, e11, hm⟩ := mi_bind hm
    refine cs_i (q0 := 0) (As := [.int (-1000001 : Int32)]) (rest := []) C hW (c_X5_found e11) kX5_found q232 rfl rfl rfl rfl rfl hl.1 ⟨Nat.le_of_ble_eq_true rfl, Nat.le_of_ble_eq_true rfl⟩ ⟨Nat.le_refl 0, Nat.le_refl 0⟩ (Nat.le_of_ble_eq_true rfl) dX5_person_13 (fun H locs hW => ?_)
    obtain ⟨rfl, rfl⟩ := Prod.mk.inj (Option.some.inj hm)
    exact en_i C hr hlk hW dX5_person_16
theorem kX5_person : KM yX5_person cX5_person 2 (some .int) 1 := ⟨q225, q226, q67, q227, by decide +kernel, by decide +kernel, by decide +kernel⟩
def X5_of_b21 (X : XS) : Option (Int32 × XS) := (X5_found X (-1000001 : Int32)).bind fun q2 => some (q2.1, q2.2)
set_option maxHeartbeats 4000000 in
set_option maxRecDepth 100000 in
theorem wX5_of_b21 {p : Program} {l : Launch} {e : Env} {s : State} {m : MethodId} {below : List Frame} {meth : Method} {c : Code} {D : va_G} {cy cz : ClassId} {G : GT} {A : Nat → Prop} {args : Array Value} {o : Nat → Nat → Nat} {r : Int32} {Xr : XS} (C : Cx p s m args c cX5_of 3 "PumpTalk" D cy cz G A) (hr : meth.sig.returnType = some .int) (hlk : meth.locks = false) : ∀ (X : XS) (H : Heap) (locs : List Loc) (ls : Array Slot), X5_of_b21 X = some (r, Xr) → Wd D A s.heap H locs (cPT o cy cz X) → lv_has ls 3 [(0, .ref (o 9 0))] → W p l e (rmz 2 44) s m args below meth c H locs 0 0 (MQ below (QI D cy cz A (cPT o cy cz Xr) r) args s 0 0 A) (F0 m 21 ls []) := by
  have hx := C.1
  have hb := C.2.1
  intro X H locs ls hm hW hl
  unfold X5_of_b21 at hm
  refine lv_aload_n hx hb dX5_of_21 rfl (lv_at hl 0 rfl) ?_
  refine lv_ldc hx hb C.2.2.2.1 (C.2.2.2.2.1 _ q231) dX5_of_22 ?_
  obtain ⟨q2, e1, hm⟩ := mi_bind hm
  refine cs_i (q0 := 0) (As := [.int (-1000001 : Int32)]) (rest := []) C hW (c_X5_found e1) kX5_found q232 rfl rfl rfl rfl rfl hl.1 ⟨Nat.le_of_ble_eq_true rfl, Nat.le_of_ble_eq_true rfl⟩ ⟨Nat.le_refl 0, Nat.le_refl 0⟩ (Nat.le_of_ble_eq_true rfl) dX5_of_24 (fun H locs hW => ?_)
  obtain ⟨rfl, rfl⟩ := Prod.mk.inj (Option.some.inj hm)
  exact en_i C hr hlk hW dX5_of_27
def X5_of (X : XS) (p1 : Int32) (p2 : Int32) : Option (Int32 × XS) := (X4_isThere (X 0) p1).bind fun v4 => if v4 = (0 : Int32) then (X5_of_b21 X) else ((X5_isOutside p2 (0 : Int32) (8 : Int32)).bind fun v7 => if v7 = (0 : Int32) then (if p2 = (8 : Int32) then ((X4_isAtHandle (X 0) p1).bind fun v13 => if v13 = (0 : Int32) then (some ((0 : Int32), X)) else (some ((1 : Int32), X))) else ((X4_trait (X 0) p1 p2).bind fun v11 => some (v11, X))) else (X5_of_b21 X))
set_option maxHeartbeats 4000000 in
set_option maxRecDepth 100000 in
theorem c_X5_of {l : Launch} {D : va_G} {cy cz : ClassId} {G : GT} {o : Nat → Nat → Nat} {X : XS} {p1 : Int32} {p2 : Int32} {r : Int32} {Xr : XS} (hm : X5_of X p1 p2 = some (r, Xr)) : CtI l D cy cz G yX5_of cX5_of 3 (some .int) 2 44 [.ref (o 9 0), .int p1, .int p2] (cPT o cy cz X) (cPT o cy cz Xr) r := by
  refine ct_i (own := "PumpTalk") (by decide) rfl (Nat.le_of_ble_eq_true rfl) ?_
  intro p e s m below meth c ls A C hr hlk hW hl
  have hx := C.1
  have hb := C.2.1
  have hl : lv_has ls 3 [(0, .ref (o 9 0)), (1, .int p1), (2, .int p2)] := hl
  unfold X5_of at hm
  refine lv_aload_n hx hb dX5_of_0 rfl (lv_at hl 0 rfl) ?_
  refine gP_square C hW q199 dX5_of_1 ?_
  refine lv_iload_n hx hb dX5_of_4 rfl (lv_at hl 1 rfl) ?_
  obtain ⟨v4, e3, hm⟩ := mi_bind hm
  refine cq0_i_p (As := [.int p1]) (rest := []) C hW (c_X4_isThere e3) kX4_isThere q253 rfl rfl rfl hl.1 ⟨Nat.le_of_ble_eq_true rfl, Nat.le_of_ble_eq_true rfl⟩ ⟨Nat.le_refl 0, Nat.le_refl 0⟩ (Nat.le_of_ble_eq_true rfl) dX5_of_5 (fun H locs hW => ?_)
  refine lv_if_eq (tgt := 21) hx hb dX5_of_8 (by decide) (fun hc5 => ?_) (fun hc5 => ?_)
  · rw [if_pos hc5] at hm
    exact wX5_of_b21 C hr hlk X _ _ _ hm hW (lv_sub hl [0] rfl)
  · rw [if_neg hc5] at hm
    refine lv_iload_n hx hb dX5_of_11 rfl (lv_at hl 2 rfl) ?_
    refine lv_iconst (v := 0) hx hb dX5_of_12 (by decide) ?_
    refine lv_bipush (v := 8) hx hb dX5_of_13 (by decide) ?_
    obtain ⟨v7, e6, hm⟩ := mi_bind hm
    refine cS_i (As := [.int p2, .int (0 : Int32), .int (8 : Int32)]) (rest := []) C hW (c_X5_isOutside e6) kX5_isOutside q228 rfl rfl hl.1 ⟨Nat.le_of_ble_eq_true rfl, Nat.le_of_ble_eq_true rfl⟩ ⟨Nat.le_refl 0, Nat.le_refl 0⟩ (Nat.le_of_ble_eq_true rfl) dX5_of_15 (fun H locs hW => ?_)
    refine lv_if_eq (tgt := 28) hx hb dX5_of_18 (by decide) (fun hc8 => ?_) (fun hc8 => ?_)
    · rw [if_pos hc8] at hm
      refine lv_iload_n hx hb dX5_of_28 rfl (lv_at hl 2 rfl) ?_
      refine lv_bipush (v := 8) hx hb dX5_of_29 (by decide) ?_
      refine lv_icmp_ne (tgt := 51) hx hb dX5_of_31 (by decide) (fun hc9 => ?_) (fun hc9 => ?_)
      · rw [if_neg hc9] at hm
        refine lv_aload_n hx hb dX5_of_51 rfl (lv_at hl 0 rfl) ?_
        refine gP_square C hW q199 dX5_of_52 ?_
        refine lv_iload_n hx hb dX5_of_55 rfl (lv_at hl 1 rfl) ?_
        refine lv_iload_n hx hb dX5_of_56 rfl (lv_at hl 2 rfl) ?_
        obtain ⟨v11, e10, hm⟩ := mi_bind hm
        refine cq0_i_p (As := [.int p1, .int p2]) (rest := []) C hW (c_X4_trait e10) kX4_trait q261 rfl rfl rfl hl.1 ⟨Nat.le_of_ble_eq_true rfl, Nat.le_of_ble_eq_true rfl⟩ ⟨Nat.le_refl 0, Nat.le_refl 0⟩ (Nat.le_of_ble_eq_true rfl) dX5_of_57 (fun H locs hW => ?_)
        obtain ⟨rfl, rfl⟩ := Prod.mk.inj (Option.some.inj hm)
        exact en_i C hr hlk hW dX5_of_60
      · rw [if_pos hc9] at hm
        refine lv_aload_n hx hb dX5_of_34 rfl (lv_at hl 0 rfl) ?_
        refine gP_square C hW q199 dX5_of_35 ?_
        refine lv_iload_n hx hb dX5_of_38 rfl (lv_at hl 1 rfl) ?_
        obtain ⟨v13, e12, hm⟩ := mi_bind hm
        refine cq0_i_p (As := [.int p1]) (rest := []) C hW (c_X4_isAtHandle e12) kX4_isAtHandle q257 rfl rfl rfl hl.1 ⟨Nat.le_of_ble_eq_true rfl, Nat.le_of_ble_eq_true rfl⟩ ⟨Nat.le_refl 0, Nat.le_refl 0⟩ (Nat.le_of_ble_eq_true rfl) dX5_of_39 (fun H locs hW => ?_)
        refine lv_if_eq (tgt := 49) hx hb dX5_of_42 (by decide) (fun hc14 => ?_) (fun hc14 => ?_)
        · rw [if_pos hc14] at hm
          refine lv_iconst (v := 0) hx hb dX5_of_49 (by decide) ?_
          obtain ⟨rfl, rfl⟩ := Prod.mk.inj (Option.some.inj hm)
          exact en_i C hr hlk hW dX5_of_50
        · rw [if_neg hc14] at hm
          refine lv_iconst (v := 1) hx hb dX5_of_45 (by decide) ?_
          refine lv_goto (tgt := 50) hx hb dX5_of_46 (by decide) ?_
          obtain ⟨rfl, rfl⟩ := Prod.mk.inj (Option.some.inj hm)
          exact en_i C hr hlk hW dX5_of_50
    · rw [if_neg hc8] at hm
      exact wX5_of_b21 C hr hlk X _ _ _ hm hW (lv_sub hl [0] rfl)
theorem kX5_of : KM yX5_of cX5_of 3 (some .int) 2 := ⟨q250, q251, q67, q252, by decide +kernel, by decide +kernel, by decide +kernel⟩
def X5_leastTrait (p1 : Int32) : Option (Int32) := if (2 : Int32) ≤ p1 then (some (-9 : Int32)) else (some (0 : Int32))
set_option maxHeartbeats 4000000 in
set_option maxRecDepth 100000 in
theorem c_X5_leastTrait {l : Launch} {D : va_G} {cy cz : ClassId} {G : GT} {p1 : Int32} {r : Int32} (hm : X5_leastTrait p1 = some r) : CtI l D cy cz G yX5_leastTrait cX5_leastTrait 1 (some .int) 0 0 [.int p1] ([] : va_W) ([] : va_W) r := by
  refine ct_i (own := "PumpTalk") (by decide) rfl (Nat.le_of_ble_eq_true rfl) ?_
  intro p e s m below meth c ls A C hr hlk hW hl
  have hx := C.1
  have hb := C.2.1
  have hl : lv_has ls 1 [(0, .int p1)] := hl
  unfold X5_leastTrait at hm
  refine lv_iload_n hx hb dX5_leastTrait_0 rfl (lv_at hl 0 rfl) ?_
  refine lv_iconst (v := 2) hx hb dX5_leastTrait_1 (by decide) ?_
  refine lv_icmp_ge (tgt := 9) hx hb dX5_leastTrait_2 (by decide) (fun hc1 => ?_) (fun hc1 => ?_)
  · rw [if_pos hc1] at hm
    refine lv_bipush (v := -9) hx hb dX5_leastTrait_9 (by decide) ?_
    obtain rfl := Option.some.inj hm
    exact en_i C hr hlk hW dX5_leastTrait_11
  · rw [if_neg hc1] at hm
    refine lv_iconst (v := 0) hx hb dX5_leastTrait_5 (by decide) ?_
    refine lv_goto (tgt := 11) hx hb dX5_leastTrait_6 (by decide) ?_
    obtain rfl := Option.some.inj hm
    exact en_i C hr hlk hW dX5_leastTrait_11
theorem kX5_leastTrait : KS yX5_leastTrait cX5_leastTrait 1 (some .int) 1 := ⟨q277, q67, q278, by decide +kernel, by decide +kernel, by decide +kernel⟩
def X5_mostTrait (p1 : Int32) : Option (Int32) := if p1 = (0 : Int32) then (some (6 : Int32)) else (if p1 = (1 : Int32) then (some (9 : Int32)) else (some (9 : Int32)))
set_option maxHeartbeats 4000000 in
set_option maxRecDepth 100000 in
theorem c_X5_mostTrait {l : Launch} {D : va_G} {cy cz : ClassId} {G : GT} {p1 : Int32} {r : Int32} (hm : X5_mostTrait p1 = some r) : CtI l D cy cz G yX5_mostTrait cX5_mostTrait 1 (some .int) 0 0 [.int p1] ([] : va_W) ([] : va_W) r := by
  refine ct_i (own := "PumpTalk") (by decide) rfl (Nat.le_of_ble_eq_true rfl) ?_
  intro p e s m below meth c ls A C hr hlk hW hl
  have hx := C.1
  have hb := C.2.1
  have hl : lv_has ls 1 [(0, .int p1)] := hl
  unfold X5_mostTrait at hm
  refine lv_iload_n hx hb dX5_mostTrait_0 rfl (lv_at hl 0 rfl) ?_
  refine lv_if_ne (tgt := 7) hx hb dX5_mostTrait_1 (by decide) (fun hc1 => ?_) (fun hc1 => ?_)
  · rw [if_neg hc1] at hm
    refine lv_iload_n hx hb dX5_mostTrait_7 rfl (lv_at hl 0 rfl) ?_
    refine lv_iconst (v := 1) hx hb dX5_mostTrait_8 (by decide) ?_
    refine lv_icmp_ne (tgt := 17) hx hb dX5_mostTrait_9 (by decide) (fun hc2 => ?_) (fun hc2 => ?_)
    · rw [if_neg hc2] at hm
      refine lv_bipush (v := 9) hx hb dX5_mostTrait_17 (by decide) ?_
      obtain rfl := Option.some.inj hm
      exact en_i C hr hlk hW dX5_mostTrait_19
    · rw [if_pos hc2] at hm
      refine lv_bipush (v := 9) hx hb dX5_mostTrait_12 (by decide) ?_
      refine lv_goto (tgt := 19) hx hb dX5_mostTrait_14 (by decide) ?_
      obtain rfl := Option.some.inj hm
      exact en_i C hr hlk hW dX5_mostTrait_19
  · rw [if_pos hc1] at hm
    refine lv_bipush (v := 6) hx hb dX5_mostTrait_4 (by decide) ?_
    obtain rfl := Option.some.inj hm
    exact en_i C hr hlk hW dX5_mostTrait_6
theorem kX5_mostTrait : KS yX5_mostTrait cX5_mostTrait 1 (some .int) 1 := ⟨q280, q67, q281, by decide +kernel, by decide +kernel, by decide +kernel⟩
def X5_isWrongTrait (p1 : Int32) (p2 : Int32) : Option (Int32) := (X5_leastTrait p1).bind fun v2 => (X5_mostTrait p1).bind fun v4 => (X5_isOutside p2 v2 v4).bind fun v6 => zb v6 (some v6)
set_option maxHeartbeats 4000000 in
set_option maxRecDepth 100000 in
theorem c_X5_isWrongTrait {l : Launch} {D : va_G} {cy cz : ClassId} {G : GT} {p1 : Int32} {p2 : Int32} {r : Int32} (hm : X5_isWrongTrait p1 p2 = some r) : CtI l D cy cz G yX5_isWrongTrait cX5_isWrongTrait 2 (some .boolean) 1 22 [.int p1, .int p2] ([] : va_W) ([] : va_W) r := by
  refine ct_i (own := "PumpTalk") (by decide) rfl (Nat.le_of_ble_eq_true rfl) ?_
  intro p e s m below meth c ls A C hr hlk hW hl
  have hx := C.1
  have hb := C.2.1
  have hl : lv_has ls 2 [(0, .int p1), (1, .int p2)] := hl
  unfold X5_isWrongTrait at hm
  refine lv_iload_n hx hb dX5_isWrongTrait_0 rfl (lv_at hl 1 rfl) ?_
  refine lv_iload_n hx hb dX5_isWrongTrait_1 rfl (lv_at hl 0 rfl) ?_
  obtain ⟨v2, e1, hm⟩ := mi_bind hm
  refine cS_i (As := [.int p1]) (rest := [.int p2]) C hW (c_X5_leastTrait e1) kX5_leastTrait q276 rfl rfl hl.1 ⟨Nat.le_of_ble_eq_true rfl, Nat.le_of_ble_eq_true rfl⟩ ⟨Nat.le_refl 0, Nat.le_refl 0⟩ (Nat.le_of_ble_eq_true rfl) dX5_isWrongTrait_2 (fun H locs hW => ?_)
  refine lv_iload_n hx hb dX5_isWrongTrait_5 rfl (lv_at hl 0 rfl) ?_
  obtain ⟨v4, e3, hm⟩ := mi_bind hm
  refine cS_i (As := [.int p1]) (rest := [.int v2, .int p2]) C hW (c_X5_mostTrait e3) kX5_mostTrait q279 rfl rfl hl.1 ⟨Nat.le_of_ble_eq_true rfl, Nat.le_of_ble_eq_true rfl⟩ ⟨Nat.le_refl 0, Nat.le_refl 0⟩ (Nat.le_of_ble_eq_true rfl) dX5_isWrongTrait_6 (fun H locs hW => ?_)
  obtain ⟨v6, e5, hm⟩ := mi_bind hm
  refine cS_i (As := [.int p2, .int v2, .int v4]) (rest := []) C hW (c_X5_isOutside e5) kX5_isOutside q228 rfl rfl hl.1 ⟨Nat.le_of_ble_eq_true rfl, Nat.le_of_ble_eq_true rfl⟩ ⟨Nat.le_refl 0, Nat.le_refl 0⟩ (Nat.le_of_ble_eq_true rfl) dX5_isWrongTrait_9 (fun H locs hW => ?_)
  obtain ⟨hz7, hm⟩ := mi_zb hm
  obtain rfl := Option.some.inj hm
  exact en_z C hr hlk hz7.1 hW dX5_isWrongTrait_12
theorem kX5_isWrongTrait : KS yX5_isWrongTrait cX5_isWrongTrait 2 (some .boolean) 2 := ⟨q274, q67, q275, by decide +kernel, by decide +kernel, by decide +kernel⟩
def X5_change_b29 (X : XS) : Option (Int32 × XS) := (X5_found X (-1000001 : Int32)).bind fun q2 => some (q2.1, q2.2)
set_option maxHeartbeats 4000000 in
set_option maxRecDepth 100000 in
theorem wX5_change_b29 {p : Program} {l : Launch} {e : Env} {s : State} {m : MethodId} {below : List Frame} {meth : Method} {c : Code} {D : va_G} {cy cz : ClassId} {G : GT} {A : Nat → Prop} {args : Array Value} {o : Nat → Nat → Nat} {r : Int32} {Xr : XS} (C : Cx p s m args c cX5_change 5 "PumpTalk" D cy cz G A) (hr : meth.sig.returnType = some .int) (hlk : meth.locks = false) : ∀ (X : XS) (H : Heap) (locs : List Loc) (ls : Array Slot), X5_change_b29 X = some (r, Xr) → Wd D A s.heap H locs (cPT o cy cz X) → lv_has ls 5 [(0, .ref (o 9 0))] → W p l e (rmz 2 46) s m args below meth c H locs 0 0 (MQ below (QI D cy cz A (cPT o cy cz Xr) r) args s 0 0 A) (F0 m 29 ls []) := by
  have hx := C.1
  have hb := C.2.1
  intro X H locs ls hm hW hl
  unfold X5_change_b29 at hm
  refine lv_aload_n hx hb dX5_change_29 rfl (lv_at hl 0 rfl) ?_
  refine lv_ldc hx hb C.2.2.2.1 (C.2.2.2.2.1 _ q231) dX5_change_30 ?_
  obtain ⟨q2, e1, hm⟩ := mi_bind hm
  refine cs_i (q0 := 0) (As := [.int (-1000001 : Int32)]) (rest := []) C hW (c_X5_found e1) kX5_found q232 rfl rfl rfl rfl rfl hl.1 ⟨Nat.le_of_ble_eq_true rfl, Nat.le_of_ble_eq_true rfl⟩ ⟨Nat.le_refl 0, Nat.le_refl 0⟩ (Nat.le_of_ble_eq_true rfl) dX5_change_32 (fun H locs hW => ?_)
  obtain ⟨rfl, rfl⟩ := Prod.mk.inj (Option.some.inj hm)
  exact en_i C hr hlk hW dX5_change_35
def X5_change (X : XS) (p1 : Int32) (p2 : Int32) (p3 : Int32) : Option (Int32 × XS) := (X4_isThere (X 0) p1).bind fun v4 => if v4 = (0 : Int32) then (X5_change_b29 X) else ((X5_isOutside p2 (0 : Int32) (7 : Int32)).bind fun v7 => if v7 = (0 : Int32) then ((X5_isWrongTrait p2 p3).bind fun v10 => if v10 = (0 : Int32) then ((X4_trait (X 0) p1 p2).bind fun v13 => (X4_setTrait (X 0) p1 p2 p3).bind fun s15 => some (v13, va_up X 0 s15)) else (X5_change_b29 X)) else (X5_change_b29 X))
set_option maxHeartbeats 4000000 in
set_option maxRecDepth 100000 in
theorem c_X5_change {l : Launch} {D : va_G} {cy cz : ClassId} {G : GT} {o : Nat → Nat → Nat} {X : XS} {p1 : Int32} {p2 : Int32} {p3 : Int32} {r : Int32} {Xr : XS} (hm : X5_change X p1 p2 p3 = some (r, Xr)) : CtI l D cy cz G yX5_change cX5_change 5 (some .int) 2 46 [.ref (o 9 0), .int p1, .int p2, .int p3] (cPT o cy cz X) (cPT o cy cz Xr) r := by
  refine ct_i (own := "PumpTalk") (by decide) rfl (Nat.le_of_ble_eq_true rfl) ?_
  intro p e s m below meth c ls A C hr hlk hW hl
  have hx := C.1
  have hb := C.2.1
  have hl : lv_has ls 5 [(0, .ref (o 9 0)), (1, .int p1), (2, .int p2), (3, .int p3)] := hl
  unfold X5_change at hm
  refine lv_aload_n hx hb dX5_change_0 rfl (lv_at hl 0 rfl) ?_
  refine gP_square C hW q199 dX5_change_1 ?_
  refine lv_iload_n hx hb dX5_change_4 rfl (lv_at hl 1 rfl) ?_
  obtain ⟨v4, e3, hm⟩ := mi_bind hm
  refine cq0_i_p (As := [.int p1]) (rest := []) C hW (c_X4_isThere e3) kX4_isThere q253 rfl rfl rfl hl.1 ⟨Nat.le_of_ble_eq_true rfl, Nat.le_of_ble_eq_true rfl⟩ ⟨Nat.le_refl 0, Nat.le_refl 0⟩ (Nat.le_of_ble_eq_true rfl) dX5_change_5 (fun H locs hW => ?_)
  refine lv_if_eq (tgt := 29) hx hb dX5_change_8 (by decide) (fun hc5 => ?_) (fun hc5 => ?_)
  · rw [if_pos hc5] at hm
    exact wX5_change_b29 C hr hlk X _ _ _ hm hW (lv_sub hl [0] rfl)
  · rw [if_neg hc5] at hm
    refine lv_iload_n hx hb dX5_change_11 rfl (lv_at hl 2 rfl) ?_
    refine lv_iconst (v := 0) hx hb dX5_change_12 (by decide) ?_
    refine lv_bipush (v := 7) hx hb dX5_change_13 (by decide) ?_
    obtain ⟨v7, e6, hm⟩ := mi_bind hm
    refine cS_i (As := [.int p2, .int (0 : Int32), .int (7 : Int32)]) (rest := []) C hW (c_X5_isOutside e6) kX5_isOutside q228 rfl rfl hl.1 ⟨Nat.le_of_ble_eq_true rfl, Nat.le_of_ble_eq_true rfl⟩ ⟨Nat.le_refl 0, Nat.le_refl 0⟩ (Nat.le_of_ble_eq_true rfl) dX5_change_15 (fun H locs hW => ?_)
    refine lv_if_ne (tgt := 29) hx hb dX5_change_18 (by decide) (fun hc8 => ?_) (fun hc8 => ?_)
    · rw [if_neg hc8] at hm
      exact wX5_change_b29 C hr hlk X _ _ _ hm hW (lv_sub hl [0] rfl)
    · rw [if_pos hc8] at hm
      refine lv_iload_n hx hb dX5_change_21 rfl (lv_at hl 2 rfl) ?_
      refine lv_iload_n hx hb dX5_change_22 rfl (lv_at hl 3 rfl) ?_
      obtain ⟨v10, e9, hm⟩ := mi_bind hm
      refine cS_i (As := [.int p2, .int p3]) (rest := []) C hW (c_X5_isWrongTrait e9) kX5_isWrongTrait q273 rfl rfl hl.1 ⟨Nat.le_of_ble_eq_true rfl, Nat.le_of_ble_eq_true rfl⟩ ⟨Nat.le_refl 0, Nat.le_refl 0⟩ (Nat.le_of_ble_eq_true rfl) dX5_change_23 (fun H locs hW => ?_)
      refine lv_if_eq (tgt := 36) hx hb dX5_change_26 (by decide) (fun hc11 => ?_) (fun hc11 => ?_)
      · rw [if_pos hc11] at hm
        refine lv_aload_n hx hb dX5_change_36 rfl (lv_at hl 0 rfl) ?_
        refine gP_square C hW q199 dX5_change_37 ?_
        refine lv_iload_n hx hb dX5_change_40 rfl (lv_at hl 1 rfl) ?_
        refine lv_iload_n hx hb dX5_change_41 rfl (lv_at hl 2 rfl) ?_
        obtain ⟨v13, e12, hm⟩ := mi_bind hm
        refine cq0_i_p (As := [.int p1, .int p2]) (rest := []) C hW (c_X4_trait e12) kX4_trait q261 rfl rfl rfl hl.1 ⟨Nat.le_of_ble_eq_true rfl, Nat.le_of_ble_eq_true rfl⟩ ⟨Nat.le_refl 0, Nat.le_refl 0⟩ (Nat.le_of_ble_eq_true rfl) dX5_change_42 (fun H locs hW => ?_)
        refine lv_istore (lv' := [(4, .int v13), (0, .ref (o 9 0)), (1, .int p1), (2, .int p2), (3, .int p3)]) hx hb dX5_change_45 hl (by decide) rfl (fun ls hl => ?_)
        refine lv_aload_n hx hb dX5_change_47 rfl (lv_at hl 1 rfl) ?_
        refine gP_square C hW q199 dX5_change_48 ?_
        refine lv_iload_n hx hb dX5_change_51 rfl (lv_at hl 2 rfl) ?_
        refine lv_iload_n hx hb dX5_change_52 rfl (lv_at hl 3 rfl) ?_
        refine lv_iload_n hx hb dX5_change_53 rfl (lv_at hl 4 rfl) ?_
        obtain ⟨s15, e14, hm⟩ := mi_bind hm
        refine cq0_v_s (As := [.int p1, .int p2, .int p3]) (rest := []) C hW (c_X4_setTrait e14) kX4_setTrait q282 rfl rfl rfl hl.1 ⟨Nat.le_of_ble_eq_true rfl, Nat.le_of_ble_eq_true rfl⟩ ⟨Nat.le_refl 0, Nat.le_refl 0⟩ (Nat.le_of_ble_eq_true rfl) dX5_change_54 (fun H locs hW => ?_)
        refine lv_iload hx hb dX5_change_57 (lv_at hl 0 rfl) ?_
        obtain ⟨rfl, rfl⟩ := Prod.mk.inj (Option.some.inj hm)
        exact en_i C hr hlk hW dX5_change_59
      · rw [if_neg hc11] at hm
        exact wX5_change_b29 C hr hlk X _ _ _ hm hW (lv_sub hl [0] rfl)
theorem kX5_change : KM yX5_change cX5_change 5 (some .int) 3 := ⟨q270, q271, q67, q272, by decide +kernel, by decide +kernel, by decide +kernel⟩
def X5_reply_b30 (X : XS) : Option (Int32 × XS) := (X5_found X (-1000001 : Int32)).bind fun q2 => some (q2.1, q2.2)
set_option maxHeartbeats 4000000 in
set_option maxRecDepth 100000 in
theorem wX5_reply_b30 {p : Program} {l : Launch} {e : Env} {s : State} {m : MethodId} {below : List Frame} {meth : Method} {c : Code} {D : va_G} {cy cz : ClassId} {G : GT} {A : Nat → Prop} {args : Array Value} {o : Nat → Nat → Nat} {r : Int32} {Xr : XS} (C : Cx p s m args c cX5_reply 4 "PumpTalk" D cy cz G A) (hr : meth.sig.returnType = some .int) (hlk : meth.locks = false) : ∀ (X : XS) (H : Heap) (locs : List Loc) (ls : Array Slot), X5_reply_b30 X = some (r, Xr) → Wd D A s.heap H locs (cPT o cy cz X) → lv_has ls 4 [(0, .ref (o 9 0))] → W p l e (rmz 2 47) s m args below meth c H locs 0 0 (MQ below (QI D cy cz A (cPT o cy cz Xr) r) args s 0 0 A) (F0 m 30 ls []) := by
  have hx := C.1
  have hb := C.2.1
  intro X H locs ls hm hW hl
  unfold X5_reply_b30 at hm
  refine lv_aload_n hx hb dX5_reply_30 rfl (lv_at hl 0 rfl) ?_
  refine lv_ldc hx hb C.2.2.2.1 (C.2.2.2.2.1 _ q231) dX5_reply_31 ?_
  obtain ⟨q2, e1, hm⟩ := mi_bind hm
  refine cs_i (q0 := 0) (As := [.int (-1000001 : Int32)]) (rest := []) C hW (c_X5_found e1) kX5_found q232 rfl rfl rfl rfl rfl hl.1 ⟨Nat.le_of_ble_eq_true rfl, Nat.le_of_ble_eq_true rfl⟩ ⟨Nat.le_refl 0, Nat.le_refl 0⟩ (Nat.le_of_ble_eq_true rfl) dX5_reply_33 (fun H locs hW => ?_)
  obtain ⟨rfl, rfl⟩ := Prod.mk.inj (Option.some.inj hm)
  exact en_i C hr hlk hW dX5_reply_36
def X5_reply (X : XS) (p1 : Int32) (p2 : Int32) (p3 : Int32) : Option (Int32 × XS) := (X4_isThere (X 0) p1).bind fun v4 => if v4 = (0 : Int32) then (X5_reply_b30 X) else ((X5_isOutside p2 (1 : Int32) (18 : Int32)).bind fun v7 => if v7 = (0 : Int32) then ((X5_isOutside p3 (0 : Int32) (1 : Int32)).bind fun v10 => if v10 = (0 : Int32) then (if p3 = (0 : Int32) then ((X4_movesOf (X 0) p1 p2).bind fun v16 => some (v16, X)) else ((X4_strokesOf (X 0) p1 p2).bind fun v14 => some (v14, X))) else (X5_reply_b30 X)) else (X5_reply_b30 X))
set_option maxHeartbeats 4000000 in
set_option maxRecDepth 100000 in
theorem c_X5_reply {l : Launch} {D : va_G} {cy cz : ClassId} {G : GT} {o : Nat → Nat → Nat} {X : XS} {p1 : Int32} {p2 : Int32} {p3 : Int32} {r : Int32} {Xr : XS} (hm : X5_reply X p1 p2 p3 = some (r, Xr)) : CtI l D cy cz G yX5_reply cX5_reply 4 (some .int) 2 47 [.ref (o 9 0), .int p1, .int p2, .int p3] (cPT o cy cz X) (cPT o cy cz Xr) r := by
  refine ct_i (own := "PumpTalk") (by decide) rfl (Nat.le_of_ble_eq_true rfl) ?_
  intro p e s m below meth c ls A C hr hlk hW hl
  have hx := C.1
  have hb := C.2.1
  have hl : lv_has ls 4 [(0, .ref (o 9 0)), (1, .int p1), (2, .int p2), (3, .int p3)] := hl
  unfold X5_reply at hm
  refine lv_aload_n hx hb dX5_reply_0 rfl (lv_at hl 0 rfl) ?_
  refine gP_square C hW q199 dX5_reply_1 ?_
  refine lv_iload_n hx hb dX5_reply_4 rfl (lv_at hl 1 rfl) ?_
  obtain ⟨v4, e3, hm⟩ := mi_bind hm
  refine cq0_i_p (As := [.int p1]) (rest := []) C hW (c_X4_isThere e3) kX4_isThere q253 rfl rfl rfl hl.1 ⟨Nat.le_of_ble_eq_true rfl, Nat.le_of_ble_eq_true rfl⟩ ⟨Nat.le_refl 0, Nat.le_refl 0⟩ (Nat.le_of_ble_eq_true rfl) dX5_reply_5 (fun H locs hW => ?_)
  refine lv_if_eq (tgt := 30) hx hb dX5_reply_8 (by decide) (fun hc5 => ?_) (fun hc5 => ?_)
  · rw [if_pos hc5] at hm
    exact wX5_reply_b30 C hr hlk X _ _ _ hm hW (lv_sub hl [0] rfl)
  · rw [if_neg hc5] at hm
    refine lv_iload_n hx hb dX5_reply_11 rfl (lv_at hl 2 rfl) ?_
    refine lv_iconst (v := 1) hx hb dX5_reply_12 (by decide) ?_
    refine lv_bipush (v := 18) hx hb dX5_reply_13 (by decide) ?_
    obtain ⟨v7, e6, hm⟩ := mi_bind hm
    refine cS_i (As := [.int p2, .int (1 : Int32), .int (18 : Int32)]) (rest := []) C hW (c_X5_isOutside e6) kX5_isOutside q228 rfl rfl hl.1 ⟨Nat.le_of_ble_eq_true rfl, Nat.le_of_ble_eq_true rfl⟩ ⟨Nat.le_refl 0, Nat.le_refl 0⟩ (Nat.le_of_ble_eq_true rfl) dX5_reply_15 (fun H locs hW => ?_)
    refine lv_if_ne (tgt := 30) hx hb dX5_reply_18 (by decide) (fun hc8 => ?_) (fun hc8 => ?_)
    · rw [if_neg hc8] at hm
      exact wX5_reply_b30 C hr hlk X _ _ _ hm hW (lv_sub hl [0] rfl)
    · rw [if_pos hc8] at hm
      refine lv_iload_n hx hb dX5_reply_21 rfl (lv_at hl 3 rfl) ?_
      refine lv_iconst (v := 0) hx hb dX5_reply_22 (by decide) ?_
      refine lv_iconst (v := 1) hx hb dX5_reply_23 (by decide) ?_
      obtain ⟨v10, e9, hm⟩ := mi_bind hm
      refine cS_i (As := [.int p3, .int (0 : Int32), .int (1 : Int32)]) (rest := []) C hW (c_X5_isOutside e9) kX5_isOutside q228 rfl rfl hl.1 ⟨Nat.le_of_ble_eq_true rfl, Nat.le_of_ble_eq_true rfl⟩ ⟨Nat.le_refl 0, Nat.le_refl 0⟩ (Nat.le_of_ble_eq_true rfl) dX5_reply_24 (fun H locs hW => ?_)
      refine lv_if_eq (tgt := 37) hx hb dX5_reply_27 (by decide) (fun hc11 => ?_) (fun hc11 => ?_)
      · rw [if_pos hc11] at hm
        refine lv_iload_n hx hb dX5_reply_37 rfl (lv_at hl 3 rfl) ?_
        refine lv_if_ne (tgt := 53) hx hb dX5_reply_38 (by decide) (fun hc12 => ?_) (fun hc12 => ?_)
        · rw [if_neg hc12] at hm
          refine lv_aload_n hx hb dX5_reply_53 rfl (lv_at hl 0 rfl) ?_
          refine gP_square C hW q199 dX5_reply_54 ?_
          refine lv_iload_n hx hb dX5_reply_57 rfl (lv_at hl 1 rfl) ?_
          refine lv_iload_n hx hb dX5_reply_58 rfl (lv_at hl 2 rfl) ?_
          obtain ⟨v14, e13, hm⟩ := mi_bind hm
          refine cq0_i_p (As := [.int p1, .int p2]) (rest := []) C hW (c_X4_strokesOf e13) kX4_strokesOf q297 rfl rfl rfl hl.1 ⟨Nat.le_of_ble_eq_true rfl, Nat.le_of_ble_eq_true rfl⟩ ⟨Nat.le_refl 0, Nat.le_refl 0⟩ (Nat.le_of_ble_eq_true rfl) dX5_reply_59 (fun H locs hW => ?_)
          obtain ⟨rfl, rfl⟩ := Prod.mk.inj (Option.some.inj hm)
          exact en_i C hr hlk hW dX5_reply_62
        · rw [if_pos hc12] at hm
          refine lv_aload_n hx hb dX5_reply_41 rfl (lv_at hl 0 rfl) ?_
          refine gP_square C hW q199 dX5_reply_42 ?_
          refine lv_iload_n hx hb dX5_reply_45 rfl (lv_at hl 1 rfl) ?_
          refine lv_iload_n hx hb dX5_reply_46 rfl (lv_at hl 2 rfl) ?_
          obtain ⟨v16, e15, hm⟩ := mi_bind hm
          refine cq0_i_p (As := [.int p1, .int p2]) (rest := []) C hW (c_X4_movesOf e15) kX4_movesOf q290 rfl rfl rfl hl.1 ⟨Nat.le_of_ble_eq_true rfl, Nat.le_of_ble_eq_true rfl⟩ ⟨Nat.le_refl 0, Nat.le_refl 0⟩ (Nat.le_of_ble_eq_true rfl) dX5_reply_47 (fun H locs hW => ?_)
          refine lv_goto (tgt := 62) hx hb dX5_reply_50 (by decide) ?_
          obtain ⟨rfl, rfl⟩ := Prod.mk.inj (Option.some.inj hm)
          exact en_i C hr hlk hW dX5_reply_62
      · rw [if_neg hc11] at hm
        exact wX5_reply_b30 C hr hlk X _ _ _ hm hW (lv_sub hl [0] rfl)
theorem kX5_reply : KM yX5_reply cX5_reply 4 (some .int) 3 := ⟨q287, q288, q67, q289, by decide +kernel, by decide +kernel, by decide +kernel⟩
def X5_isNoSubject (p1 : Int32) : Option (Int32) := (X5_isOutside p1 (0 : Int32) (5 : Int32)).bind fun v2 => zb v2 (some v2)
set_option maxHeartbeats 4000000 in
set_option maxRecDepth 100000 in
theorem c_X5_isNoSubject {l : Launch} {D : va_G} {cy cz : ClassId} {G : GT} {p1 : Int32} {r : Int32} (hm : X5_isNoSubject p1 = some r) : CtI l D cy cz G yX5_isNoSubject cX5_isNoSubject 1 (some .boolean) 1 22 [.int p1] ([] : va_W) ([] : va_W) r := by
  refine ct_i (own := "PumpTalk") (by decide) rfl (Nat.le_of_ble_eq_true rfl) ?_
  intro p e s m below meth c ls A C hr hlk hW hl
  have hx := C.1
  have hb := C.2.1
  have hl : lv_has ls 1 [(0, .int p1)] := hl
  unfold X5_isNoSubject at hm
  refine lv_iload_n hx hb dX5_isNoSubject_0 rfl (lv_at hl 0 rfl) ?_
  refine lv_iconst (v := 0) hx hb dX5_isNoSubject_1 (by decide) ?_
  refine lv_iconst (v := 5) hx hb dX5_isNoSubject_2 (by decide) ?_
  obtain ⟨v2, e1, hm⟩ := mi_bind hm
  refine cS_i (As := [.int p1, .int (0 : Int32), .int (5 : Int32)]) (rest := []) C hW (c_X5_isOutside e1) kX5_isOutside q228 rfl rfl hl.1 ⟨Nat.le_of_ble_eq_true rfl, Nat.le_of_ble_eq_true rfl⟩ ⟨Nat.le_refl 0, Nat.le_refl 0⟩ (Nat.le_of_ble_eq_true rfl) dX5_isNoSubject_3 (fun H locs hW => ?_)
  obtain ⟨hz3, hm⟩ := mi_zb hm
  obtain rfl := Option.some.inj hm
  exact en_z C hr hlk hz3.1 hW dX5_isNoSubject_6
theorem kX5_isNoSubject : KS yX5_isNoSubject cX5_isNoSubject 1 (some .boolean) 1 := ⟨q309, q67, q310, by decide +kernel, by decide +kernel, by decide +kernel⟩
def X5_apart_b29 (X : XS) : Option (Int32 × XS) := (X5_found X (-1000001 : Int32)).bind fun q2 => some (q2.1, q2.2)
set_option maxHeartbeats 4000000 in
set_option maxRecDepth 100000 in
theorem wX5_apart_b29 {p : Program} {l : Launch} {e : Env} {s : State} {m : MethodId} {below : List Frame} {meth : Method} {c : Code} {D : va_G} {cy cz : ClassId} {G : GT} {A : Nat → Prop} {args : Array Value} {o : Nat → Nat → Nat} {r : Int32} {Xr : XS} (C : Cx p s m args c cX5_apart 4 "PumpTalk" D cy cz G A) (hr : meth.sig.returnType = some .int) (hlk : meth.locks = false) : ∀ (X : XS) (H : Heap) (locs : List Loc) (ls : Array Slot), X5_apart_b29 X = some (r, Xr) → Wd D A s.heap H locs (cPT o cy cz X) → lv_has ls 4 [(0, .ref (o 9 0))] → W p l e (rmz 2 45) s m args below meth c H locs 0 0 (MQ below (QI D cy cz A (cPT o cy cz Xr) r) args s 0 0 A) (F0 m 29 ls []) := by
  have hx := C.1
  have hb := C.2.1
  intro X H locs ls hm hW hl
  unfold X5_apart_b29 at hm
  refine lv_aload_n hx hb dX5_apart_29 rfl (lv_at hl 0 rfl) ?_
  refine lv_ldc hx hb C.2.2.2.1 (C.2.2.2.2.1 _ q231) dX5_apart_30 ?_
  obtain ⟨q2, e1, hm⟩ := mi_bind hm
  refine cs_i (q0 := 0) (As := [.int (-1000001 : Int32)]) (rest := []) C hW (c_X5_found e1) kX5_found q232 rfl rfl rfl rfl rfl hl.1 ⟨Nat.le_of_ble_eq_true rfl, Nat.le_of_ble_eq_true rfl⟩ ⟨Nat.le_refl 0, Nat.le_refl 0⟩ (Nat.le_of_ble_eq_true rfl) dX5_apart_32 (fun H locs hW => ?_)
  obtain ⟨rfl, rfl⟩ := Prod.mk.inj (Option.some.inj hm)
  exact en_i C hr hlk hW dX5_apart_35
def X5_apart (X : XS) (p1 : Int32) (p2 : Int32) (p3 : Int32) : Option (Int32 × XS) := (X4_isThere (X 0) p1).bind fun v4 => if v4 = (0 : Int32) then (X5_apart_b29 X) else ((X4_isThere (X 0) p2).bind fun v7 => if v7 = (0 : Int32) then (X5_apart_b29 X) else ((X5_isNoSubject p3).bind fun v10 => if v10 = (0 : Int32) then ((X4_distance (X 0) p1 p2 p3).bind fun v13 => some (v13, X)) else (X5_apart_b29 X)))
set_option maxHeartbeats 4000000 in
set_option maxRecDepth 100000 in
theorem c_X5_apart {l : Launch} {D : va_G} {cy cz : ClassId} {G : GT} {o : Nat → Nat → Nat} {X : XS} {p1 : Int32} {p2 : Int32} {p3 : Int32} {r : Int32} {Xr : XS} (hm : X5_apart X p1 p2 p3 = some (r, Xr)) : CtI l D cy cz G yX5_apart cX5_apart 4 (some .int) 2 45 [.ref (o 9 0), .int p1, .int p2, .int p3] (cPT o cy cz X) (cPT o cy cz Xr) r := by
  refine ct_i (own := "PumpTalk") (by decide) rfl (Nat.le_of_ble_eq_true rfl) ?_
  intro p e s m below meth c ls A C hr hlk hW hl
  have hx := C.1
  have hb := C.2.1
  have hl : lv_has ls 4 [(0, .ref (o 9 0)), (1, .int p1), (2, .int p2), (3, .int p3)] := hl
  unfold X5_apart at hm
  refine lv_aload_n hx hb dX5_apart_0 rfl (lv_at hl 0 rfl) ?_
  refine gP_square C hW q199 dX5_apart_1 ?_
  refine lv_iload_n hx hb dX5_apart_4 rfl (lv_at hl 1 rfl) ?_
  obtain ⟨v4, e3, hm⟩ := mi_bind hm
  refine cq0_i_p (As := [.int p1]) (rest := []) C hW (c_X4_isThere e3) kX4_isThere q253 rfl rfl rfl hl.1 ⟨Nat.le_of_ble_eq_true rfl, Nat.le_of_ble_eq_true rfl⟩ ⟨Nat.le_refl 0, Nat.le_refl 0⟩ (Nat.le_of_ble_eq_true rfl) dX5_apart_5 (fun H locs hW => ?_)
  refine lv_if_eq (tgt := 29) hx hb dX5_apart_8 (by decide) (fun hc5 => ?_) (fun hc5 => ?_)
  · rw [if_pos hc5] at hm
    exact wX5_apart_b29 C hr hlk X _ _ _ hm hW (lv_sub hl [0] rfl)
  · rw [if_neg hc5] at hm
    refine lv_aload_n hx hb dX5_apart_11 rfl (lv_at hl 0 rfl) ?_
    refine gP_square C hW q199 dX5_apart_12 ?_
    refine lv_iload_n hx hb dX5_apart_15 rfl (lv_at hl 2 rfl) ?_
    obtain ⟨v7, e6, hm⟩ := mi_bind hm
    refine cq0_i_p (As := [.int p2]) (rest := []) C hW (c_X4_isThere e6) kX4_isThere q253 rfl rfl rfl hl.1 ⟨Nat.le_of_ble_eq_true rfl, Nat.le_of_ble_eq_true rfl⟩ ⟨Nat.le_refl 0, Nat.le_refl 0⟩ (Nat.le_of_ble_eq_true rfl) dX5_apart_16 (fun H locs hW => ?_)
    refine lv_if_eq (tgt := 29) hx hb dX5_apart_19 (by decide) (fun hc8 => ?_) (fun hc8 => ?_)
    · rw [if_pos hc8] at hm
      exact wX5_apart_b29 C hr hlk X _ _ _ hm hW (lv_sub hl [0] rfl)
    · rw [if_neg hc8] at hm
      refine lv_iload_n hx hb dX5_apart_22 rfl (lv_at hl 3 rfl) ?_
      obtain ⟨v10, e9, hm⟩ := mi_bind hm
      refine cS_i (As := [.int p3]) (rest := []) C hW (c_X5_isNoSubject e9) kX5_isNoSubject q308 rfl rfl hl.1 ⟨Nat.le_of_ble_eq_true rfl, Nat.le_of_ble_eq_true rfl⟩ ⟨Nat.le_refl 0, Nat.le_refl 0⟩ (Nat.le_of_ble_eq_true rfl) dX5_apart_23 (fun H locs hW => ?_)
      refine lv_if_eq (tgt := 36) hx hb dX5_apart_26 (by decide) (fun hc11 => ?_) (fun hc11 => ?_)
      · rw [if_pos hc11] at hm
        refine lv_aload_n hx hb dX5_apart_36 rfl (lv_at hl 0 rfl) ?_
        refine gP_square C hW q199 dX5_apart_37 ?_
        refine lv_iload_n hx hb dX5_apart_40 rfl (lv_at hl 1 rfl) ?_
        refine lv_iload_n hx hb dX5_apart_41 rfl (lv_at hl 2 rfl) ?_
        refine lv_iload_n hx hb dX5_apart_42 rfl (lv_at hl 3 rfl) ?_
        obtain ⟨v13, e12, hm⟩ := mi_bind hm
        refine cq0_i_p (As := [.int p1, .int p2, .int p3]) (rest := []) C hW (c_X4_distance e12) kX4_distance q311 rfl rfl rfl hl.1 ⟨Nat.le_of_ble_eq_true rfl, Nat.le_of_ble_eq_true rfl⟩ ⟨Nat.le_refl 0, Nat.le_refl 0⟩ (Nat.le_of_ble_eq_true rfl) dX5_apart_43 (fun H locs hW => ?_)
        obtain ⟨rfl, rfl⟩ := Prod.mk.inj (Option.some.inj hm)
        exact en_i C hr hlk hW dX5_apart_46
      · rw [if_neg hc11] at hm
        exact wX5_apart_b29 C hr hlk X _ _ _ hm hW (lv_sub hl [0] rfl)
theorem kX5_apart : KM yX5_apart cX5_apart 4 (some .int) 3 := ⟨q305, q306, q67, q307, by decide +kernel, by decide +kernel, by decide +kernel⟩
def X5_isNoPair (X : XS) (p1 : Int32) (p2 : Int32) : Option (Int32) := (X4_isThere (X 0) p1).bind fun v2 => if v2 = (0 : Int32) then (some (1 : Int32)) else ((X4_isThere (X 0) p2).bind fun v5 => if v5 = (0 : Int32) then (some (1 : Int32)) else (if p1 = p2 then (some (1 : Int32)) else (some (0 : Int32))))
set_option maxHeartbeats 4000000 in
set_option maxRecDepth 100000 in
theorem c_X5_isNoPair {l : Launch} {D : va_G} {cy cz : ClassId} {G : GT} {o : Nat → Nat → Nat} {X : XS} {p1 : Int32} {p2 : Int32} {r : Int32} (hm : X5_isNoPair X p1 p2 = some r) : CtI l D cy cz G yX5_isNoPair cX5_isNoPair 3 (some .boolean) 1 21 [.ref (o 9 0), .int p1, .int p2] (cPT o cy cz X) (cPT o cy cz X) r := by
  refine ct_i (own := "PumpTalk") (by decide) rfl (Nat.le_of_ble_eq_true rfl) ?_
  intro p e s m below meth c ls A C hr hlk hW hl
  have hx := C.1
  have hb := C.2.1
  have hl : lv_has ls 3 [(0, .ref (o 9 0)), (1, .int p1), (2, .int p2)] := hl
  unfold X5_isNoPair at hm
  refine lv_aload_n hx hb dX5_isNoPair_0 rfl (lv_at hl 0 rfl) ?_
  refine gP_square C hW q199 dX5_isNoPair_1 ?_
  refine lv_iload_n hx hb dX5_isNoPair_4 rfl (lv_at hl 1 rfl) ?_
  obtain ⟨v2, e1, hm⟩ := mi_bind hm
  refine cq0_i_p (As := [.int p1]) (rest := []) C hW (c_X4_isThere e1) kX4_isThere q253 rfl rfl rfl hl.1 ⟨Nat.le_of_ble_eq_true rfl, Nat.le_of_ble_eq_true rfl⟩ ⟨Nat.le_refl 0, Nat.le_refl 0⟩ (Nat.le_of_ble_eq_true rfl) dX5_isNoPair_5 (fun H locs hW => ?_)
  refine lv_if_eq (tgt := 27) hx hb dX5_isNoPair_8 (by decide) (fun hc3 => ?_) (fun hc3 => ?_)
  · rw [if_pos hc3] at hm
    refine lv_iconst (v := 1) hx hb dX5_isNoPair_27 (by decide) ?_
    refine lv_goto (tgt := 32) hx hb dX5_isNoPair_28 (by decide) ?_
    obtain rfl := Option.some.inj hm
    exact en_z C hr hlk rfl hW dX5_isNoPair_32
  · rw [if_neg hc3] at hm
    refine lv_aload_n hx hb dX5_isNoPair_11 rfl (lv_at hl 0 rfl) ?_
    refine gP_square C hW q199 dX5_isNoPair_12 ?_
    refine lv_iload_n hx hb dX5_isNoPair_15 rfl (lv_at hl 2 rfl) ?_
    obtain ⟨v5, e4, hm⟩ := mi_bind hm
    refine cq0_i_p (As := [.int p2]) (rest := []) C hW (c_X4_isThere e4) kX4_isThere q253 rfl rfl rfl hl.1 ⟨Nat.le_of_ble_eq_true rfl, Nat.le_of_ble_eq_true rfl⟩ ⟨Nat.le_refl 0, Nat.le_refl 0⟩ (Nat.le_of_ble_eq_true rfl) dX5_isNoPair_16 (fun H locs hW => ?_)
    refine lv_if_eq (tgt := 27) hx hb dX5_isNoPair_19 (by decide) (fun hc6 => ?_) (fun hc6 => ?_)
    · rw [if_pos hc6] at hm
      refine lv_iconst (v := 1) hx hb dX5_isNoPair_27 (by decide) ?_
      refine lv_goto (tgt := 32) hx hb dX5_isNoPair_28 (by decide) ?_
      obtain rfl := Option.some.inj hm
      exact en_z C hr hlk rfl hW dX5_isNoPair_32
    · rw [if_neg hc6] at hm
      refine lv_iload_n hx hb dX5_isNoPair_22 rfl (lv_at hl 1 rfl) ?_
      refine lv_iload_n hx hb dX5_isNoPair_23 rfl (lv_at hl 2 rfl) ?_
      refine lv_icmp_ne (tgt := 31) hx hb dX5_isNoPair_24 (by decide) (fun hc7 => ?_) (fun hc7 => ?_)
      · rw [if_neg hc7] at hm
        refine lv_iconst (v := 0) hx hb dX5_isNoPair_31 (by decide) ?_
        obtain rfl := Option.some.inj hm
        exact en_z C hr hlk rfl hW dX5_isNoPair_32
      · rw [if_pos hc7] at hm
        refine lv_iconst (v := 1) hx hb dX5_isNoPair_27 (by decide) ?_
        refine lv_goto (tgt := 32) hx hb dX5_isNoPair_28 (by decide) ?_
        obtain rfl := Option.some.inj hm
        exact en_z C hr hlk rfl hW dX5_isNoPair_32
theorem kX5_isNoPair : KM yX5_isNoPair cX5_isNoPair 3 (some .boolean) 2 := ⟨q324, q1, q67, q325, by decide +kernel, by decide +kernel, by decide +kernel⟩
def X5_pair (X : XS) (p1 : Int32) (p2 : Int32) : Option (Int32 × XS) := (X5_isNoPair X p1 p2).bind fun v2 => if v2 = (0 : Int32) then ((X4_seat (X 0) p1 p2).bind fun s5 => (X4_quarrelSet ((va_up X 0 s5) 0)).bind fun v7 => (J6_bitCount_0f7a4 v7).bind fun v9 => some (v9, va_up X 0 s5)) else ((X5_found X (-1000001 : Int32)).bind fun q11 => some (q11.1, q11.2))
set_option maxHeartbeats 4000000 in
set_option maxRecDepth 100000 in
theorem c_X5_pair {l : Launch} {D : va_G} {cy cz : ClassId} {G : GT} {o : Nat → Nat → Nat} {X : XS} {p1 : Int32} {p2 : Int32} {r : Int32} {Xr : XS} (hm : X5_pair X p1 p2 = some (r, Xr)) : CtI l D cy cz G yX5_pair cX5_pair 3 (some .int) 3 67 [.ref (o 9 0), .int p1, .int p2] (cPT o cy cz X) (cPT o cy cz Xr) r := by
  refine ct_i (own := "PumpTalk") (by decide) rfl (Nat.le_of_ble_eq_true rfl) ?_
  intro p e s m below meth c ls A C hr hlk hW hl
  have hx := C.1
  have hb := C.2.1
  have hl : lv_has ls 3 [(0, .ref (o 9 0)), (1, .int p1), (2, .int p2)] := hl
  unfold X5_pair at hm
  refine lv_aload_n hx hb dX5_pair_0 rfl (lv_at hl 0 rfl) ?_
  refine lv_iload_n hx hb dX5_pair_1 rfl (lv_at hl 1 rfl) ?_
  refine lv_iload_n hx hb dX5_pair_2 rfl (lv_at hl 2 rfl) ?_
  obtain ⟨v2, e1, hm⟩ := mi_bind hm
  refine cs_i (q0 := 0) (As := [.int p1, .int p2]) (rest := []) C hW (c_X5_isNoPair e1) kX5_isNoPair q322 rfl rfl rfl rfl rfl hl.1 ⟨Nat.le_of_ble_eq_true rfl, Nat.le_of_ble_eq_true rfl⟩ ⟨Nat.le_refl 0, Nat.le_refl 0⟩ (Nat.le_of_ble_eq_true rfl) dX5_pair_3 (fun H locs hW => ?_)
  refine lv_if_eq (tgt := 16) hx hb dX5_pair_6 (by decide) (fun hc3 => ?_) (fun hc3 => ?_)
  · rw [if_pos hc3] at hm
    refine lv_aload_n hx hb dX5_pair_16 rfl (lv_at hl 0 rfl) ?_
    refine gP_square C hW q199 dX5_pair_17 ?_
    refine lv_iload_n hx hb dX5_pair_20 rfl (lv_at hl 1 rfl) ?_
    refine lv_iload_n hx hb dX5_pair_21 rfl (lv_at hl 2 rfl) ?_
    obtain ⟨s5, e4, hm⟩ := mi_bind hm
    refine cq0_v_s (As := [.int p1, .int p2]) (rest := []) C hW (c_X4_seat e4) kX4_seat q326 rfl rfl rfl hl.1 ⟨Nat.le_of_ble_eq_true rfl, Nat.le_of_ble_eq_true rfl⟩ ⟨Nat.le_refl 0, Nat.le_refl 0⟩ (Nat.le_of_ble_eq_true rfl) dX5_pair_22 (fun H locs hW => ?_)
    refine lv_aload_n hx hb dX5_pair_25 rfl (lv_at hl 0 rfl) ?_
    refine gP_square C hW q199 dX5_pair_26 ?_
    obtain ⟨v7, e6, hm⟩ := mi_bind hm
    refine cq0_i_p (As := []) (rest := []) C hW (c_X4_quarrelSet e6) kX4_quarrelSet q330 rfl rfl rfl hl.1 ⟨Nat.le_of_ble_eq_true rfl, Nat.le_of_ble_eq_true rfl⟩ ⟨Nat.le_refl 0, Nat.le_refl 0⟩ (Nat.le_of_ble_eq_true rfl) dX5_pair_29 (fun H locs hW => ?_)
    obtain ⟨v9, e8, hm⟩ := mi_bind hm
    refine cS_i (As := [.int v7]) (rest := []) C hW (c_J6_bitCount_0f7a4 e8) kJ6_bitCount_0f7a4 q340 rfl rfl hl.1 ⟨Nat.le_of_ble_eq_true rfl, Nat.le_of_ble_eq_true rfl⟩ ⟨Nat.le_refl 0, Nat.le_refl 0⟩ (Nat.le_of_ble_eq_true rfl) dX5_pair_32 (fun H locs hW => ?_)
    obtain ⟨rfl, rfl⟩ := Prod.mk.inj (Option.some.inj hm)
    exact en_i C hr hlk hW dX5_pair_35
  · rw [if_neg hc3] at hm
    refine lv_aload_n hx hb dX5_pair_9 rfl (lv_at hl 0 rfl) ?_
    refine lv_ldc hx hb C.2.2.2.1 (C.2.2.2.2.1 _ q231) dX5_pair_10 ?_
    obtain ⟨q11, e10, hm⟩ := mi_bind hm
    refine cs_i (q0 := 0) (As := [.int (-1000001 : Int32)]) (rest := []) C hW (c_X5_found e10) kX5_found q232 rfl rfl rfl rfl rfl hl.1 ⟨Nat.le_of_ble_eq_true rfl, Nat.le_of_ble_eq_true rfl⟩ ⟨Nat.le_refl 0, Nat.le_refl 0⟩ (Nat.le_of_ble_eq_true rfl) dX5_pair_12 (fun H locs hW => ?_)
    obtain ⟨rfl, rfl⟩ := Prod.mk.inj (Option.some.inj hm)
    exact en_i C hr hlk hW dX5_pair_15
theorem kX5_pair : KM yX5_pair cX5_pair 3 (some .int) 2 := ⟨q319, q320, q67, q321, by decide +kernel, by decide +kernel, by decide +kernel⟩
def X5_rest_b15 (X : XS) (y0 : Int32) : Option (Int32 × XS) := (X4_leave (X 0)).bind fun s2 => some (y0, va_up X 0 s2)
set_option maxHeartbeats 4000000 in
set_option maxRecDepth 100000 in
theorem wX5_rest_b15 {p : Program} {l : Launch} {e : Env} {s : State} {m : MethodId} {below : List Frame} {meth : Method} {c : Code} {D : va_G} {cy cz : ClassId} {G : GT} {A : Nat → Prop} {args : Array Value} {o : Nat → Nat → Nat} {r : Int32} {Xr : XS} (C : Cx p s m args c cX5_rest 2 "PumpTalk" D cy cz G A) (hr : meth.sig.returnType = some .int) (hlk : meth.locks = false) : ∀ (X : XS) (y0 : Int32) (H : Heap) (locs : List Loc) (ls : Array Slot), X5_rest_b15 X y0 = some (r, Xr) → Wd D A s.heap H locs (cPT o cy cz X) → lv_has ls 2 [(0, .ref (o 9 0))] → W p l e (rmz 2 41) s m args below meth c H locs 0 0 (MQ below (QI D cy cz A (cPT o cy cz Xr) r) args s 0 0 A) (F0 m 15 ls [.int y0]) := by
  have hx := C.1
  have hb := C.2.1
  intro X y0 H locs ls hm hW hl
  unfold X5_rest_b15 at hm
  refine lv_istore_n (lv' := [(1, .int y0), (0, .ref (o 9 0))]) hx hb dX5_rest_15 rfl hl (by decide) rfl (fun ls hl => ?_)
  refine lv_aload_n hx hb dX5_rest_16 rfl (lv_at hl 1 rfl) ?_
  refine gP_square C hW q199 dX5_rest_17 ?_
  obtain ⟨s2, e1, hm⟩ := mi_bind hm
  refine cq0_v_s (As := []) (rest := []) C hW (c_X4_leave e1) kX4_leave q351 rfl rfl rfl hl.1 ⟨Nat.le_of_ble_eq_true rfl, Nat.le_of_ble_eq_true rfl⟩ ⟨Nat.le_refl 0, Nat.le_refl 0⟩ (Nat.le_of_ble_eq_true rfl) dX5_rest_20 (fun H locs hW => ?_)
  refine lv_iload_n hx hb dX5_rest_23 rfl (lv_at hl 0 rfl) ?_
  obtain ⟨rfl, rfl⟩ := Prod.mk.inj (Option.some.inj hm)
  exact en_i C hr hlk hW dX5_rest_24
def X5_rest (X : XS) : Option (Int32 × XS) := (X4_isManned (X 0)).bind fun v4 => if v4 = (0 : Int32) then (X5_rest_b15 X (0 : Int32)) else (X5_rest_b15 X (1 : Int32))
set_option maxHeartbeats 4000000 in
set_option maxRecDepth 100000 in
theorem c_X5_rest {l : Launch} {D : va_G} {cy cz : ClassId} {G : GT} {o : Nat → Nat → Nat} {X : XS} {r : Int32} {Xr : XS} (hm : X5_rest X = some (r, Xr)) : CtI l D cy cz G yX5_rest cX5_rest 2 (some .int) 2 41 [.ref (o 9 0)] (cPT o cy cz X) (cPT o cy cz Xr) r := by
  refine ct_i (own := "PumpTalk") (by decide) rfl (Nat.le_of_ble_eq_true rfl) ?_
  intro p e s m below meth c ls A C hr hlk hW hl
  have hx := C.1
  have hb := C.2.1
  have hl : lv_has ls 2 [(0, .ref (o 9 0))] := hl
  unfold X5_rest at hm
  refine lv_aload_n hx hb dX5_rest_0 rfl (lv_at hl 0 rfl) ?_
  refine gP_square C hW q199 dX5_rest_1 ?_
  obtain ⟨v4, e3, hm⟩ := mi_bind hm
  refine cq0_i_p (As := []) (rest := []) C hW (c_X4_isManned e3) kX4_isManned q350 rfl rfl rfl hl.1 ⟨Nat.le_of_ble_eq_true rfl, Nat.le_of_ble_eq_true rfl⟩ ⟨Nat.le_refl 0, Nat.le_refl 0⟩ (Nat.le_of_ble_eq_true rfl) dX5_rest_4 (fun H locs hW => ?_)
  refine lv_if_eq (tgt := 14) hx hb dX5_rest_7 (by decide) (fun hc5 => ?_) (fun hc5 => ?_)
  · rw [if_pos hc5] at hm
    refine lv_iconst (v := 0) hx hb dX5_rest_14 (by decide) ?_
    exact wX5_rest_b15 C hr hlk X (0 : Int32) _ _ _ hm hW (lv_sub hl [0] rfl)
  · rw [if_neg hc5] at hm
    refine lv_iconst (v := 1) hx hb dX5_rest_10 (by decide) ?_
    refine lv_goto (tgt := 15) hx hb dX5_rest_11 (by decide) ?_
    exact wX5_rest_b15 C hr hlk X (1 : Int32) _ _ _ hm hW (lv_sub hl [0] rfl)
theorem kX5_rest : KM yX5_rest cX5_rest 2 (some .int) 0 := ⟨q347, q348, q67, q349, by decide +kernel, by decide +kernel, by decide +kernel⟩
def X5_subject (X : XS) (p1 : Int32) : Option (Int32 × XS) := (X5_isNoSubject p1).bind fun v2 => if v2 = (0 : Int32) then ((some (va_up X 0 (su (X 0) 11 7 p1))).bind fun s4 => some ((X 0 11 7), s4)) else ((X5_found X (-1000001 : Int32)).bind fun q7 => some (q7.1, q7.2))
set_option maxHeartbeats 4000000 in
set_option maxRecDepth 100000 in
theorem c_X5_subject {l : Launch} {D : va_G} {cy cz : ClassId} {G : GT} {o : Nat → Nat → Nat} {X : XS} {p1 : Int32} {r : Int32} {Xr : XS} (hm : X5_subject X p1 = some (r, Xr)) : CtI l D cy cz G yX5_subject cX5_subject 3 (some .int) 2 42 [.ref (o 9 0), .int p1] (cPT o cy cz X) (cPT o cy cz Xr) r := by
  refine ct_i (own := "PumpTalk") (by decide) rfl (Nat.le_of_ble_eq_true rfl) ?_
  intro p e s m below meth c ls A C hr hlk hW hl
  have hx := C.1
  have hb := C.2.1
  have hl : lv_has ls 3 [(0, .ref (o 9 0)), (1, .int p1)] := hl
  unfold X5_subject at hm
  refine lv_iload_n hx hb dX5_subject_0 rfl (lv_at hl 1 rfl) ?_
  obtain ⟨v2, e1, hm⟩ := mi_bind hm
  refine cS_i (As := [.int p1]) (rest := []) C hW (c_X5_isNoSubject e1) kX5_isNoSubject q308 rfl rfl hl.1 ⟨Nat.le_of_ble_eq_true rfl, Nat.le_of_ble_eq_true rfl⟩ ⟨Nat.le_refl 0, Nat.le_refl 0⟩ (Nat.le_of_ble_eq_true rfl) dX5_subject_1 (fun H locs hW => ?_)
  refine lv_if_eq (tgt := 14) hx hb dX5_subject_4 (by decide) (fun hc3 => ?_) (fun hc3 => ?_)
  · rw [if_pos hc3] at hm
    refine lv_aload_n hx hb dX5_subject_14 rfl (lv_at hl 0 rfl) ?_
    refine gP_square C hW q199 dX5_subject_15 ?_
    refine gSq_topic C (wd_0 hW) q109 dX5_subject_18 ?_
    refine lv_istore_n (lv' := [(2, .int (X 0 11 7)), (0, .ref (o 9 0)), (1, .int p1)]) hx hb dX5_subject_21 rfl hl (by decide) rfl (fun ls hl => ?_)
    refine lv_aload_n hx hb dX5_subject_22 rfl (lv_at hl 1 rfl) ?_
    refine gP_square C hW q199 dX5_subject_23 ?_
    refine lv_iload_n hx hb dX5_subject_26 rfl (lv_at hl 2 rfl) ?_
    refine pP0_topic C hW q109 dX5_subject_27 (fun H locs hW => ?_)
    obtain ⟨s4, e5, hm⟩ := mi_bind hm
    rw [Option.some.inj e5] at hW
    refine lv_iload_n hx hb dX5_subject_30 rfl (lv_at hl 0 rfl) ?_
    obtain ⟨rfl, rfl⟩ := Prod.mk.inj (Option.some.inj hm)
    exact en_i C hr hlk hW dX5_subject_31
  · rw [if_neg hc3] at hm
    refine lv_aload_n hx hb dX5_subject_7 rfl (lv_at hl 0 rfl) ?_
    refine lv_ldc hx hb C.2.2.2.1 (C.2.2.2.2.1 _ q231) dX5_subject_8 ?_
    obtain ⟨q7, e6, hm⟩ := mi_bind hm
    refine cs_i (q0 := 0) (As := [.int (-1000001 : Int32)]) (rest := []) C hW (c_X5_found e6) kX5_found q232 rfl rfl rfl rfl rfl hl.1 ⟨Nat.le_of_ble_eq_true rfl, Nat.le_of_ble_eq_true rfl⟩ ⟨Nat.le_refl 0, Nat.le_refl 0⟩ (Nat.le_of_ble_eq_true rfl) dX5_subject_10 (fun H locs hW => ?_)
    obtain ⟨rfl, rfl⟩ := Prod.mk.inj (Option.some.inj hm)
    exact en_i C hr hlk hW dX5_subject_13
theorem kX5_subject : KM yX5_subject cX5_subject 3 (some .int) 1 := ⟨q356, q357, q67, q358, by decide +kernel, by decide +kernel, by decide +kernel⟩
def X5_go (X : XS) (p1 : Int32) : Option (Int32 × XS) := (X5_isOutside p1 (1 : Int32) (100 : Int32)).bind fun v2 => if v2 = (0 : Int32) then (if ((X 0 11 5) + p1) ≤ (99999 : Int32) then ((X4_passMinutes (X 0) p1).bind fun s6 => some (((va_up X 0 s6) 0 11 6), va_up X 0 s6)) else ((X5_found X (-1000005 : Int32)).bind fun q8 => some (q8.1, q8.2))) else ((X5_found X (-1000001 : Int32)).bind fun q10 => some (q10.1, q10.2))
set_option maxHeartbeats 4000000 in
set_option maxRecDepth 100000 in
theorem c_X5_go {l : Launch} {D : va_G} {cy cz : ClassId} {G : GT} {o : Nat → Nat → Nat} {X : XS} {p1 : Int32} {r : Int32} {Xr : XS} (hm : X5_go X p1 = some (r, Xr)) : CtI l D cy cz G yX5_go cX5_go 2 (some .int) 4 94 [.ref (o 9 0), .int p1] (cPT o cy cz X) (cPT o cy cz Xr) r := by
  refine ct_i (own := "PumpTalk") (by decide) rfl (Nat.le_of_ble_eq_true rfl) ?_
  intro p e s m below meth c ls A C hr hlk hW hl
  have hx := C.1
  have hb := C.2.1
  have hl : lv_has ls 2 [(0, .ref (o 9 0)), (1, .int p1)] := hl
  unfold X5_go at hm
  refine lv_iload_n hx hb dX5_go_0 rfl (lv_at hl 1 rfl) ?_
  refine lv_iconst (v := 1) hx hb dX5_go_1 (by decide) ?_
  refine lv_bipush (v := 100) hx hb dX5_go_2 (by decide) ?_
  obtain ⟨v2, e1, hm⟩ := mi_bind hm
  refine cS_i (As := [.int p1, .int (1 : Int32), .int (100 : Int32)]) (rest := []) C hW (c_X5_isOutside e1) kX5_isOutside q228 rfl rfl hl.1 ⟨Nat.le_of_ble_eq_true rfl, Nat.le_of_ble_eq_true rfl⟩ ⟨Nat.le_refl 0, Nat.le_refl 0⟩ (Nat.le_of_ble_eq_true rfl) dX5_go_4 (fun H locs hW => ?_)
  refine lv_if_eq (tgt := 17) hx hb dX5_go_7 (by decide) (fun hc3 => ?_) (fun hc3 => ?_)
  · rw [if_pos hc3] at hm
    refine lv_aload_n hx hb dX5_go_17 rfl (lv_at hl 0 rfl) ?_
    refine gP_square C hW q199 dX5_go_18 ?_
    refine gSq_minute C (wd_0 hW) q104 dX5_go_21 ?_
    refine lv_iload_n hx hb dX5_go_24 rfl (lv_at hl 1 rfl) ?_
    refine lv_iadd hx hb dX5_go_25 ?_
    refine lv_ldc hx hb C.2.2.2.1 (C.2.2.2.2.1 _ q363) dX5_go_26 ?_
    refine lv_icmp_le (tgt := 38) hx hb dX5_go_28 (by decide) (fun hc4 => ?_) (fun hc4 => ?_)
    · rw [if_pos hc4] at hm
      refine lv_aload_n hx hb dX5_go_38 rfl (lv_at hl 0 rfl) ?_
      refine gP_square C hW q199 dX5_go_39 ?_
      refine lv_iload_n hx hb dX5_go_42 rfl (lv_at hl 1 rfl) ?_
      obtain ⟨s6, e5, hm⟩ := mi_bind hm
      refine cq0_v_s (As := [.int p1]) (rest := []) C hW (c_X4_passMinutes e5) kX4_passMinutes q365 rfl rfl rfl hl.1 ⟨Nat.le_of_ble_eq_true rfl, Nat.le_of_ble_eq_true rfl⟩ ⟨Nat.le_refl 0, Nat.le_refl 0⟩ (Nat.le_of_ble_eq_true rfl) dX5_go_43 (fun H locs hW => ?_)
      refine lv_aload_n hx hb dX5_go_46 rfl (lv_at hl 0 rfl) ?_
      refine gP_square C hW q199 dX5_go_47 ?_
      refine gSq_water C (wd_0 hW) q106 dX5_go_50 ?_
      obtain ⟨rfl, rfl⟩ := Prod.mk.inj (Option.some.inj hm)
      exact en_i C hr hlk hW dX5_go_53
    · rw [if_neg hc4] at hm
      refine lv_aload_n hx hb dX5_go_31 rfl (lv_at hl 0 rfl) ?_
      refine lv_ldc hx hb C.2.2.2.1 (C.2.2.2.2.1 _ q364) dX5_go_32 ?_
      obtain ⟨q8, e7, hm⟩ := mi_bind hm
      refine cs_i (q0 := 0) (As := [.int (-1000005 : Int32)]) (rest := []) C hW (c_X5_found e7) kX5_found q232 rfl rfl rfl rfl rfl hl.1 ⟨Nat.le_of_ble_eq_true rfl, Nat.le_of_ble_eq_true rfl⟩ ⟨Nat.le_refl 0, Nat.le_refl 0⟩ (Nat.le_of_ble_eq_true rfl) dX5_go_34 (fun H locs hW => ?_)
      obtain ⟨rfl, rfl⟩ := Prod.mk.inj (Option.some.inj hm)
      exact en_i C hr hlk hW dX5_go_37
  · rw [if_neg hc3] at hm
    refine lv_aload_n hx hb dX5_go_10 rfl (lv_at hl 0 rfl) ?_
    refine lv_ldc hx hb C.2.2.2.1 (C.2.2.2.2.1 _ q231) dX5_go_11 ?_
    obtain ⟨q10, e9, hm⟩ := mi_bind hm
    refine cs_i (q0 := 0) (As := [.int (-1000001 : Int32)]) (rest := []) C hW (c_X5_found e9) kX5_found q232 rfl rfl rfl rfl rfl hl.1 ⟨Nat.le_of_ble_eq_true rfl, Nat.le_of_ble_eq_true rfl⟩ ⟨Nat.le_refl 0, Nat.le_refl 0⟩ (Nat.le_of_ble_eq_true rfl) dX5_go_13 (fun H locs hW => ?_)
    obtain ⟨rfl, rfl⟩ := Prod.mk.inj (Option.some.inj hm)
    exact en_i C hr hlk hW dX5_go_16
theorem kX5_go : KM yX5_go cX5_go 2 (some .int) 1 := ⟨q360, q361, q67, q362, by decide +kernel, by decide +kernel, by decide +kernel⟩
def X5_now (X : XS) (p1 : Int32) : Option (Int32 × XS) := if p1 = (0 : Int32) then (some ((X 0 11 5), X)) else (if p1 = (1 : Int32) then (some ((X 0 11 6), X)) else (if p1 = (2 : Int32) then (some ((X 0 11 7), X)) else (if p1 = (3 : Int32) then ((X4_isManned (X 0)).bind fun v6 => if v6 = (0 : Int32) then (some ((-1 : Int32), X)) else ((X5_pairNumber (X 0 11 8) (X 0 11 9)).bind fun v9 => some (v9, X))) else (if p1 = (4 : Int32) then ((X4_quarrelSet (X 0)).bind fun v12 => some (v12, X)) else (if p1 = (5 : Int32) then ((X4_allVoices (X 0)).bind fun v15 => some (v15, X)) else ((X5_found X (-1000001 : Int32)).bind fun q17 => some (q17.1, q17.2)))))))
set_option maxHeartbeats 4000000 in
set_option maxRecDepth 100000 in
theorem c_X5_now {l : Launch} {D : va_G} {cy cz : ClassId} {G : GT} {o : Nat → Nat → Nat} {X : XS} {p1 : Int32} {r : Int32} {Xr : XS} (hm : X5_now X p1 = some (r, Xr)) : CtI l D cy cz G yX5_now cX5_now 2 (some .int) 3 67 [.ref (o 9 0), .int p1] (cPT o cy cz X) (cPT o cy cz Xr) r := by
  refine ct_i (own := "PumpTalk") (by decide) rfl (Nat.le_of_ble_eq_true rfl) ?_
  intro p e s m below meth c ls A C hr hlk hW hl
  have hx := C.1
  have hb := C.2.1
  have hl : lv_has ls 2 [(0, .ref (o 9 0)), (1, .int p1)] := hl
  unfold X5_now at hm
  refine lv_iload_n hx hb dX5_now_0 rfl (lv_at hl 1 rfl) ?_
  by_cases ht1 : p1 = (0 : Int32)
  · rw [if_pos ht1] at hm
    refine lv_tableIn (tgt := 40) (off := 39) hx hb dX5_now_1 (by rw [ht1]; decide) (by rw [ht1]; decide) (by rw [ht1]; rfl) (by decide) ?_
    refine lv_aload_n hx hb dX5_now_40 rfl (lv_at hl 0 rfl) ?_
    refine gP_square C hW q199 dX5_now_41 ?_
    refine gSq_minute C (wd_0 hW) q104 dX5_now_44 ?_
    obtain ⟨rfl, rfl⟩ := Prod.mk.inj (Option.some.inj hm)
    exact en_i C hr hlk hW dX5_now_47
  · rw [if_neg ht1] at hm
    by_cases ht2 : p1 = (1 : Int32)
    · rw [if_pos ht2] at hm
      refine lv_tableIn (tgt := 48) (off := 47) hx hb dX5_now_1 (by rw [ht2]; decide) (by rw [ht2]; decide) (by rw [ht2]; rfl) (by decide) ?_
      refine lv_aload_n hx hb dX5_now_48 rfl (lv_at hl 0 rfl) ?_
      refine gP_square C hW q199 dX5_now_49 ?_
      refine gSq_water C (wd_0 hW) q106 dX5_now_52 ?_
      obtain ⟨rfl, rfl⟩ := Prod.mk.inj (Option.some.inj hm)
      exact en_i C hr hlk hW dX5_now_55
    · rw [if_neg ht2] at hm
      by_cases ht3 : p1 = (2 : Int32)
      · rw [if_pos ht3] at hm
        refine lv_tableIn (tgt := 56) (off := 55) hx hb dX5_now_1 (by rw [ht3]; decide) (by rw [ht3]; decide) (by rw [ht3]; rfl) (by decide) ?_
        refine lv_aload_n hx hb dX5_now_56 rfl (lv_at hl 0 rfl) ?_
        refine gP_square C hW q199 dX5_now_57 ?_
        refine gSq_topic C (wd_0 hW) q109 dX5_now_60 ?_
        obtain ⟨rfl, rfl⟩ := Prod.mk.inj (Option.some.inj hm)
        exact en_i C hr hlk hW dX5_now_63
      · rw [if_neg ht3] at hm
        by_cases ht4 : p1 = (3 : Int32)
        · rw [if_pos ht4] at hm
          refine lv_tableIn (tgt := 64) (off := 63) hx hb dX5_now_1 (by rw [ht4]; decide) (by rw [ht4]; decide) (by rw [ht4]; rfl) (by decide) ?_
          refine lv_aload_n hx hb dX5_now_64 rfl (lv_at hl 0 rfl) ?_
          refine gP_square C hW q199 dX5_now_65 ?_
          obtain ⟨v6, e5, hm⟩ := mi_bind hm
          refine cq0_i_p (As := []) (rest := []) C hW (c_X4_isManned e5) kX4_isManned q350 rfl rfl rfl hl.1 ⟨Nat.le_of_ble_eq_true rfl, Nat.le_of_ble_eq_true rfl⟩ ⟨Nat.le_refl 0, Nat.le_refl 0⟩ (Nat.le_of_ble_eq_true rfl) dX5_now_68 (fun H locs hW => ?_)
          refine lv_if_eq (tgt := 94) hx hb dX5_now_71 (by decide) (fun hc7 => ?_) (fun hc7 => ?_)
          · rw [if_pos hc7] at hm
            refine lv_iconst (v := -1) hx hb dX5_now_94 (by decide) ?_
            obtain ⟨rfl, rfl⟩ := Prod.mk.inj (Option.some.inj hm)
            exact en_i C hr hlk hW dX5_now_95
          · rw [if_neg hc7] at hm
            refine lv_aload_n hx hb dX5_now_74 rfl (lv_at hl 0 rfl) ?_
            refine gP_square C hW q199 dX5_now_75 ?_
            refine gSq_first C (wd_0 hW) q111 dX5_now_78 ?_
            refine lv_aload_n hx hb dX5_now_81 rfl (lv_at hl 0 rfl) ?_
            refine gP_square C hW q199 dX5_now_82 ?_
            refine gSq_second C (wd_0 hW) q113 dX5_now_85 ?_
            obtain ⟨v9, e8, hm⟩ := mi_bind hm
            refine cS_i (As := [.int (X 0 11 8), .int (X 0 11 9)]) (rest := []) C hW (c_X5_pairNumber e8) kX5_pairNumber q389 rfl rfl hl.1 ⟨Nat.le_of_ble_eq_true rfl, Nat.le_of_ble_eq_true rfl⟩ ⟨Nat.le_refl 0, Nat.le_refl 0⟩ (Nat.le_of_ble_eq_true rfl) dX5_now_88 (fun H locs hW => ?_)
            refine lv_goto (tgt := 95) hx hb dX5_now_91 (by decide) ?_
            obtain ⟨rfl, rfl⟩ := Prod.mk.inj (Option.some.inj hm)
            exact en_i C hr hlk hW dX5_now_95
        · rw [if_neg ht4] at hm
          by_cases ht10 : p1 = (4 : Int32)
          · rw [if_pos ht10] at hm
            refine lv_tableIn (tgt := 96) (off := 95) hx hb dX5_now_1 (by rw [ht10]; decide) (by rw [ht10]; decide) (by rw [ht10]; rfl) (by decide) ?_
            refine lv_aload_n hx hb dX5_now_96 rfl (lv_at hl 0 rfl) ?_
            refine gP_square C hW q199 dX5_now_97 ?_
            obtain ⟨v12, e11, hm⟩ := mi_bind hm
            refine cq0_i_p (As := []) (rest := []) C hW (c_X4_quarrelSet e11) kX4_quarrelSet q330 rfl rfl rfl hl.1 ⟨Nat.le_of_ble_eq_true rfl, Nat.le_of_ble_eq_true rfl⟩ ⟨Nat.le_refl 0, Nat.le_refl 0⟩ (Nat.le_of_ble_eq_true rfl) dX5_now_100 (fun H locs hW => ?_)
            obtain ⟨rfl, rfl⟩ := Prod.mk.inj (Option.some.inj hm)
            exact en_i C hr hlk hW dX5_now_103
          · rw [if_neg ht10] at hm
            by_cases ht13 : p1 = (5 : Int32)
            · rw [if_pos ht13] at hm
              refine lv_tableIn (tgt := 104) (off := 103) hx hb dX5_now_1 (by rw [ht13]; decide) (by rw [ht13]; decide) (by rw [ht13]; rfl) (by decide) ?_
              refine lv_aload_n hx hb dX5_now_104 rfl (lv_at hl 0 rfl) ?_
              refine gP_square C hW q199 dX5_now_105 ?_
              obtain ⟨v15, e14, hm⟩ := mi_bind hm
              refine cq0_i_p (As := []) (rest := []) C hW (c_X4_allVoices e14) kX4_allVoices q392 rfl rfl rfl hl.1 ⟨Nat.le_of_ble_eq_true rfl, Nat.le_of_ble_eq_true rfl⟩ ⟨Nat.le_refl 0, Nat.le_refl 0⟩ (Nat.le_of_ble_eq_true rfl) dX5_now_108 (fun H locs hW => ?_)
              obtain ⟨rfl, rfl⟩ := Prod.mk.inj (Option.some.inj hm)
              exact en_i C hr hlk hW dX5_now_111
            · rw [if_neg ht13] at hm
              refine lv_tableOut (tgt := 112) hx hb dX5_now_1 (by have ht := tab_out (x := p1) 0 6 (by decide) (fun k hk => by rcases (show k = 0 ∨ k = 1 ∨ k = 2 ∨ k = 3 ∨ k = 4 ∨ k = 5 by omega) with rfl | rfl | rfl | rfl | rfl | rfl <;> first | exact ht1 | exact ht2 | exact ht3 | exact ht4 | exact ht10 | exact ht13); omega) (by decide) ?_
              refine lv_aload_n hx hb dX5_now_112 rfl (lv_at hl 0 rfl) ?_
              refine lv_ldc hx hb C.2.2.2.1 (C.2.2.2.2.1 _ q231) dX5_now_113 ?_
              obtain ⟨q17, e16, hm⟩ := mi_bind hm
              refine cs_i (q0 := 0) (As := [.int (-1000001 : Int32)]) (rest := []) C hW (c_X5_found e16) kX5_found q232 rfl rfl rfl rfl rfl hl.1 ⟨Nat.le_of_ble_eq_true rfl, Nat.le_of_ble_eq_true rfl⟩ ⟨Nat.le_refl 0, Nat.le_refl 0⟩ (Nat.le_of_ble_eq_true rfl) dX5_now_115 (fun H locs hW => ?_)
              obtain ⟨rfl, rfl⟩ := Prod.mk.inj (Option.some.inj hm)
              exact en_i C hr hlk hW dX5_now_118
theorem kX5_now : KM yX5_now cX5_now 2 (some .int) 1 := ⟨q386, q387, q67, q388, by decide +kernel, by decide +kernel, by decide +kernel⟩
def X5_ahead (X : XS) (p1 : Int32) : Option (Int32 × XS) := (X5_isOutside p1 (0 : Int32) (200 : Int32)).bind fun v2 => if v2 = (0 : Int32) then ((X4_takeOver (pr2 (X 1) (X 0))).bind fun s5 => (X4_passMinutes ((va_up X 1 (s5 0)) 1) p1).bind fun s7 => some (((va_up (va_up X 1 (s5 0)) 1 s7) 1 11 6), va_up (va_up X 1 (s5 0)) 1 s7)) else ((X5_found X (-1000001 : Int32)).bind fun q9 => some (q9.1, q9.2))
set_option maxHeartbeats 4000000 in
set_option maxRecDepth 100000 in
theorem c_X5_ahead {l : Launch} {D : va_G} {cy cz : ClassId} {G : GT} {o : Nat → Nat → Nat} {X : XS} {p1 : Int32} {r : Int32} {Xr : XS} (hm : X5_ahead X p1 = some (r, Xr)) : CtI l D cy cz G yX5_ahead cX5_ahead 2 (some .int) 4 94 [.ref (o 9 0), .int p1] (cPT o cy cz X) (cPT o cy cz Xr) r := by
  refine ct_i (own := "PumpTalk") (by decide) rfl (Nat.le_of_ble_eq_true rfl) ?_
  intro p e s m below meth c ls A C hr hlk hW hl
  have hx := C.1
  have hb := C.2.1
  have hl : lv_has ls 2 [(0, .ref (o 9 0)), (1, .int p1)] := hl
  unfold X5_ahead at hm
  refine lv_iload_n hx hb dX5_ahead_0 rfl (lv_at hl 1 rfl) ?_
  refine lv_iconst (v := 0) hx hb dX5_ahead_1 (by decide) ?_
  refine lv_sipush (v := 200) hx hb dX5_ahead_2 (by decide) ?_
  obtain ⟨v2, e1, hm⟩ := mi_bind hm
  refine cS_i (As := [.int p1, .int (0 : Int32), .int (200 : Int32)]) (rest := []) C hW (c_X5_isOutside e1) kX5_isOutside q228 rfl rfl hl.1 ⟨Nat.le_of_ble_eq_true rfl, Nat.le_of_ble_eq_true rfl⟩ ⟨Nat.le_refl 0, Nat.le_refl 0⟩ (Nat.le_of_ble_eq_true rfl) dX5_ahead_5 (fun H locs hW => ?_)
  refine lv_if_eq (tgt := 18) hx hb dX5_ahead_8 (by decide) (fun hc3 => ?_) (fun hc3 => ?_)
  · rw [if_pos hc3] at hm
    refine lv_aload_n hx hb dX5_ahead_18 rfl (lv_at hl 0 rfl) ?_
    refine gP_trial C hW q200 dX5_ahead_19 ?_
    refine lv_aload_n hx hb dX5_ahead_22 rfl (lv_at hl 0 rfl) ?_
    refine gP_square C hW q199 dX5_ahead_23 ?_
    obtain ⟨s5, e4, hm⟩ := mi_bind hm
    refine cq10_v_s1 (As := [.ref (o 0 0)]) (rest := []) C hW (c_X4_takeOver_2 e4) kX4_takeOver q400 rfl rfl rfl hl.1 ⟨Nat.le_of_ble_eq_true rfl, Nat.le_of_ble_eq_true rfl⟩ ⟨Nat.le_refl 0, Nat.le_refl 0⟩ (Nat.le_of_ble_eq_true rfl) dX5_ahead_26 (fun H locs hW => ?_)
    refine lv_aload_n hx hb dX5_ahead_29 rfl (lv_at hl 0 rfl) ?_
    refine gP_trial C hW q200 dX5_ahead_30 ?_
    refine lv_iload_n hx hb dX5_ahead_33 rfl (lv_at hl 1 rfl) ?_
    obtain ⟨s7, e6, hm⟩ := mi_bind hm
    refine cq1_v_s (As := [.int p1]) (rest := []) C hW (c_X4_passMinutes e6) kX4_passMinutes q365 rfl rfl rfl hl.1 ⟨Nat.le_of_ble_eq_true rfl, Nat.le_of_ble_eq_true rfl⟩ ⟨Nat.le_refl 0, Nat.le_refl 0⟩ (Nat.le_of_ble_eq_true rfl) dX5_ahead_34 (fun H locs hW => ?_)
    refine lv_aload_n hx hb dX5_ahead_37 rfl (lv_at hl 0 rfl) ?_
    refine gP_trial C hW q200 dX5_ahead_38 ?_
    refine gSq_water C (wd_1 hW) q106 dX5_ahead_41 ?_
    obtain ⟨rfl, rfl⟩ := Prod.mk.inj (Option.some.inj hm)
    exact en_i C hr hlk hW dX5_ahead_44
  · rw [if_neg hc3] at hm
    refine lv_aload_n hx hb dX5_ahead_11 rfl (lv_at hl 0 rfl) ?_
    refine lv_ldc hx hb C.2.2.2.1 (C.2.2.2.2.1 _ q231) dX5_ahead_12 ?_
    obtain ⟨q9, e8, hm⟩ := mi_bind hm
    refine cs_i (q0 := 0) (As := [.int (-1000001 : Int32)]) (rest := []) C hW (c_X5_found e8) kX5_found q232 rfl rfl rfl rfl rfl hl.1 ⟨Nat.le_of_ble_eq_true rfl, Nat.le_of_ble_eq_true rfl⟩ ⟨Nat.le_refl 0, Nat.le_refl 0⟩ (Nat.le_of_ble_eq_true rfl) dX5_ahead_14 (fun H locs hW => ?_)
    obtain ⟨rfl, rfl⟩ := Prod.mk.inj (Option.some.inj hm)
    exact en_i C hr hlk hW dX5_ahead_17
theorem kX5_ahead : KM yX5_ahead cX5_ahead 2 (some .int) 1 := ⟨q397, q398, q67, q399, by decide +kernel, by decide +kernel, by decide +kernel⟩
def X5_view_b29 (X : XS) : Option (Int32 × XS) := (X5_found X (-1000001 : Int32)).bind fun q2 => some (q2.1, q2.2)
set_option maxHeartbeats 4000000 in
set_option maxRecDepth 100000 in
theorem wX5_view_b29 {p : Program} {l : Launch} {e : Env} {s : State} {m : MethodId} {below : List Frame} {meth : Method} {c : Code} {D : va_G} {cy cz : ClassId} {G : GT} {A : Nat → Prop} {args : Array Value} {o : Nat → Nat → Nat} {r : Int32} {Xr : XS} (C : Cx p s m args c cX5_view 4 "PumpTalk" D cy cz G A) (hr : meth.sig.returnType = some .int) (hlk : meth.locks = false) : ∀ (X : XS) (H : Heap) (locs : List Loc) (ls : Array Slot), X5_view_b29 X = some (r, Xr) → Wd D A s.heap H locs (cPT o cy cz X) → lv_has ls 4 [(0, .ref (o 9 0))] → W p l e (rmz 4 94) s m args below meth c H locs 0 0 (MQ below (QI D cy cz A (cPT o cy cz Xr) r) args s 0 0 A) (F0 m 29 ls []) := by
  have hx := C.1
  have hb := C.2.1
  intro X H locs ls hm hW hl
  unfold X5_view_b29 at hm
  refine lv_aload_n hx hb dX5_view_29 rfl (lv_at hl 0 rfl) ?_
  refine lv_ldc hx hb C.2.2.2.1 (C.2.2.2.2.1 _ q231) dX5_view_30 ?_
  obtain ⟨q2, e1, hm⟩ := mi_bind hm
  refine cs_i (q0 := 0) (As := [.int (-1000001 : Int32)]) (rest := []) C hW (c_X5_found e1) kX5_found q232 rfl rfl rfl rfl rfl hl.1 ⟨Nat.le_of_ble_eq_true rfl, Nat.le_of_ble_eq_true rfl⟩ ⟨Nat.le_refl 0, Nat.le_refl 0⟩ (Nat.le_of_ble_eq_true rfl) dX5_view_32 (fun H locs hW => ?_)
  obtain ⟨rfl, rfl⟩ := Prod.mk.inj (Option.some.inj hm)
  exact en_i C hr hlk hW dX5_view_35
def X5_view (X : XS) (p1 : Int32) (p2 : Int32) (p3 : Int32) : Option (Int32 × XS) := (X4_isThere (X 0) p1).bind fun v4 => if v4 = (0 : Int32) then (X5_view_b29 X) else ((X5_isNoSubject p2).bind fun v7 => if v7 = (0 : Int32) then ((X5_isOutside p3 (0 : Int32) (200 : Int32)).bind fun v10 => if v10 = (0 : Int32) then ((X4_takeOver (pr2 (X 1) (X 0))).bind fun s13 => (X4_passMinutes ((va_up X 1 (s13 0)) 1) p3).bind fun s15 => (X4_viewOn ((va_up (va_up X 1 (s13 0)) 1 s15) 1) p1 p2).bind fun v17 => some (v17, va_up (va_up X 1 (s13 0)) 1 s15)) else (X5_view_b29 X)) else (X5_view_b29 X))
set_option maxHeartbeats 4000000 in
set_option maxRecDepth 100000 in
theorem c_X5_view {l : Launch} {D : va_G} {cy cz : ClassId} {G : GT} {o : Nat → Nat → Nat} {X : XS} {p1 : Int32} {p2 : Int32} {p3 : Int32} {r : Int32} {Xr : XS} (hm : X5_view X p1 p2 p3 = some (r, Xr)) : CtI l D cy cz G yX5_view cX5_view 4 (some .int) 4 94 [.ref (o 9 0), .int p1, .int p2, .int p3] (cPT o cy cz X) (cPT o cy cz Xr) r := by
  refine ct_i (own := "PumpTalk") (by decide) rfl (Nat.le_of_ble_eq_true rfl) ?_
  intro p e s m below meth c ls A C hr hlk hW hl
  have hx := C.1
  have hb := C.2.1
  have hl : lv_has ls 4 [(0, .ref (o 9 0)), (1, .int p1), (2, .int p2), (3, .int p3)] := hl
  unfold X5_view at hm
  refine lv_aload_n hx hb dX5_view_0 rfl (lv_at hl 0 rfl) ?_
  refine gP_square C hW q199 dX5_view_1 ?_
  refine lv_iload_n hx hb dX5_view_4 rfl (lv_at hl 1 rfl) ?_
  obtain ⟨v4, e3, hm⟩ := mi_bind hm
  refine cq0_i_p (As := [.int p1]) (rest := []) C hW (c_X4_isThere e3) kX4_isThere q253 rfl rfl rfl hl.1 ⟨Nat.le_of_ble_eq_true rfl, Nat.le_of_ble_eq_true rfl⟩ ⟨Nat.le_refl 0, Nat.le_refl 0⟩ (Nat.le_of_ble_eq_true rfl) dX5_view_5 (fun H locs hW => ?_)
  refine lv_if_eq (tgt := 29) hx hb dX5_view_8 (by decide) (fun hc5 => ?_) (fun hc5 => ?_)
  · rw [if_pos hc5] at hm
    exact wX5_view_b29 C hr hlk X _ _ _ hm hW (lv_sub hl [0] rfl)
  · rw [if_neg hc5] at hm
    refine lv_iload_n hx hb dX5_view_11 rfl (lv_at hl 2 rfl) ?_
    obtain ⟨v7, e6, hm⟩ := mi_bind hm
    refine cS_i (As := [.int p2]) (rest := []) C hW (c_X5_isNoSubject e6) kX5_isNoSubject q308 rfl rfl hl.1 ⟨Nat.le_of_ble_eq_true rfl, Nat.le_of_ble_eq_true rfl⟩ ⟨Nat.le_refl 0, Nat.le_refl 0⟩ (Nat.le_of_ble_eq_true rfl) dX5_view_12 (fun H locs hW => ?_)
    refine lv_if_ne (tgt := 29) hx hb dX5_view_15 (by decide) (fun hc8 => ?_) (fun hc8 => ?_)
    · rw [if_neg hc8] at hm
      exact wX5_view_b29 C hr hlk X _ _ _ hm hW (lv_sub hl [0] rfl)
    · rw [if_pos hc8] at hm
      refine lv_iload_n hx hb dX5_view_18 rfl (lv_at hl 3 rfl) ?_
      refine lv_iconst (v := 0) hx hb dX5_view_19 (by decide) ?_
      refine lv_sipush (v := 200) hx hb dX5_view_20 (by decide) ?_
      obtain ⟨v10, e9, hm⟩ := mi_bind hm
      refine cS_i (As := [.int p3, .int (0 : Int32), .int (200 : Int32)]) (rest := []) C hW (c_X5_isOutside e9) kX5_isOutside q228 rfl rfl hl.1 ⟨Nat.le_of_ble_eq_true rfl, Nat.le_of_ble_eq_true rfl⟩ ⟨Nat.le_refl 0, Nat.le_refl 0⟩ (Nat.le_of_ble_eq_true rfl) dX5_view_23 (fun H locs hW => ?_)
      refine lv_if_eq (tgt := 36) hx hb dX5_view_26 (by decide) (fun hc11 => ?_) (fun hc11 => ?_)
      · rw [if_pos hc11] at hm
        refine lv_aload_n hx hb dX5_view_36 rfl (lv_at hl 0 rfl) ?_
        refine gP_trial C hW q200 dX5_view_37 ?_
        refine lv_aload_n hx hb dX5_view_40 rfl (lv_at hl 0 rfl) ?_
        refine gP_square C hW q199 dX5_view_41 ?_
        obtain ⟨s13, e12, hm⟩ := mi_bind hm
        refine cq10_v_s1 (As := [.ref (o 0 0)]) (rest := []) C hW (c_X4_takeOver_2 e12) kX4_takeOver q400 rfl rfl rfl hl.1 ⟨Nat.le_of_ble_eq_true rfl, Nat.le_of_ble_eq_true rfl⟩ ⟨Nat.le_refl 0, Nat.le_refl 0⟩ (Nat.le_of_ble_eq_true rfl) dX5_view_44 (fun H locs hW => ?_)
        refine lv_aload_n hx hb dX5_view_47 rfl (lv_at hl 0 rfl) ?_
        refine gP_trial C hW q200 dX5_view_48 ?_
        refine lv_iload_n hx hb dX5_view_51 rfl (lv_at hl 3 rfl) ?_
        obtain ⟨s15, e14, hm⟩ := mi_bind hm
        refine cq1_v_s (As := [.int p3]) (rest := []) C hW (c_X4_passMinutes e14) kX4_passMinutes q365 rfl rfl rfl hl.1 ⟨Nat.le_of_ble_eq_true rfl, Nat.le_of_ble_eq_true rfl⟩ ⟨Nat.le_refl 0, Nat.le_refl 0⟩ (Nat.le_of_ble_eq_true rfl) dX5_view_52 (fun H locs hW => ?_)
        refine lv_aload_n hx hb dX5_view_55 rfl (lv_at hl 0 rfl) ?_
        refine gP_trial C hW q200 dX5_view_56 ?_
        refine lv_iload_n hx hb dX5_view_59 rfl (lv_at hl 1 rfl) ?_
        refine lv_iload_n hx hb dX5_view_60 rfl (lv_at hl 2 rfl) ?_
        obtain ⟨v17, e16, hm⟩ := mi_bind hm
        refine cq1_i_p (As := [.int p1, .int p2]) (rest := []) C hW (c_X4_viewOn e16) kX4_viewOn q411 rfl rfl rfl hl.1 ⟨Nat.le_of_ble_eq_true rfl, Nat.le_of_ble_eq_true rfl⟩ ⟨Nat.le_refl 0, Nat.le_refl 0⟩ (Nat.le_of_ble_eq_true rfl) dX5_view_61 (fun H locs hW => ?_)
        obtain ⟨rfl, rfl⟩ := Prod.mk.inj (Option.some.inj hm)
        exact en_i C hr hlk hW dX5_view_64
      · rw [if_neg hc11] at hm
        exact wX5_view_b29 C hr hlk X _ _ _ hm hW (lv_sub hl [0] rfl)
theorem kX5_view : KM yX5_view cX5_view 4 (some .int) 3 := ⟨q408, q409, q67, q410, by decide +kernel, by decide +kernel, by decide +kernel⟩
def X5_dry_b13 : Nat → XS → Int32 → Option (Int32 × XS)
  | 0, _, _ => none
  | n + 1, X, x1 => if (300 : Int32) < x1 then ((X5_found X (-1000004 : Int32)).bind fun q3 => some (q3.1, q3.2)) else ((X4_quarrelSet (X 1)).bind fun v5 => if v5 = (0 : Int32) then (some (x1, X)) else ((X4_passMinute (X 1)).bind fun q8 => X5_dry_b13 n (va_up X 1 q8.2) ((x1 + (1 : Int32)))))
set_option maxHeartbeats 4000000 in
set_option maxRecDepth 100000 in
theorem wX5_dry_b13 {p : Program} {l : Launch} {e : Env} {s : State} {m : MethodId} {below : List Frame} {meth : Method} {c : Code} {D : va_G} {cy cz : ClassId} {G : GT} {A : Nat → Prop} {args : Array Value} {o : Nat → Nat → Nat} {r : Int32} {Xr : XS} (C : Cx p s m args c cX5_dry 2 "PumpTalk" D cy cz G A) (hr : meth.sig.returnType = some .int) (hlk : meth.locks = false) : ∀ (n : Nat) (X : XS) (x1 : Int32) (H : Heap) (locs : List Loc) (ls : Array Slot), X5_dry_b13 n X x1 = some (r, Xr) → Wd D A s.heap H locs (cPT o cy cz X) → lv_has ls 2 [(0, .ref (o 9 0)), (1, .int x1)] → W p l e (rmz 3 81) s m args below meth c H locs 0 0 (MQ below (QI D cy cz A (cPT o cy cz Xr) r) args s 0 0 A) (F0 m 13 ls []) := by
  have hx := C.1
  have hb := C.2.1
  intro n
  induction n with
  | zero =>
    intro X x1 H locs ls hm
    rw [X5_dry_b13] at hm
    cases hm
  | succ n ih =>
    intro X x1 H locs ls hm hW hl
    rw [X5_dry_b13] at hm
    refine lv_iload_n hx hb dX5_dry_13 rfl (lv_at hl 1 rfl) ?_
    refine lv_sipush (v := 300) hx hb dX5_dry_14 (by decide) ?_
    refine lv_icmp_gt (tgt := 46) hx hb dX5_dry_17 (by decide) (fun hc1 => ?_) (fun hc1 => ?_)
    · rw [if_pos hc1] at hm
      refine lv_aload_n hx hb dX5_dry_46 rfl (lv_at hl 0 rfl) ?_
      refine lv_ldc hx hb C.2.2.2.1 (C.2.2.2.2.1 _ q417) dX5_dry_47 ?_
      obtain ⟨q3, e2, hm⟩ := mi_bind hm
      refine cs_i (q0 := 0) (As := [.int (-1000004 : Int32)]) (rest := []) C hW (c_X5_found e2) kX5_found q232 rfl rfl rfl rfl rfl hl.1 ⟨Nat.le_of_ble_eq_true rfl, Nat.le_of_ble_eq_true rfl⟩ ⟨Nat.le_refl 0, Nat.le_refl 0⟩ (Nat.le_of_ble_eq_true rfl) dX5_dry_49 (fun H locs hW => ?_)
      obtain ⟨rfl, rfl⟩ := Prod.mk.inj (Option.some.inj hm)
      exact en_i C hr hlk hW dX5_dry_52
    · rw [if_neg hc1] at hm
      refine lv_aload_n hx hb dX5_dry_20 rfl (lv_at hl 0 rfl) ?_
      refine gP_trial C hW q200 dX5_dry_21 ?_
      obtain ⟨v5, e4, hm⟩ := mi_bind hm
      refine cq1_i_p (As := []) (rest := []) C hW (c_X4_quarrelSet e4) kX4_quarrelSet q330 rfl rfl rfl hl.1 ⟨Nat.le_of_ble_eq_true rfl, Nat.le_of_ble_eq_true rfl⟩ ⟨Nat.le_refl 0, Nat.le_refl 0⟩ (Nat.le_of_ble_eq_true rfl) dX5_dry_24 (fun H locs hW => ?_)
      refine lv_if_ne (tgt := 32) hx hb dX5_dry_27 (by decide) (fun hc6 => ?_) (fun hc6 => ?_)
      · rw [if_neg hc6] at hm
        refine lv_aload_n hx hb dX5_dry_32 rfl (lv_at hl 0 rfl) ?_
        refine gP_trial C hW q200 dX5_dry_33 ?_
        obtain ⟨q8, e7, hm⟩ := mi_bind hm
        refine cq1_i_s (As := []) (rest := []) C hW (c_X4_passMinute e7) kX4_passMinute q416 rfl rfl rfl hl.1 ⟨Nat.le_of_ble_eq_true rfl, Nat.le_of_ble_eq_true rfl⟩ ⟨Nat.le_refl 0, Nat.le_refl 0⟩ (Nat.le_of_ble_eq_true rfl) dX5_dry_36 (fun H locs hW => ?_)
        refine lv_pop hx hb dX5_dry_39 rfl ?_
        refine lv_iinc (v := (x1 + (1 : Int32))) (lv' := [(1, .int (x1 + (1 : Int32))), (0, .ref (o 9 0))]) hx hb dX5_dry_40 hl (k := 1) rfl (congrArg (fun z : Int32 => x1 + z) (by decide)) (by decide) rfl (fun ls hl => ?_)
        refine lv_goto (tgt := 13) hx hb dX5_dry_43 (by decide) ?_
        exact ih (va_up X 1 q8.2) ((x1 + (1 : Int32))) _ _ _ hm hW (lv_sub hl [1, 0] rfl)
      · rw [if_pos hc6] at hm
        refine lv_iload_n hx hb dX5_dry_30 rfl (lv_at hl 1 rfl) ?_
        obtain ⟨rfl, rfl⟩ := Prod.mk.inj (Option.some.inj hm)
        exact en_i C hr hlk hW dX5_dry_31
def X5_dry (X : XS) : Option (Int32 × XS) := (X4_takeOver (pr2 (X 1) (X 0))).bind fun s10 => X5_dry_b13 FU (va_up X 1 (s10 0)) (0 : Int32)
set_option maxHeartbeats 4000000 in
set_option maxRecDepth 100000 in
theorem c_X5_dry {l : Launch} {D : va_G} {cy cz : ClassId} {G : GT} {o : Nat → Nat → Nat} {X : XS} {r : Int32} {Xr : XS} (hm : X5_dry X = some (r, Xr)) : CtI l D cy cz G yX5_dry cX5_dry 2 (some .int) 3 81 [.ref (o 9 0)] (cPT o cy cz X) (cPT o cy cz Xr) r := by
  refine ct_i (own := "PumpTalk") (by decide) rfl (Nat.le_of_ble_eq_true rfl) ?_
  intro p e s m below meth c ls A C hr hlk hW hl
  have hx := C.1
  have hb := C.2.1
  have hl : lv_has ls 2 [(0, .ref (o 9 0))] := hl
  unfold X5_dry at hm
  refine lv_aload_n hx hb dX5_dry_0 rfl (lv_at hl 0 rfl) ?_
  refine gP_trial C hW q200 dX5_dry_1 ?_
  refine lv_aload_n hx hb dX5_dry_4 rfl (lv_at hl 0 rfl) ?_
  refine gP_square C hW q199 dX5_dry_5 ?_
  obtain ⟨s10, e9, hm⟩ := mi_bind hm
  refine cq10_v_s1 (As := [.ref (o 0 0)]) (rest := []) C hW (c_X4_takeOver_2 e9) kX4_takeOver q400 rfl rfl rfl hl.1 ⟨Nat.le_of_ble_eq_true rfl, Nat.le_of_ble_eq_true rfl⟩ ⟨Nat.le_refl 0, Nat.le_refl 0⟩ (Nat.le_of_ble_eq_true rfl) dX5_dry_8 (fun H locs hW => ?_)
  refine lv_iconst (v := 0) hx hb dX5_dry_11 (by decide) ?_
  refine lv_istore_n (lv' := [(1, .int (0 : Int32)), (0, .ref (o 9 0))]) hx hb dX5_dry_12 rfl hl (by decide) rfl (fun ls hl => ?_)
  exact wX5_dry_b13 C hr hlk FU (va_up X 1 (s10 0)) (0 : Int32) _ _ _ hm hW (lv_sub hl [1, 0] rfl)
theorem kX5_dry : KM yX5_dry cX5_dry 2 (some .int) 0 := ⟨q413, q414, q67, q415, by decide +kernel, by decide +kernel, by decide +kernel⟩
def X5_filled_b30 : Nat → XS → Int32 → Int32 → Option (Int32 × XS)
  | 0, _, _, _ => none
  | n + 1, X, x1, x2 => if (300 : Int32) < x2 then ((X5_found X (-1000004 : Int32)).bind fun q3 => some (q3.1, q3.2)) else (if (X 1 11 6) < x1 then ((X4_passMinute (X 1)).bind fun q6 => X5_filled_b30 n (va_up X 1 q6.2) x1 ((x2 + (1 : Int32)))) else (some (x2, X)))
set_option maxHeartbeats 4000000 in
set_option maxRecDepth 100000 in
theorem wX5_filled_b30 {p : Program} {l : Launch} {e : Env} {s : State} {m : MethodId} {below : List Frame} {meth : Method} {c : Code} {D : va_G} {cy cz : ClassId} {G : GT} {A : Nat → Prop} {args : Array Value} {o : Nat → Nat → Nat} {r : Int32} {Xr : XS} (C : Cx p s m args c cX5_filled 3 "PumpTalk" D cy cz G A) (hr : meth.sig.returnType = some .int) (hlk : meth.locks = false) : ∀ (n : Nat) (X : XS) (x1 : Int32) (x2 : Int32) (H : Heap) (locs : List Loc) (ls : Array Slot), X5_filled_b30 n X x1 x2 = some (r, Xr) → Wd D A s.heap H locs (cPT o cy cz X) → lv_has ls 3 [(0, .ref (o 9 0)), (1, .int x1), (2, .int x2)] → W p l e (rmz 3 81) s m args below meth c H locs 0 0 (MQ below (QI D cy cz A (cPT o cy cz Xr) r) args s 0 0 A) (F0 m 30 ls []) := by
  have hx := C.1
  have hb := C.2.1
  intro n
  induction n with
  | zero =>
    intro X x1 x2 H locs ls hm
    rw [X5_filled_b30] at hm
    cases hm
  | succ n ih =>
    intro X x1 x2 H locs ls hm hW hl
    rw [X5_filled_b30] at hm
    refine lv_iload_n hx hb dX5_filled_30 rfl (lv_at hl 2 rfl) ?_
    refine lv_sipush (v := 300) hx hb dX5_filled_31 (by decide) ?_
    refine lv_icmp_gt (tgt := 64) hx hb dX5_filled_34 (by decide) (fun hc1 => ?_) (fun hc1 => ?_)
    · rw [if_pos hc1] at hm
      refine lv_aload_n hx hb dX5_filled_64 rfl (lv_at hl 0 rfl) ?_
      refine lv_ldc hx hb C.2.2.2.1 (C.2.2.2.2.1 _ q417) dX5_filled_65 ?_
      obtain ⟨q3, e2, hm⟩ := mi_bind hm
      refine cs_i (q0 := 0) (As := [.int (-1000004 : Int32)]) (rest := []) C hW (c_X5_found e2) kX5_found q232 rfl rfl rfl rfl rfl hl.1 ⟨Nat.le_of_ble_eq_true rfl, Nat.le_of_ble_eq_true rfl⟩ ⟨Nat.le_refl 0, Nat.le_refl 0⟩ (Nat.le_of_ble_eq_true rfl) dX5_filled_67 (fun H locs hW => ?_)
      obtain ⟨rfl, rfl⟩ := Prod.mk.inj (Option.some.inj hm)
      exact en_i C hr hlk hW dX5_filled_70
    · rw [if_neg hc1] at hm
      refine lv_aload_n hx hb dX5_filled_37 rfl (lv_at hl 0 rfl) ?_
      refine gP_trial C hW q200 dX5_filled_38 ?_
      refine gSq_water C (wd_1 hW) q106 dX5_filled_41 ?_
      refine lv_iload_n hx hb dX5_filled_44 rfl (lv_at hl 1 rfl) ?_
      refine lv_icmp_lt (tgt := 50) hx hb dX5_filled_45 (by decide) (fun hc4 => ?_) (fun hc4 => ?_)
      · rw [if_pos hc4] at hm
        refine lv_aload_n hx hb dX5_filled_50 rfl (lv_at hl 0 rfl) ?_
        refine gP_trial C hW q200 dX5_filled_51 ?_
        obtain ⟨q6, e5, hm⟩ := mi_bind hm
        refine cq1_i_s (As := []) (rest := []) C hW (c_X4_passMinute e5) kX4_passMinute q416 rfl rfl rfl hl.1 ⟨Nat.le_of_ble_eq_true rfl, Nat.le_of_ble_eq_true rfl⟩ ⟨Nat.le_refl 0, Nat.le_refl 0⟩ (Nat.le_of_ble_eq_true rfl) dX5_filled_54 (fun H locs hW => ?_)
        refine lv_pop hx hb dX5_filled_57 rfl ?_
        refine lv_iinc (v := (x2 + (1 : Int32))) (lv' := [(2, .int (x2 + (1 : Int32))), (0, .ref (o 9 0)), (1, .int x1)]) hx hb dX5_filled_58 hl (k := 2) rfl (congrArg (fun z : Int32 => x2 + z) (by decide)) (by decide) rfl (fun ls hl => ?_)
        refine lv_goto (tgt := 30) hx hb dX5_filled_61 (by decide) ?_
        exact ih (va_up X 1 q6.2) x1 ((x2 + (1 : Int32))) _ _ _ hm hW (lv_sub hl [1, 2, 0] rfl)
      · rw [if_neg hc4] at hm
        refine lv_iload_n hx hb dX5_filled_48 rfl (lv_at hl 2 rfl) ?_
        obtain ⟨rfl, rfl⟩ := Prod.mk.inj (Option.some.inj hm)
        exact en_i C hr hlk hW dX5_filled_49
def X5_filled (X : XS) (p1 : Int32) : Option (Int32 × XS) := (X5_isOutside p1 (0 : Int32) (999999 : Int32)).bind fun v8 => if v8 = (0 : Int32) then ((X4_takeOver (pr2 (X 1) (X 0))).bind fun s11 => X5_filled_b30 FU (va_up X 1 (s11 0)) p1 (0 : Int32)) else ((X5_found X (-1000001 : Int32)).bind fun q13 => some (q13.1, q13.2))
set_option maxHeartbeats 4000000 in
set_option maxRecDepth 100000 in
theorem c_X5_filled {l : Launch} {D : va_G} {cy cz : ClassId} {G : GT} {o : Nat → Nat → Nat} {X : XS} {p1 : Int32} {r : Int32} {Xr : XS} (hm : X5_filled X p1 = some (r, Xr)) : CtI l D cy cz G yX5_filled cX5_filled 3 (some .int) 3 81 [.ref (o 9 0), .int p1] (cPT o cy cz X) (cPT o cy cz Xr) r := by
  refine ct_i (own := "PumpTalk") (by decide) rfl (Nat.le_of_ble_eq_true rfl) ?_
  intro p e s m below meth c ls A C hr hlk hW hl
  have hx := C.1
  have hb := C.2.1
  have hl : lv_has ls 3 [(0, .ref (o 9 0)), (1, .int p1)] := hl
  unfold X5_filled at hm
  refine lv_iload_n hx hb dX5_filled_0 rfl (lv_at hl 1 rfl) ?_
  refine lv_iconst (v := 0) hx hb dX5_filled_1 (by decide) ?_
  refine lv_ldc hx hb C.2.2.2.1 (C.2.2.2.2.1 _ q422) dX5_filled_2 ?_
  obtain ⟨v8, e7, hm⟩ := mi_bind hm
  refine cS_i (As := [.int p1, .int (0 : Int32), .int (999999 : Int32)]) (rest := []) C hW (c_X5_isOutside e7) kX5_isOutside q228 rfl rfl hl.1 ⟨Nat.le_of_ble_eq_true rfl, Nat.le_of_ble_eq_true rfl⟩ ⟨Nat.le_refl 0, Nat.le_refl 0⟩ (Nat.le_of_ble_eq_true rfl) dX5_filled_4 (fun H locs hW => ?_)
  refine lv_if_eq (tgt := 17) hx hb dX5_filled_7 (by decide) (fun hc9 => ?_) (fun hc9 => ?_)
  · rw [if_pos hc9] at hm
    refine lv_aload_n hx hb dX5_filled_17 rfl (lv_at hl 0 rfl) ?_
    refine gP_trial C hW q200 dX5_filled_18 ?_
    refine lv_aload_n hx hb dX5_filled_21 rfl (lv_at hl 0 rfl) ?_
    refine gP_square C hW q199 dX5_filled_22 ?_
    obtain ⟨s11, e10, hm⟩ := mi_bind hm
    refine cq10_v_s1 (As := [.ref (o 0 0)]) (rest := []) C hW (c_X4_takeOver_2 e10) kX4_takeOver q400 rfl rfl rfl hl.1 ⟨Nat.le_of_ble_eq_true rfl, Nat.le_of_ble_eq_true rfl⟩ ⟨Nat.le_refl 0, Nat.le_refl 0⟩ (Nat.le_of_ble_eq_true rfl) dX5_filled_25 (fun H locs hW => ?_)
    refine lv_iconst (v := 0) hx hb dX5_filled_28 (by decide) ?_
    refine lv_istore_n (lv' := [(2, .int (0 : Int32)), (0, .ref (o 9 0)), (1, .int p1)]) hx hb dX5_filled_29 rfl hl (by decide) rfl (fun ls hl => ?_)
    exact wX5_filled_b30 C hr hlk FU (va_up X 1 (s11 0)) p1 (0 : Int32) _ _ _ hm hW (lv_sub hl [1, 2, 0] rfl)
  · rw [if_neg hc9] at hm
    refine lv_aload_n hx hb dX5_filled_10 rfl (lv_at hl 0 rfl) ?_
    refine lv_ldc hx hb C.2.2.2.1 (C.2.2.2.2.1 _ q231) dX5_filled_11 ?_
    obtain ⟨q13, e12, hm⟩ := mi_bind hm
    refine cs_i (q0 := 0) (As := [.int (-1000001 : Int32)]) (rest := []) C hW (c_X5_found e12) kX5_found q232 rfl rfl rfl rfl rfl hl.1 ⟨Nat.le_of_ble_eq_true rfl, Nat.le_of_ble_eq_true rfl⟩ ⟨Nat.le_refl 0, Nat.le_refl 0⟩ (Nat.le_of_ble_eq_true rfl) dX5_filled_13 (fun H locs hW => ?_)
    obtain ⟨rfl, rfl⟩ := Prod.mk.inj (Option.some.inj hm)
    exact en_i C hr hlk hW dX5_filled_16
theorem kX5_filled : KM yX5_filled cX5_filled 3 (some .int) 1 := ⟨q419, q420, q67, q421, by decide +kernel, by decide +kernel, by decide +kernel⟩
def X5_round_b13 : Nat → XS → Int32 → Option (Int32 × XS)
  | 0, _, _ => none
  | n + 1, X, x1 => if (300 : Int32) < x1 then ((X5_found X (-1000004 : Int32)).bind fun q3 => some (q3.1, q3.2)) else ((X4_passMinute (X 1)).bind fun q5 => (X4_thinksLike (pr2 ((va_up X 1 q5.2) 1) ((va_up X 1 q5.2) 0))).bind fun v7 => if v7 = (0 : Int32) then (X5_round_b13 n (va_up X 1 q5.2) ((x1 + (1 : Int32)))) else (some (x1, va_up X 1 q5.2)))
set_option maxHeartbeats 4000000 in
set_option maxRecDepth 100000 in
theorem wX5_round_b13 {p : Program} {l : Launch} {e : Env} {s : State} {m : MethodId} {below : List Frame} {meth : Method} {c : Code} {D : va_G} {cy cz : ClassId} {G : GT} {A : Nat → Prop} {args : Array Value} {o : Nat → Nat → Nat} {r : Int32} {Xr : XS} (C : Cx p s m args c cX5_round 2 "PumpTalk" D cy cz G A) (hr : meth.sig.returnType = some .int) (hlk : meth.locks = false) : ∀ (n : Nat) (X : XS) (x1 : Int32) (H : Heap) (locs : List Loc) (ls : Array Slot), X5_round_b13 n X x1 = some (r, Xr) → Wd D A s.heap H locs (cPT o cy cz X) → lv_has ls 2 [(0, .ref (o 9 0)), (1, .int x1)] → W p l e (rmz 3 81) s m args below meth c H locs 0 0 (MQ below (QI D cy cz A (cPT o cy cz Xr) r) args s 0 0 A) (F0 m 13 ls []) := by
  have hx := C.1
  have hb := C.2.1
  intro n
  induction n with
  | zero =>
    intro X x1 H locs ls hm
    rw [X5_round_b13] at hm
    cases hm
  | succ n ih =>
    intro X x1 H locs ls hm hW hl
    rw [X5_round_b13] at hm
    refine lv_iload_n hx hb dX5_round_13 rfl (lv_at hl 1 rfl) ?_
    refine lv_sipush (v := 300) hx hb dX5_round_14 (by decide) ?_
    refine lv_icmp_gt (tgt := 50) hx hb dX5_round_17 (by decide) (fun hc1 => ?_) (fun hc1 => ?_)
    · rw [if_pos hc1] at hm
      refine lv_aload_n hx hb dX5_round_50 rfl (lv_at hl 0 rfl) ?_
      refine lv_ldc hx hb C.2.2.2.1 (C.2.2.2.2.1 _ q417) dX5_round_51 ?_
      obtain ⟨q3, e2, hm⟩ := mi_bind hm
      refine cs_i (q0 := 0) (As := [.int (-1000004 : Int32)]) (rest := []) C hW (c_X5_found e2) kX5_found q232 rfl rfl rfl rfl rfl hl.1 ⟨Nat.le_of_ble_eq_true rfl, Nat.le_of_ble_eq_true rfl⟩ ⟨Nat.le_refl 0, Nat.le_refl 0⟩ (Nat.le_of_ble_eq_true rfl) dX5_round_53 (fun H locs hW => ?_)
      obtain ⟨rfl, rfl⟩ := Prod.mk.inj (Option.some.inj hm)
      exact en_i C hr hlk hW dX5_round_56
    · rw [if_neg hc1] at hm
      refine lv_aload_n hx hb dX5_round_20 rfl (lv_at hl 0 rfl) ?_
      refine gP_trial C hW q200 dX5_round_21 ?_
      obtain ⟨q5, e4, hm⟩ := mi_bind hm
      refine cq1_i_s (As := []) (rest := []) C hW (c_X4_passMinute e4) kX4_passMinute q416 rfl rfl rfl hl.1 ⟨Nat.le_of_ble_eq_true rfl, Nat.le_of_ble_eq_true rfl⟩ ⟨Nat.le_refl 0, Nat.le_refl 0⟩ (Nat.le_of_ble_eq_true rfl) dX5_round_24 (fun H locs hW => ?_)
      refine lv_pop hx hb dX5_round_27 rfl ?_
      refine lv_aload_n hx hb dX5_round_28 rfl (lv_at hl 0 rfl) ?_
      refine gP_trial C hW q200 dX5_round_29 ?_
      refine lv_aload_n hx hb dX5_round_32 rfl (lv_at hl 0 rfl) ?_
      refine gP_square C hW q199 dX5_round_33 ?_
      obtain ⟨v7, e6, hm⟩ := mi_bind hm
      refine cq10_i_p (As := [.ref (o 0 0)]) (rest := []) C hW (c_X4_thinksLike_2 e6) kX4_thinksLike q427 rfl rfl rfl hl.1 ⟨Nat.le_of_ble_eq_true rfl, Nat.le_of_ble_eq_true rfl⟩ ⟨Nat.le_refl 0, Nat.le_refl 0⟩ (Nat.le_of_ble_eq_true rfl) dX5_round_36 (fun H locs hW => ?_)
      refine lv_if_eq (tgt := 44) hx hb dX5_round_39 (by decide) (fun hc8 => ?_) (fun hc8 => ?_)
      · rw [if_pos hc8] at hm
        refine lv_iinc (v := (x1 + (1 : Int32))) (lv' := [(1, .int (x1 + (1 : Int32))), (0, .ref (o 9 0))]) hx hb dX5_round_44 hl (k := 1) rfl (congrArg (fun z : Int32 => x1 + z) (by decide)) (by decide) rfl (fun ls hl => ?_)
        refine lv_goto (tgt := 13) hx hb dX5_round_47 (by decide) ?_
        exact ih (va_up X 1 q5.2) ((x1 + (1 : Int32))) _ _ _ hm hW (lv_sub hl [1, 0] rfl)
      · rw [if_neg hc8] at hm
        refine lv_iload_n hx hb dX5_round_42 rfl (lv_at hl 1 rfl) ?_
        obtain ⟨rfl, rfl⟩ := Prod.mk.inj (Option.some.inj hm)
        exact en_i C hr hlk hW dX5_round_43
def X5_round (X : XS) : Option (Int32 × XS) := (X4_takeOver (pr2 (X 1) (X 0))).bind fun s10 => X5_round_b13 FU (va_up X 1 (s10 0)) (1 : Int32)
set_option maxHeartbeats 4000000 in
set_option maxRecDepth 100000 in
theorem c_X5_round {l : Launch} {D : va_G} {cy cz : ClassId} {G : GT} {o : Nat → Nat → Nat} {X : XS} {r : Int32} {Xr : XS} (hm : X5_round X = some (r, Xr)) : CtI l D cy cz G yX5_round cX5_round 2 (some .int) 3 81 [.ref (o 9 0)] (cPT o cy cz X) (cPT o cy cz Xr) r := by
  refine ct_i (own := "PumpTalk") (by decide) rfl (Nat.le_of_ble_eq_true rfl) ?_
  intro p e s m below meth c ls A C hr hlk hW hl
  have hx := C.1
  have hb := C.2.1
  have hl : lv_has ls 2 [(0, .ref (o 9 0))] := hl
  unfold X5_round at hm
  refine lv_aload_n hx hb dX5_round_0 rfl (lv_at hl 0 rfl) ?_
  refine gP_trial C hW q200 dX5_round_1 ?_
  refine lv_aload_n hx hb dX5_round_4 rfl (lv_at hl 0 rfl) ?_
  refine gP_square C hW q199 dX5_round_5 ?_
  obtain ⟨s10, e9, hm⟩ := mi_bind hm
  refine cq10_v_s1 (As := [.ref (o 0 0)]) (rest := []) C hW (c_X4_takeOver_2 e9) kX4_takeOver q400 rfl rfl rfl hl.1 ⟨Nat.le_of_ble_eq_true rfl, Nat.le_of_ble_eq_true rfl⟩ ⟨Nat.le_refl 0, Nat.le_refl 0⟩ (Nat.le_of_ble_eq_true rfl) dX5_round_8 (fun H locs hW => ?_)
  refine lv_iconst (v := 1) hx hb dX5_round_11 (by decide) ?_
  refine lv_istore_n (lv' := [(1, .int (1 : Int32)), (0, .ref (o 9 0))]) hx hb dX5_round_12 rfl hl (by decide) rfl (fun ls hl => ?_)
  exact wX5_round_b13 C hr hlk FU (va_up X 1 (s10 0)) (1 : Int32) _ _ _ hm hW (lv_sub hl [1, 0] rfl)
theorem kX5_round : KM yX5_round cX5_round 2 (some .int) 0 := ⟨q424, q425, q67, q426, by decide +kernel, by decide +kernel, by decide +kernel⟩
def X5_gain (X : XS) (p1 : Int32) (p2 : Int32) (p3 : Int32) : Option (Int32 × XS) := (X4_takeOver (pr2 (X 1) (X 0))).bind fun s2 => (X4_pumpBy ((va_up X 1 (s2 0)) 1) p1 p2 p3).bind fun q4 => some (q4.1, va_up (va_up X 1 (s2 0)) 1 q4.2)
set_option maxHeartbeats 4000000 in
set_option maxRecDepth 100000 in
theorem c_X5_gain {l : Launch} {D : va_G} {cy cz : ClassId} {G : GT} {o : Nat → Nat → Nat} {X : XS} {p1 : Int32} {p2 : Int32} {p3 : Int32} {r : Int32} {Xr : XS} (hm : X5_gain X p1 p2 p3 = some (r, Xr)) : CtI l D cy cz G yX5_gain cX5_gain 4 (some .int) 4 97 [.ref (o 9 0), .int p1, .int p2, .int p3] (cPT o cy cz X) (cPT o cy cz Xr) r := by
  refine ct_i (own := "PumpTalk") (by decide) rfl (Nat.le_of_ble_eq_true rfl) ?_
  intro p e s m below meth c ls A C hr hlk hW hl
  have hx := C.1
  have hb := C.2.1
  have hl : lv_has ls 4 [(0, .ref (o 9 0)), (1, .int p1), (2, .int p2), (3, .int p3)] := hl
  unfold X5_gain at hm
  refine lv_aload_n hx hb dX5_gain_0 rfl (lv_at hl 0 rfl) ?_
  refine gP_trial C hW q200 dX5_gain_1 ?_
  refine lv_aload_n hx hb dX5_gain_4 rfl (lv_at hl 0 rfl) ?_
  refine gP_square C hW q199 dX5_gain_5 ?_
  obtain ⟨s2, e1, hm⟩ := mi_bind hm
  refine cq10_v_s1 (As := [.ref (o 0 0)]) (rest := []) C hW (c_X4_takeOver_2 e1) kX4_takeOver q400 rfl rfl rfl hl.1 ⟨Nat.le_of_ble_eq_true rfl, Nat.le_of_ble_eq_true rfl⟩ ⟨Nat.le_refl 0, Nat.le_refl 0⟩ (Nat.le_of_ble_eq_true rfl) dX5_gain_8 (fun H locs hW => ?_)
  refine lv_aload_n hx hb dX5_gain_11 rfl (lv_at hl 0 rfl) ?_
  refine gP_trial C hW q200 dX5_gain_12 ?_
  refine lv_iload_n hx hb dX5_gain_15 rfl (lv_at hl 1 rfl) ?_
  refine lv_iload_n hx hb dX5_gain_16 rfl (lv_at hl 2 rfl) ?_
  refine lv_iload_n hx hb dX5_gain_17 rfl (lv_at hl 3 rfl) ?_
  obtain ⟨q4, e3, hm⟩ := mi_bind hm
  refine cq1_i_s (As := [.int p1, .int p2, .int p3]) (rest := []) C hW (c_X4_pumpBy e3) kX4_pumpBy q439 rfl rfl rfl hl.1 ⟨Nat.le_of_ble_eq_true rfl, Nat.le_of_ble_eq_true rfl⟩ ⟨Nat.le_refl 0, Nat.le_refl 0⟩ (Nat.le_of_ble_eq_true rfl) dX5_gain_18 (fun H locs hW => ?_)
  obtain ⟨rfl, rfl⟩ := Prod.mk.inj (Option.some.inj hm)
  exact en_i C hr hlk hW dX5_gain_21
theorem kX5_gain : KM yX5_gain cX5_gain 4 (some .int) 3 := ⟨q437, q3, q67, q438, by decide +kernel, by decide +kernel, by decide +kernel⟩
def X5_gives_b19 (X : XS) : Option (Int32 × XS) := (X5_found X (-1000001 : Int32)).bind fun q2 => some (q2.1, q2.2)
set_option maxHeartbeats 4000000 in
set_option maxRecDepth 100000 in
theorem wX5_gives_b19 {p : Program} {l : Launch} {e : Env} {s : State} {m : MethodId} {below : List Frame} {meth : Method} {c : Code} {D : va_G} {cy cz : ClassId} {G : GT} {A : Nat → Prop} {args : Array Value} {o : Nat → Nat → Nat} {r : Int32} {Xr : XS} (C : Cx p s m args c cX5_gives 4 "PumpTalk" D cy cz G A) (hr : meth.sig.returnType = some .int) (hlk : meth.locks = false) : ∀ (X : XS) (H : Heap) (locs : List Loc) (ls : Array Slot), X5_gives_b19 X = some (r, Xr) → Wd D A s.heap H locs (cPT o cy cz X) → lv_has ls 4 [(0, .ref (o 9 0))] → W p l e (rmz 5 120) s m args below meth c H locs 0 0 (MQ below (QI D cy cz A (cPT o cy cz Xr) r) args s 0 0 A) (F0 m 19 ls []) := by
  have hx := C.1
  have hb := C.2.1
  intro X H locs ls hm hW hl
  unfold X5_gives_b19 at hm
  refine lv_aload_n hx hb dX5_gives_19 rfl (lv_at hl 0 rfl) ?_
  refine lv_ldc hx hb C.2.2.2.1 (C.2.2.2.2.1 _ q231) dX5_gives_20 ?_
  obtain ⟨q2, e1, hm⟩ := mi_bind hm
  refine cs_i (q0 := 0) (As := [.int (-1000001 : Int32)]) (rest := []) C hW (c_X5_found e1) kX5_found q232 rfl rfl rfl rfl rfl hl.1 ⟨Nat.le_of_ble_eq_true rfl, Nat.le_of_ble_eq_true rfl⟩ ⟨Nat.le_refl 0, Nat.le_refl 0⟩ (Nat.le_of_ble_eq_true rfl) dX5_gives_22 (fun H locs hW => ?_)
  obtain ⟨rfl, rfl⟩ := Prod.mk.inj (Option.some.inj hm)
  exact en_i C hr hlk hW dX5_gives_25
def X5_gives (X : XS) (p1 : Int32) (p2 : Int32) (p3 : Int32) : Option (Int32 × XS) := (X5_isNoPair X p1 p2).bind fun v4 => if v4 = (0 : Int32) then ((X5_isOutside p3 (0 : Int32) (60 : Int32)).bind fun v7 => if v7 = (0 : Int32) then ((X5_gain X p1 p2 p3).bind fun q10 => some (q10.1, q10.2)) else (X5_gives_b19 X)) else (X5_gives_b19 X)
set_option maxHeartbeats 4000000 in
set_option maxRecDepth 100000 in
theorem c_X5_gives {l : Launch} {D : va_G} {cy cz : ClassId} {G : GT} {o : Nat → Nat → Nat} {X : XS} {p1 : Int32} {p2 : Int32} {p3 : Int32} {r : Int32} {Xr : XS} (hm : X5_gives X p1 p2 p3 = some (r, Xr)) : CtI l D cy cz G yX5_gives cX5_gives 4 (some .int) 5 120 [.ref (o 9 0), .int p1, .int p2, .int p3] (cPT o cy cz X) (cPT o cy cz Xr) r := by
  refine ct_i (own := "PumpTalk") (by decide) rfl (Nat.le_of_ble_eq_true rfl) ?_
  intro p e s m below meth c ls A C hr hlk hW hl
  have hx := C.1
  have hb := C.2.1
  have hl : lv_has ls 4 [(0, .ref (o 9 0)), (1, .int p1), (2, .int p2), (3, .int p3)] := hl
  unfold X5_gives at hm
  refine lv_aload_n hx hb dX5_gives_0 rfl (lv_at hl 0 rfl) ?_
  refine lv_iload_n hx hb dX5_gives_1 rfl (lv_at hl 1 rfl) ?_
  refine lv_iload_n hx hb dX5_gives_2 rfl (lv_at hl 2 rfl) ?_
  obtain ⟨v4, e3, hm⟩ := mi_bind hm
  refine cs_i (q0 := 0) (As := [.int p1, .int p2]) (rest := []) C hW (c_X5_isNoPair e3) kX5_isNoPair q322 rfl rfl rfl rfl rfl hl.1 ⟨Nat.le_of_ble_eq_true rfl, Nat.le_of_ble_eq_true rfl⟩ ⟨Nat.le_refl 0, Nat.le_refl 0⟩ (Nat.le_of_ble_eq_true rfl) dX5_gives_3 (fun H locs hW => ?_)
  refine lv_if_ne (tgt := 19) hx hb dX5_gives_6 (by decide) (fun hc5 => ?_) (fun hc5 => ?_)
  · rw [if_neg hc5] at hm
    exact wX5_gives_b19 C hr hlk X _ _ _ hm hW (lv_sub hl [0] rfl)
  · rw [if_pos hc5] at hm
    refine lv_iload_n hx hb dX5_gives_9 rfl (lv_at hl 3 rfl) ?_
    refine lv_iconst (v := 0) hx hb dX5_gives_10 (by decide) ?_
    refine lv_bipush (v := 60) hx hb dX5_gives_11 (by decide) ?_
    obtain ⟨v7, e6, hm⟩ := mi_bind hm
    refine cS_i (As := [.int p3, .int (0 : Int32), .int (60 : Int32)]) (rest := []) C hW (c_X5_isOutside e6) kX5_isOutside q228 rfl rfl hl.1 ⟨Nat.le_of_ble_eq_true rfl, Nat.le_of_ble_eq_true rfl⟩ ⟨Nat.le_refl 0, Nat.le_refl 0⟩ (Nat.le_of_ble_eq_true rfl) dX5_gives_13 (fun H locs hW => ?_)
    refine lv_if_eq (tgt := 26) hx hb dX5_gives_16 (by decide) (fun hc8 => ?_) (fun hc8 => ?_)
    · rw [if_pos hc8] at hm
      refine lv_aload_n hx hb dX5_gives_26 rfl (lv_at hl 0 rfl) ?_
      refine lv_iload_n hx hb dX5_gives_27 rfl (lv_at hl 1 rfl) ?_
      refine lv_iload_n hx hb dX5_gives_28 rfl (lv_at hl 2 rfl) ?_
      refine lv_iload_n hx hb dX5_gives_29 rfl (lv_at hl 3 rfl) ?_
      obtain ⟨q10, e9, hm⟩ := mi_bind hm
      refine cs_i (q0 := 0) (As := [.int p1, .int p2, .int p3]) (rest := []) C hW (c_X5_gain e9) kX5_gain q435 rfl rfl rfl rfl rfl hl.1 ⟨Nat.le_of_ble_eq_true rfl, Nat.le_of_ble_eq_true rfl⟩ ⟨Nat.le_refl 0, Nat.le_refl 0⟩ (Nat.le_of_ble_eq_true rfl) dX5_gives_30 (fun H locs hW => ?_)
      obtain ⟨rfl, rfl⟩ := Prod.mk.inj (Option.some.inj hm)
      exact en_i C hr hlk hW dX5_gives_33
    · rw [if_neg hc8] at hm
      exact wX5_gives_b19 C hr hlk X _ _ _ hm hW (lv_sub hl [0] rfl)
theorem kX5_gives : KM yX5_gives cX5_gives 4 (some .int) 3 := ⟨q432, q433, q67, q434, by decide +kernel, by decide +kernel, by decide +kernel⟩
def X5_best_b43 (k25 : XS → Int32 → Int32 → Int32 → Int32 → Option (Int32 × XS)) : Nat → XS → Int32 → Int32 → Int32 → Int32 → Int32 → Option (Int32 × XS)
  | 0, _, _, _, _, _, _ => none
  | n + 1, X, x1, x2, x3, x4, x5 => if (X 0 11 4) ≤ x5 then (k25 X x1 x2 x3 ((x4 + (1 : Int32)))) else ((X5_gain X x4 x5 x1).bind fun q3 => if q3.1 ≤ x3 then (X5_best_b43 k25 n q3.2 x1 x2 x3 x4 ((x5 + (1 : Int32)))) else ((X5_pairNumber x4 x5).bind fun v6 => X5_best_b43 k25 n q3.2 x1 v6 q3.1 x4 ((x5 + (1 : Int32)))))
set_option maxHeartbeats 4000000 in
set_option maxRecDepth 100000 in
theorem wX5_best_b43 {p : Program} {l : Launch} {e : Env} {s : State} {m : MethodId} {below : List Frame} {meth : Method} {c : Code} {D : va_G} {cy cz : ClassId} {G : GT} {A : Nat → Prop} {args : Array Value} {o : Nat → Nat → Nat} {r : Int32} {Xr : XS} (C : Cx p s m args c cX5_best 7 "PumpTalk" D cy cz G A) (hr : meth.sig.returnType = some .int) (hlk : meth.locks = false) {k25 : XS → Int32 → Int32 → Int32 → Int32 → Option (Int32 × XS)} (hk25 : ∀ (X : XS) (x1 : Int32) (x2 : Int32) (x3 : Int32) (x4 : Int32) (H : Heap) (locs : List Loc) (ls : Array Slot), k25 X x1 x2 x3 x4 = some (r, Xr) → Wd D A s.heap H locs (cPT o cy cz X) → lv_has ls 7 [(0, .ref (o 9 0)), (1, .int x1), (2, .int x2), (3, .int x3), (4, .int x4)] → W p l e (rmz 5 120) s m args below meth c H locs 0 0 (MQ below (QI D cy cz A (cPT o cy cz Xr) r) args s 0 0 A) (F0 m 25 ls [])) : ∀ (n : Nat) (X : XS) (x1 : Int32) (x2 : Int32) (x3 : Int32) (x4 : Int32) (x5 : Int32) (H : Heap) (locs : List Loc) (ls : Array Slot), X5_best_b43 k25 n X x1 x2 x3 x4 x5 = some (r, Xr) → Wd D A s.heap H locs (cPT o cy cz X) → lv_has ls 7 [(0, .ref (o 9 0)), (1, .int x1), (2, .int x2), (3, .int x3), (4, .int x4), (5, .int x5)] → W p l e (rmz 5 120) s m args below meth c H locs 0 0 (MQ below (QI D cy cz A (cPT o cy cz Xr) r) args s 0 0 A) (F0 m 43 ls []) := by
  have hx := C.1
  have hb := C.2.1
  intro n
  induction n with
  | zero =>
    intro X x1 x2 x3 x4 x5 H locs ls hm
    rw [X5_best_b43] at hm
    cases hm
  | succ n ih =>
    intro X x1 x2 x3 x4 x5 H locs ls hm hW hl
    rw [X5_best_b43] at hm
    refine lv_iload hx hb dX5_best_43 (lv_at hl 5 rfl) ?_
    refine lv_aload_n hx hb dX5_best_45 rfl (lv_at hl 0 rfl) ?_
    refine gP_square C hW q199 dX5_best_46 ?_
    refine gSq_people C (wd_0 hW) q102 dX5_best_49 ?_
    refine lv_icmp_ge (tgt := 89) hx hb dX5_best_52 (by decide) (fun hc1 => ?_) (fun hc1 => ?_)
    · rw [if_pos hc1] at hm
      refine lv_iinc (v := (x4 + (1 : Int32))) (lv' := [(4, .int (x4 + (1 : Int32))), (0, .ref (o 9 0)), (1, .int x1), (2, .int x2), (3, .int x3), (5, .int x5)]) hx hb dX5_best_89 hl (k := 4) rfl (congrArg (fun z : Int32 => x4 + z) (by decide)) (by decide) rfl (fun ls hl => ?_)
      refine lv_goto (tgt := 25) hx hb dX5_best_92 (by decide) ?_
      exact hk25 X x1 x2 x3 ((x4 + (1 : Int32))) _ _ _ hm hW (lv_sub hl [1, 2, 3, 4, 0] rfl)
    · rw [if_neg hc1] at hm
      refine lv_aload_n hx hb dX5_best_55 rfl (lv_at hl 0 rfl) ?_
      refine lv_iload hx hb dX5_best_56 (lv_at hl 4 rfl) ?_
      refine lv_iload hx hb dX5_best_58 (lv_at hl 5 rfl) ?_
      refine lv_iload_n hx hb dX5_best_60 rfl (lv_at hl 1 rfl) ?_
      obtain ⟨q3, e2, hm⟩ := mi_bind hm
      refine cs_i (q0 := 0) (As := [.int x4, .int x5, .int x1]) (rest := []) C hW (c_X5_gain e2) kX5_gain q435 rfl rfl rfl rfl rfl hl.1 ⟨Nat.le_of_ble_eq_true rfl, Nat.le_of_ble_eq_true rfl⟩ ⟨Nat.le_refl 0, Nat.le_refl 0⟩ (Nat.le_of_ble_eq_true rfl) dX5_best_61 (fun H locs hW => ?_)
      refine lv_istore (lv' := [(6, .int q3.1), (0, .ref (o 9 0)), (1, .int x1), (2, .int x2), (3, .int x3), (4, .int x4), (5, .int x5)]) hx hb dX5_best_64 hl (by decide) rfl (fun ls hl => ?_)
      refine lv_iload hx hb dX5_best_66 (lv_at hl 0 rfl) ?_
      refine lv_iload_n hx hb dX5_best_68 rfl (lv_at hl 4 rfl) ?_
      refine lv_icmp_le (tgt := 83) hx hb dX5_best_69 (by decide) (fun hc4 => ?_) (fun hc4 => ?_)
      · rw [if_pos hc4] at hm
        refine lv_iinc (v := (x5 + (1 : Int32))) (lv' := [(5, .int (x5 + (1 : Int32))), (6, .int q3.1), (0, .ref (o 9 0)), (1, .int x1), (2, .int x2), (3, .int x3), (4, .int x4)]) hx hb dX5_best_83 hl (k := 6) rfl (congrArg (fun z : Int32 => x5 + z) (by decide)) (by decide) rfl (fun ls hl => ?_)
        refine lv_goto (tgt := 43) hx hb dX5_best_86 (by decide) ?_
        exact ih q3.2 x1 x2 x3 x4 ((x5 + (1 : Int32))) _ _ _ hm hW (lv_sub hl [2, 3, 4, 5, 6, 0] rfl)
      · rw [if_neg hc4] at hm
        refine lv_iload hx hb dX5_best_72 (lv_at hl 0 rfl) ?_
        refine lv_istore_n (lv' := [(3, .int q3.1), (6, .int q3.1), (0, .ref (o 9 0)), (1, .int x1), (2, .int x2), (4, .int x4), (5, .int x5)]) hx hb dX5_best_74 rfl hl (by decide) rfl (fun ls hl => ?_)
        refine lv_iload hx hb dX5_best_75 (lv_at hl 5 rfl) ?_
        refine lv_iload hx hb dX5_best_77 (lv_at hl 6 rfl) ?_
        obtain ⟨v6, e5, hm⟩ := mi_bind hm
        refine cS_i (As := [.int x4, .int x5]) (rest := []) C hW (c_X5_pairNumber e5) kX5_pairNumber q389 rfl rfl hl.1 ⟨Nat.le_of_ble_eq_true rfl, Nat.le_of_ble_eq_true rfl⟩ ⟨Nat.le_refl 0, Nat.le_refl 0⟩ (Nat.le_of_ble_eq_true rfl) dX5_best_79 (fun H locs hW => ?_)
        refine lv_istore_n (lv' := [(2, .int v6), (3, .int q3.1), (6, .int q3.1), (0, .ref (o 9 0)), (1, .int x1), (4, .int x4), (5, .int x5)]) hx hb dX5_best_82 rfl hl (by decide) rfl (fun ls hl => ?_)
        refine lv_iinc (v := (x5 + (1 : Int32))) (lv' := [(5, .int (x5 + (1 : Int32))), (2, .int v6), (3, .int q3.1), (6, .int q3.1), (0, .ref (o 9 0)), (1, .int x1), (4, .int x4)]) hx hb dX5_best_83 hl (k := 6) rfl (congrArg (fun z : Int32 => x5 + z) (by decide)) (by decide) rfl (fun ls hl => ?_)
        refine lv_goto (tgt := 43) hx hb dX5_best_86 (by decide) ?_
        exact ih q3.2 x1 v6 q3.1 x4 ((x5 + (1 : Int32))) _ _ _ hm hW (lv_sub hl [4, 5, 1, 2, 6, 0] rfl)
def X5_best_b25 : Nat → XS → Int32 → Int32 → Int32 → Int32 → Option (Int32 × XS)
  | 0, _, _, _, _, _ => none
  | n + 1, X, x1, x2, x3, x4 => if (X 0 11 4) ≤ x4 then (if x2 = (-1000004 : Int32) then ((X5_found X (-1000004 : Int32)).bind fun q10 => some (q10.1, q10.2)) else (some (x2, X))) else (X5_best_b43 (X5_best_b25 n) FU X x1 x2 x3 x4 ((x4 + (1 : Int32))))
set_option maxHeartbeats 4000000 in
set_option maxRecDepth 100000 in
theorem wX5_best_b25 {p : Program} {l : Launch} {e : Env} {s : State} {m : MethodId} {below : List Frame} {meth : Method} {c : Code} {D : va_G} {cy cz : ClassId} {G : GT} {A : Nat → Prop} {args : Array Value} {o : Nat → Nat → Nat} {r : Int32} {Xr : XS} (C : Cx p s m args c cX5_best 7 "PumpTalk" D cy cz G A) (hr : meth.sig.returnType = some .int) (hlk : meth.locks = false) : ∀ (n : Nat) (X : XS) (x1 : Int32) (x2 : Int32) (x3 : Int32) (x4 : Int32) (H : Heap) (locs : List Loc) (ls : Array Slot), X5_best_b25 n X x1 x2 x3 x4 = some (r, Xr) → Wd D A s.heap H locs (cPT o cy cz X) → lv_has ls 7 [(0, .ref (o 9 0)), (1, .int x1), (2, .int x2), (3, .int x3), (4, .int x4)] → W p l e (rmz 5 120) s m args below meth c H locs 0 0 (MQ below (QI D cy cz A (cPT o cy cz Xr) r) args s 0 0 A) (F0 m 25 ls []) := by
  have hx := C.1
  have hb := C.2.1
  intro n
  induction n with
  | zero =>
    intro X x1 x2 x3 x4 H locs ls hm
    rw [X5_best_b25] at hm
    cases hm
  | succ n ih =>
    intro X x1 x2 x3 x4 H locs ls hm hW hl
    rw [X5_best_b25] at hm
    refine lv_iload hx hb dX5_best_25 (lv_at hl 4 rfl) ?_
    refine lv_aload_n hx hb dX5_best_27 rfl (lv_at hl 0 rfl) ?_
    refine gP_square C hW q199 dX5_best_28 ?_
    refine gSq_people C (wd_0 hW) q102 dX5_best_31 ?_
    refine lv_icmp_ge (tgt := 95) hx hb dX5_best_34 (by decide) (fun hc7 => ?_) (fun hc7 => ?_)
    · rw [if_pos hc7] at hm
      refine lv_iload_n hx hb dX5_best_95 rfl (lv_at hl 2 rfl) ?_
      refine lv_ldc hx hb C.2.2.2.1 (C.2.2.2.2.1 _ q417) dX5_best_96 ?_
      refine lv_icmp_ne (tgt := 110) hx hb dX5_best_98 (by decide) (fun hc8 => ?_) (fun hc8 => ?_)
      · rw [if_neg hc8] at hm
        refine lv_iload_n hx hb dX5_best_110 rfl (lv_at hl 2 rfl) ?_
        obtain ⟨rfl, rfl⟩ := Prod.mk.inj (Option.some.inj hm)
        exact en_i C hr hlk hW dX5_best_111
      · rw [if_pos hc8] at hm
        refine lv_aload_n hx hb dX5_best_101 rfl (lv_at hl 0 rfl) ?_
        refine lv_ldc hx hb C.2.2.2.1 (C.2.2.2.2.1 _ q417) dX5_best_102 ?_
        obtain ⟨q10, e9, hm⟩ := mi_bind hm
        refine cs_i (q0 := 0) (As := [.int (-1000004 : Int32)]) (rest := []) C hW (c_X5_found e9) kX5_found q232 rfl rfl rfl rfl rfl hl.1 ⟨Nat.le_of_ble_eq_true rfl, Nat.le_of_ble_eq_true rfl⟩ ⟨Nat.le_refl 0, Nat.le_refl 0⟩ (Nat.le_of_ble_eq_true rfl) dX5_best_104 (fun H locs hW => ?_)
        refine lv_goto (tgt := 111) hx hb dX5_best_107 (by decide) ?_
        obtain ⟨rfl, rfl⟩ := Prod.mk.inj (Option.some.inj hm)
        exact en_i C hr hlk hW dX5_best_111
    · rw [if_neg hc7] at hm
      refine lv_iload hx hb dX5_best_37 (lv_at hl 4 rfl) ?_
      refine lv_iconst (v := 1) hx hb dX5_best_39 (by decide) ?_
      refine lv_iadd hx hb dX5_best_40 ?_
      refine lv_istore (lv' := [(5, .int (x4 + (1 : Int32))), (0, .ref (o 9 0)), (1, .int x1), (2, .int x2), (3, .int x3), (4, .int x4)]) hx hb dX5_best_41 hl (by decide) rfl (fun ls hl => ?_)
      exact wX5_best_b43 C hr hlk ih FU X x1 x2 x3 x4 ((x4 + (1 : Int32))) _ _ _ hm hW (lv_sub hl [1, 2, 3, 4, 5, 0] rfl)
def X5_best (X : XS) (p1 : Int32) : Option (Int32 × XS) := (X5_isOutside p1 (0 : Int32) (60 : Int32)).bind fun v12 => if v12 = (0 : Int32) then (X5_best_b25 FU X p1 (-1000004 : Int32) (-1 : Int32) (0 : Int32)) else ((X5_found X (-1000001 : Int32)).bind fun q15 => some (q15.1, q15.2))
set_option maxHeartbeats 4000000 in
set_option maxRecDepth 100000 in
theorem c_X5_best {l : Launch} {D : va_G} {cy cz : ClassId} {G : GT} {o : Nat → Nat → Nat} {X : XS} {p1 : Int32} {r : Int32} {Xr : XS} (hm : X5_best X p1 = some (r, Xr)) : CtI l D cy cz G yX5_best cX5_best 7 (some .int) 5 120 [.ref (o 9 0), .int p1] (cPT o cy cz X) (cPT o cy cz Xr) r := by
  refine ct_i (own := "PumpTalk") (by decide) rfl (Nat.le_of_ble_eq_true rfl) ?_
  intro p e s m below meth c ls A C hr hlk hW hl
  have hx := C.1
  have hb := C.2.1
  have hl : lv_has ls 7 [(0, .ref (o 9 0)), (1, .int p1)] := hl
  unfold X5_best at hm
  refine lv_iload_n hx hb dX5_best_0 rfl (lv_at hl 1 rfl) ?_
  refine lv_iconst (v := 0) hx hb dX5_best_1 (by decide) ?_
  refine lv_bipush (v := 60) hx hb dX5_best_2 (by decide) ?_
  obtain ⟨v12, e11, hm⟩ := mi_bind hm
  refine cS_i (As := [.int p1, .int (0 : Int32), .int (60 : Int32)]) (rest := []) C hW (c_X5_isOutside e11) kX5_isOutside q228 rfl rfl hl.1 ⟨Nat.le_of_ble_eq_true rfl, Nat.le_of_ble_eq_true rfl⟩ ⟨Nat.le_refl 0, Nat.le_refl 0⟩ (Nat.le_of_ble_eq_true rfl) dX5_best_4 (fun H locs hW => ?_)
  refine lv_if_eq (tgt := 17) hx hb dX5_best_7 (by decide) (fun hc13 => ?_) (fun hc13 => ?_)
  · rw [if_pos hc13] at hm
    refine lv_ldc hx hb C.2.2.2.1 (C.2.2.2.2.1 _ q417) dX5_best_17 ?_
    refine lv_istore_n (lv' := [(2, .int (-1000004 : Int32)), (0, .ref (o 9 0)), (1, .int p1)]) hx hb dX5_best_19 rfl hl (by decide) rfl (fun ls hl => ?_)
    refine lv_iconst (v := -1) hx hb dX5_best_20 (by decide) ?_
    refine lv_istore_n (lv' := [(3, .int (-1 : Int32)), (2, .int (-1000004 : Int32)), (0, .ref (o 9 0)), (1, .int p1)]) hx hb dX5_best_21 rfl hl (by decide) rfl (fun ls hl => ?_)
    refine lv_iconst (v := 0) hx hb dX5_best_22 (by decide) ?_
    refine lv_istore (lv' := [(4, .int (0 : Int32)), (3, .int (-1 : Int32)), (2, .int (-1000004 : Int32)), (0, .ref (o 9 0)), (1, .int p1)]) hx hb dX5_best_23 hl (by decide) rfl (fun ls hl => ?_)
    exact wX5_best_b25 C hr hlk FU X p1 (-1000004 : Int32) (-1 : Int32) (0 : Int32) _ _ _ hm hW (lv_sub hl [3, 4, 2, 1, 0] rfl)
  · rw [if_neg hc13] at hm
    refine lv_aload_n hx hb dX5_best_10 rfl (lv_at hl 0 rfl) ?_
    refine lv_ldc hx hb C.2.2.2.1 (C.2.2.2.2.1 _ q231) dX5_best_11 ?_
    obtain ⟨q15, e14, hm⟩ := mi_bind hm
    refine cs_i (q0 := 0) (As := [.int (-1000001 : Int32)]) (rest := []) C hW (c_X5_found e14) kX5_found q232 rfl rfl rfl rfl rfl hl.1 ⟨Nat.le_of_ble_eq_true rfl, Nat.le_of_ble_eq_true rfl⟩ ⟨Nat.le_refl 0, Nat.le_refl 0⟩ (Nat.le_of_ble_eq_true rfl) dX5_best_13 (fun H locs hW => ?_)
    obtain ⟨rfl, rfl⟩ := Prod.mk.inj (Option.some.inj hm)
    exact en_i C hr hlk hW dX5_best_16
theorem kX5_best : KM yX5_best cX5_best 7 (some .int) 1 := ⟨q445, q446, q67, q447, by decide +kernel, by decide +kernel, by decide +kernel⟩
def X5_partner_b67 (k37 : XS → Int32 → Int32 → Int32 → Int32 → Int32 → Option (Int32 × XS)) (X : XS) (x1 : Int32) (x2 : Int32) (x3 : Int32) (x4 : Int32) (x5 : Int32) (y0 : Int32) : Option (Int32 × XS) := if y0 ≤ x4 then (k37 X x1 x2 x3 x4 ((x5 + (1 : Int32)))) else (k37 X x1 x2 x5 y0 ((x5 + (1 : Int32))))
set_option maxHeartbeats 4000000 in
set_option maxRecDepth 100000 in
theorem wX5_partner_b67 {p : Program} {l : Launch} {e : Env} {s : State} {m : MethodId} {below : List Frame} {meth : Method} {c : Code} {D : va_G} {cy cz : ClassId} {G : GT} {A : Nat → Prop} {args : Array Value} {o : Nat → Nat → Nat} {r : Int32} {Xr : XS} (C : Cx p s m args c cX5_partner 7 "PumpTalk" D cy cz G A) (hr : meth.sig.returnType = some .int) (hlk : meth.locks = false) {k37 : XS → Int32 → Int32 → Int32 → Int32 → Int32 → Option (Int32 × XS)} (hk37 : ∀ (X : XS) (x1 : Int32) (x2 : Int32) (x3 : Int32) (x4 : Int32) (x5 : Int32) (H : Heap) (locs : List Loc) (ls : Array Slot), k37 X x1 x2 x3 x4 x5 = some (r, Xr) → Wd D A s.heap H locs (cPT o cy cz X) → lv_has ls 7 [(0, .ref (o 9 0)), (1, .int x1), (2, .int x2), (3, .int x3), (4, .int x4), (5, .int x5)] → W p l e (rmz 5 120) s m args below meth c H locs 0 0 (MQ below (QI D cy cz A (cPT o cy cz Xr) r) args s 0 0 A) (F0 m 37 ls [])) : ∀ (X : XS) (x1 : Int32) (x2 : Int32) (x3 : Int32) (x4 : Int32) (x5 : Int32) (y0 : Int32) (H : Heap) (locs : List Loc) (ls : Array Slot), X5_partner_b67 k37 X x1 x2 x3 x4 x5 y0 = some (r, Xr) → Wd D A s.heap H locs (cPT o cy cz X) → lv_has ls 7 [(0, .ref (o 9 0)), (1, .int x1), (2, .int x2), (3, .int x3), (4, .int x4), (5, .int x5)] → W p l e (rmz 5 120) s m args below meth c H locs 0 0 (MQ below (QI D cy cz A (cPT o cy cz Xr) r) args s 0 0 A) (F0 m 67 ls [.int y0]) := by
  have hx := C.1
  have hb := C.2.1
  intro X x1 x2 x3 x4 x5 y0 H locs ls hm hW hl
  unfold X5_partner_b67 at hm
  refine lv_istore (lv' := [(6, .int y0), (0, .ref (o 9 0)), (1, .int x1), (2, .int x2), (3, .int x3), (4, .int x4), (5, .int x5)]) hx hb dX5_partner_67 hl (by decide) rfl (fun ls hl => ?_)
  refine lv_iload hx hb dX5_partner_69 (lv_at hl 0 rfl) ?_
  refine lv_iload hx hb dX5_partner_71 (lv_at hl 5 rfl) ?_
  refine lv_icmp_le (tgt := 83) hx hb dX5_partner_73 (by decide) (fun hc1 => ?_) (fun hc1 => ?_)
  · rw [if_pos hc1] at hm
    refine lv_iinc (v := (x5 + (1 : Int32))) (lv' := [(5, .int (x5 + (1 : Int32))), (6, .int y0), (0, .ref (o 9 0)), (1, .int x1), (2, .int x2), (3, .int x3), (4, .int x4)]) hx hb dX5_partner_83 hl (k := 6) rfl (congrArg (fun z : Int32 => x5 + z) (by decide)) (by decide) rfl (fun ls hl => ?_)
    refine lv_goto (tgt := 37) hx hb dX5_partner_86 (by decide) ?_
    exact hk37 X x1 x2 x3 x4 ((x5 + (1 : Int32))) _ _ _ hm hW (lv_sub hl [2, 3, 4, 5, 6, 0] rfl)
  · rw [if_neg hc1] at hm
    refine lv_iload hx hb dX5_partner_76 (lv_at hl 0 rfl) ?_
    refine lv_istore (lv' := [(4, .int y0), (6, .int y0), (0, .ref (o 9 0)), (1, .int x1), (2, .int x2), (3, .int x3), (5, .int x5)]) hx hb dX5_partner_78 hl (by decide) rfl (fun ls hl => ?_)
    refine lv_iload hx hb dX5_partner_80 (lv_at hl 6 rfl) ?_
    refine lv_istore_n (lv' := [(3, .int x5), (4, .int y0), (6, .int y0), (0, .ref (o 9 0)), (1, .int x1), (2, .int x2), (5, .int x5)]) hx hb dX5_partner_82 rfl hl (by decide) rfl (fun ls hl => ?_)
    refine lv_iinc (v := (x5 + (1 : Int32))) (lv' := [(5, .int (x5 + (1 : Int32))), (3, .int x5), (4, .int y0), (6, .int y0), (0, .ref (o 9 0)), (1, .int x1), (2, .int x2)]) hx hb dX5_partner_83 hl (k := 6) rfl (congrArg (fun z : Int32 => x5 + z) (by decide)) (by decide) rfl (fun ls hl => ?_)
    refine lv_goto (tgt := 37) hx hb dX5_partner_86 (by decide) ?_
    exact hk37 X x1 x2 x5 y0 ((x5 + (1 : Int32))) _ _ _ hm hW (lv_sub hl [4, 5, 6, 1, 2, 0] rfl)
def X5_partner_b37 : Nat → XS → Int32 → Int32 → Int32 → Int32 → Int32 → Option (Int32 × XS)
  | 0, _, _, _, _, _, _ => none
  | n + 1, X, x1, x2, x3, x4, x5 => if (X 0 11 4) ≤ x5 then (if x3 = (-1000004 : Int32) then ((X5_found X (-1000004 : Int32)).bind fun q5 => some (q5.1, q5.2)) else (some (x3, X))) else (if x5 = x1 then (X5_partner_b67 (X5_partner_b37 n) X x1 x2 x3 x4 x5 (-1 : Int32)) else ((X5_gain X x1 x5 x2).bind fun q8 => X5_partner_b67 (X5_partner_b37 n) q8.2 x1 x2 x3 x4 x5 q8.1))
set_option maxHeartbeats 4000000 in
set_option maxRecDepth 100000 in
theorem wX5_partner_b37 {p : Program} {l : Launch} {e : Env} {s : State} {m : MethodId} {below : List Frame} {meth : Method} {c : Code} {D : va_G} {cy cz : ClassId} {G : GT} {A : Nat → Prop} {args : Array Value} {o : Nat → Nat → Nat} {r : Int32} {Xr : XS} (C : Cx p s m args c cX5_partner 7 "PumpTalk" D cy cz G A) (hr : meth.sig.returnType = some .int) (hlk : meth.locks = false) : ∀ (n : Nat) (X : XS) (x1 : Int32) (x2 : Int32) (x3 : Int32) (x4 : Int32) (x5 : Int32) (H : Heap) (locs : List Loc) (ls : Array Slot), X5_partner_b37 n X x1 x2 x3 x4 x5 = some (r, Xr) → Wd D A s.heap H locs (cPT o cy cz X) → lv_has ls 7 [(0, .ref (o 9 0)), (1, .int x1), (2, .int x2), (3, .int x3), (4, .int x4), (5, .int x5)] → W p l e (rmz 5 120) s m args below meth c H locs 0 0 (MQ below (QI D cy cz A (cPT o cy cz Xr) r) args s 0 0 A) (F0 m 37 ls []) := by
  have hx := C.1
  have hb := C.2.1
  intro n
  induction n with
  | zero =>
    intro X x1 x2 x3 x4 x5 H locs ls hm
    rw [X5_partner_b37] at hm
    cases hm
  | succ n ih =>
    intro X x1 x2 x3 x4 x5 H locs ls hm hW hl
    rw [X5_partner_b37] at hm
    refine lv_iload hx hb dX5_partner_37 (lv_at hl 5 rfl) ?_
    refine lv_aload_n hx hb dX5_partner_39 rfl (lv_at hl 0 rfl) ?_
    refine gP_square C hW q199 dX5_partner_40 ?_
    refine gSq_people C (wd_0 hW) q102 dX5_partner_43 ?_
    refine lv_icmp_ge (tgt := 89) hx hb dX5_partner_46 (by decide) (fun hc2 => ?_) (fun hc2 => ?_)
    · rw [if_pos hc2] at hm
      refine lv_iload_n hx hb dX5_partner_89 rfl (lv_at hl 3 rfl) ?_
      refine lv_ldc hx hb C.2.2.2.1 (C.2.2.2.2.1 _ q417) dX5_partner_90 ?_
      refine lv_icmp_ne (tgt := 104) hx hb dX5_partner_92 (by decide) (fun hc3 => ?_) (fun hc3 => ?_)
      · rw [if_neg hc3] at hm
        refine lv_iload_n hx hb dX5_partner_104 rfl (lv_at hl 3 rfl) ?_
        obtain ⟨rfl, rfl⟩ := Prod.mk.inj (Option.some.inj hm)
        exact en_i C hr hlk hW dX5_partner_105
      · rw [if_pos hc3] at hm
        refine lv_aload_n hx hb dX5_partner_95 rfl (lv_at hl 0 rfl) ?_
        refine lv_ldc hx hb C.2.2.2.1 (C.2.2.2.2.1 _ q417) dX5_partner_96 ?_
        obtain ⟨q5, e4, hm⟩ := mi_bind hm
        refine cs_i (q0 := 0) (As := [.int (-1000004 : Int32)]) (rest := []) C hW (c_X5_found e4) kX5_found q232 rfl rfl rfl rfl rfl hl.1 ⟨Nat.le_of_ble_eq_true rfl, Nat.le_of_ble_eq_true rfl⟩ ⟨Nat.le_refl 0, Nat.le_refl 0⟩ (Nat.le_of_ble_eq_true rfl) dX5_partner_98 (fun H locs hW => ?_)
        refine lv_goto (tgt := 105) hx hb dX5_partner_101 (by decide) ?_
        obtain ⟨rfl, rfl⟩ := Prod.mk.inj (Option.some.inj hm)
        exact en_i C hr hlk hW dX5_partner_105
    · rw [if_neg hc2] at hm
      refine lv_iload hx hb dX5_partner_49 (lv_at hl 5 rfl) ?_
      refine lv_iload_n hx hb dX5_partner_51 rfl (lv_at hl 1 rfl) ?_
      refine lv_icmp_ne (tgt := 59) hx hb dX5_partner_52 (by decide) (fun hc6 => ?_) (fun hc6 => ?_)
      · rw [if_neg hc6] at hm
        refine lv_aload_n hx hb dX5_partner_59 rfl (lv_at hl 0 rfl) ?_
        refine lv_iload_n hx hb dX5_partner_60 rfl (lv_at hl 1 rfl) ?_
        refine lv_iload hx hb dX5_partner_61 (lv_at hl 5 rfl) ?_
        refine lv_iload_n hx hb dX5_partner_63 rfl (lv_at hl 2 rfl) ?_
        obtain ⟨q8, e7, hm⟩ := mi_bind hm
        refine cs_i (q0 := 0) (As := [.int x1, .int x5, .int x2]) (rest := []) C hW (c_X5_gain e7) kX5_gain q435 rfl rfl rfl rfl rfl hl.1 ⟨Nat.le_of_ble_eq_true rfl, Nat.le_of_ble_eq_true rfl⟩ ⟨Nat.le_refl 0, Nat.le_refl 0⟩ (Nat.le_of_ble_eq_true rfl) dX5_partner_64 (fun H locs hW => ?_)
        exact wX5_partner_b67 C hr hlk ih q8.2 x1 x2 x3 x4 x5 q8.1 _ _ _ hm hW (lv_sub hl [0, 1, 2, 3, 4, 5] rfl)
      · rw [if_pos hc6] at hm
        refine lv_iconst (v := -1) hx hb dX5_partner_55 (by decide) ?_
        refine lv_goto (tgt := 67) hx hb dX5_partner_56 (by decide) ?_
        exact wX5_partner_b67 C hr hlk ih X x1 x2 x3 x4 x5 (-1 : Int32) _ _ _ hm hW (lv_sub hl [0, 1, 2, 3, 4, 5] rfl)
def X5_partner_b21 (X : XS) : Option (Int32 × XS) := (X5_found X (-1000001 : Int32)).bind fun q10 => some (q10.1, q10.2)
set_option maxHeartbeats 4000000 in
set_option maxRecDepth 100000 in
theorem wX5_partner_b21 {p : Program} {l : Launch} {e : Env} {s : State} {m : MethodId} {below : List Frame} {meth : Method} {c : Code} {D : va_G} {cy cz : ClassId} {G : GT} {A : Nat → Prop} {args : Array Value} {o : Nat → Nat → Nat} {r : Int32} {Xr : XS} (C : Cx p s m args c cX5_partner 7 "PumpTalk" D cy cz G A) (hr : meth.sig.returnType = some .int) (hlk : meth.locks = false) : ∀ (X : XS) (H : Heap) (locs : List Loc) (ls : Array Slot), X5_partner_b21 X = some (r, Xr) → Wd D A s.heap H locs (cPT o cy cz X) → lv_has ls 7 [(0, .ref (o 9 0))] → W p l e (rmz 5 120) s m args below meth c H locs 0 0 (MQ below (QI D cy cz A (cPT o cy cz Xr) r) args s 0 0 A) (F0 m 21 ls []) := by
  have hx := C.1
  have hb := C.2.1
  intro X H locs ls hm hW hl
  unfold X5_partner_b21 at hm
  refine lv_aload_n hx hb dX5_partner_21 rfl (lv_at hl 0 rfl) ?_
  refine lv_ldc hx hb C.2.2.2.1 (C.2.2.2.2.1 _ q231) dX5_partner_22 ?_
  obtain ⟨q10, e9, hm⟩ := mi_bind hm
  refine cs_i (q0 := 0) (As := [.int (-1000001 : Int32)]) (rest := []) C hW (c_X5_found e9) kX5_found q232 rfl rfl rfl rfl rfl hl.1 ⟨Nat.le_of_ble_eq_true rfl, Nat.le_of_ble_eq_true rfl⟩ ⟨Nat.le_refl 0, Nat.le_refl 0⟩ (Nat.le_of_ble_eq_true rfl) dX5_partner_24 (fun H locs hW => ?_)
  obtain ⟨rfl, rfl⟩ := Prod.mk.inj (Option.some.inj hm)
  exact en_i C hr hlk hW dX5_partner_27
def X5_partner (X : XS) (p1 : Int32) (p2 : Int32) : Option (Int32 × XS) := (X4_isThere (X 0) p1).bind fun v12 => if v12 = (0 : Int32) then (X5_partner_b21 X) else ((X5_isOutside p2 (0 : Int32) (60 : Int32)).bind fun v15 => if v15 = (0 : Int32) then (X5_partner_b37 FU X p1 p2 (-1000004 : Int32) (-1 : Int32) (0 : Int32)) else (X5_partner_b21 X))
set_option maxHeartbeats 4000000 in
set_option maxRecDepth 100000 in
theorem c_X5_partner {l : Launch} {D : va_G} {cy cz : ClassId} {G : GT} {o : Nat → Nat → Nat} {X : XS} {p1 : Int32} {p2 : Int32} {r : Int32} {Xr : XS} (hm : X5_partner X p1 p2 = some (r, Xr)) : CtI l D cy cz G yX5_partner cX5_partner 7 (some .int) 5 120 [.ref (o 9 0), .int p1, .int p2] (cPT o cy cz X) (cPT o cy cz Xr) r := by
  refine ct_i (own := "PumpTalk") (by decide) rfl (Nat.le_of_ble_eq_true rfl) ?_
  intro p e s m below meth c ls A C hr hlk hW hl
  have hx := C.1
  have hb := C.2.1
  have hl : lv_has ls 7 [(0, .ref (o 9 0)), (1, .int p1), (2, .int p2)] := hl
  unfold X5_partner at hm
  refine lv_aload_n hx hb dX5_partner_0 rfl (lv_at hl 0 rfl) ?_
  refine gP_square C hW q199 dX5_partner_1 ?_
  refine lv_iload_n hx hb dX5_partner_4 rfl (lv_at hl 1 rfl) ?_
  obtain ⟨v12, e11, hm⟩ := mi_bind hm
  refine cq0_i_p (As := [.int p1]) (rest := []) C hW (c_X4_isThere e11) kX4_isThere q253 rfl rfl rfl hl.1 ⟨Nat.le_of_ble_eq_true rfl, Nat.le_of_ble_eq_true rfl⟩ ⟨Nat.le_refl 0, Nat.le_refl 0⟩ (Nat.le_of_ble_eq_true rfl) dX5_partner_5 (fun H locs hW => ?_)
  refine lv_if_eq (tgt := 21) hx hb dX5_partner_8 (by decide) (fun hc13 => ?_) (fun hc13 => ?_)
  · rw [if_pos hc13] at hm
    exact wX5_partner_b21 C hr hlk X _ _ _ hm hW (lv_sub hl [0] rfl)
  · rw [if_neg hc13] at hm
    refine lv_iload_n hx hb dX5_partner_11 rfl (lv_at hl 2 rfl) ?_
    refine lv_iconst (v := 0) hx hb dX5_partner_12 (by decide) ?_
    refine lv_bipush (v := 60) hx hb dX5_partner_13 (by decide) ?_
    obtain ⟨v15, e14, hm⟩ := mi_bind hm
    refine cS_i (As := [.int p2, .int (0 : Int32), .int (60 : Int32)]) (rest := []) C hW (c_X5_isOutside e14) kX5_isOutside q228 rfl rfl hl.1 ⟨Nat.le_of_ble_eq_true rfl, Nat.le_of_ble_eq_true rfl⟩ ⟨Nat.le_refl 0, Nat.le_refl 0⟩ (Nat.le_of_ble_eq_true rfl) dX5_partner_15 (fun H locs hW => ?_)
    refine lv_if_eq (tgt := 28) hx hb dX5_partner_18 (by decide) (fun hc16 => ?_) (fun hc16 => ?_)
    · rw [if_pos hc16] at hm
      refine lv_ldc hx hb C.2.2.2.1 (C.2.2.2.2.1 _ q417) dX5_partner_28 ?_
      refine lv_istore_n (lv' := [(3, .int (-1000004 : Int32)), (0, .ref (o 9 0)), (1, .int p1), (2, .int p2)]) hx hb dX5_partner_30 rfl hl (by decide) rfl (fun ls hl => ?_)
      refine lv_iconst (v := -1) hx hb dX5_partner_31 (by decide) ?_
      refine lv_istore (lv' := [(4, .int (-1 : Int32)), (3, .int (-1000004 : Int32)), (0, .ref (o 9 0)), (1, .int p1), (2, .int p2)]) hx hb dX5_partner_32 hl (by decide) rfl (fun ls hl => ?_)
      refine lv_iconst (v := 0) hx hb dX5_partner_34 (by decide) ?_
      refine lv_istore (lv' := [(5, .int (0 : Int32)), (4, .int (-1 : Int32)), (3, .int (-1000004 : Int32)), (0, .ref (o 9 0)), (1, .int p1), (2, .int p2)]) hx hb dX5_partner_35 hl (by decide) rfl (fun ls hl => ?_)
      exact wX5_partner_b37 C hr hlk FU X p1 p2 (-1000004 : Int32) (-1 : Int32) (0 : Int32) _ _ _ hm hW (lv_sub hl [3, 4, 5, 2, 1, 0] rfl)
    · rw [if_neg hc16] at hm
      exact wX5_partner_b21 C hr hlk X _ _ _ hm hW (lv_sub hl [0] rfl)
theorem kX5_partner : KM yX5_partner cX5_partner 7 (some .int) 2 := ⟨q449, q450, q67, q451, by decide +kernel, by decide +kernel, by decide +kernel⟩
def X5_subjectFor_b35 : Nat → XS → Int32 → Int32 → Int32 → Int32 → Int32 → Int32 → Option (Int32 × XS)
  | 0, _, _, _, _, _, _, _ => none
  | n + 1, X, x1, x2, x3, x4, x5, x6 => if (6 : Int32) ≤ x6 then (some (x4, X)) else ((X4_takeOver (pr2 (X 1) (X 0))).bind fun s3 => (some (va_up (va_up X 1 (s3 0)) 1 (su ((va_up X 1 (s3 0)) 1) 11 7 x6))).bind fun s4 => (X4_pumpBy (s4 1) x1 x2 x3).bind fun q7 => if q7.1 ≤ x5 then (X5_subjectFor_b35 n (va_up s4 1 q7.2) x1 x2 x3 x4 x5 ((x6 + (1 : Int32)))) else (X5_subjectFor_b35 n (va_up s4 1 q7.2) x1 x2 x3 x6 q7.1 ((x6 + (1 : Int32)))))
set_option maxHeartbeats 4000000 in
set_option maxRecDepth 100000 in
theorem wX5_subjectFor_b35 {p : Program} {l : Launch} {e : Env} {s : State} {m : MethodId} {below : List Frame} {meth : Method} {c : Code} {D : va_G} {cy cz : ClassId} {G : GT} {A : Nat → Prop} {args : Array Value} {o : Nat → Nat → Nat} {r : Int32} {Xr : XS} (C : Cx p s m args c cX5_subjectFor 8 "PumpTalk" D cy cz G A) (hr : meth.sig.returnType = some .int) (hlk : meth.locks = false) : ∀ (n : Nat) (X : XS) (x1 : Int32) (x2 : Int32) (x3 : Int32) (x4 : Int32) (x5 : Int32) (x6 : Int32) (H : Heap) (locs : List Loc) (ls : Array Slot), X5_subjectFor_b35 n X x1 x2 x3 x4 x5 x6 = some (r, Xr) → Wd D A s.heap H locs (cPT o cy cz X) → lv_has ls 8 [(0, .ref (o 9 0)), (1, .int x1), (2, .int x2), (3, .int x3), (4, .int x4), (5, .int x5), (6, .int x6)] → W p l e (rmz 4 97) s m args below meth c H locs 0 0 (MQ below (QI D cy cz A (cPT o cy cz Xr) r) args s 0 0 A) (F0 m 35 ls []) := by
  have hx := C.1
  have hb := C.2.1
  intro n
  induction n with
  | zero =>
    intro X x1 x2 x3 x4 x5 x6 H locs ls hm
    rw [X5_subjectFor_b35] at hm
    cases hm
  | succ n ih =>
    intro X x1 x2 x3 x4 x5 x6 H locs ls hm hW hl
    rw [X5_subjectFor_b35] at hm
    refine lv_iload hx hb dX5_subjectFor_35 (lv_at hl 6 rfl) ?_
    refine lv_bipush (v := 6) hx hb dX5_subjectFor_37 (by decide) ?_
    refine lv_icmp_ge (tgt := 95) hx hb dX5_subjectFor_39 (by decide) (fun hc1 => ?_) (fun hc1 => ?_)
    · rw [if_pos hc1] at hm
      refine lv_iload hx hb dX5_subjectFor_95 (lv_at hl 4 rfl) ?_
      obtain ⟨rfl, rfl⟩ := Prod.mk.inj (Option.some.inj hm)
      exact en_i C hr hlk hW dX5_subjectFor_97
    · rw [if_neg hc1] at hm
      refine lv_aload_n hx hb dX5_subjectFor_42 rfl (lv_at hl 0 rfl) ?_
      refine gP_trial C hW q200 dX5_subjectFor_43 ?_
      refine lv_aload_n hx hb dX5_subjectFor_46 rfl (lv_at hl 0 rfl) ?_
      refine gP_square C hW q199 dX5_subjectFor_47 ?_
      obtain ⟨s3, e2, hm⟩ := mi_bind hm
      refine cq10_v_s1 (As := [.ref (o 0 0)]) (rest := []) C hW (c_X4_takeOver_2 e2) kX4_takeOver q400 rfl rfl rfl hl.1 ⟨Nat.le_of_ble_eq_true rfl, Nat.le_of_ble_eq_true rfl⟩ ⟨Nat.le_refl 0, Nat.le_refl 0⟩ (Nat.le_of_ble_eq_true rfl) dX5_subjectFor_50 (fun H locs hW => ?_)
      refine lv_aload_n hx hb dX5_subjectFor_53 rfl (lv_at hl 0 rfl) ?_
      refine gP_trial C hW q200 dX5_subjectFor_54 ?_
      refine lv_iload hx hb dX5_subjectFor_57 (lv_at hl 6 rfl) ?_
      refine pP1_topic C hW q109 dX5_subjectFor_59 (fun H locs hW => ?_)
      obtain ⟨s4, e5, hm⟩ := mi_bind hm
      rw [Option.some.inj e5] at hW
      refine lv_aload_n hx hb dX5_subjectFor_62 rfl (lv_at hl 0 rfl) ?_
      refine gP_trial C hW q200 dX5_subjectFor_63 ?_
      refine lv_iload_n hx hb dX5_subjectFor_66 rfl (lv_at hl 1 rfl) ?_
      refine lv_iload_n hx hb dX5_subjectFor_67 rfl (lv_at hl 2 rfl) ?_
      refine lv_iload_n hx hb dX5_subjectFor_68 rfl (lv_at hl 3 rfl) ?_
      obtain ⟨q7, e6, hm⟩ := mi_bind hm
      refine cq1_i_s (As := [.int x1, .int x2, .int x3]) (rest := []) C hW (c_X4_pumpBy e6) kX4_pumpBy q439 rfl rfl rfl hl.1 ⟨Nat.le_of_ble_eq_true rfl, Nat.le_of_ble_eq_true rfl⟩ ⟨Nat.le_refl 0, Nat.le_refl 0⟩ (Nat.le_of_ble_eq_true rfl) dX5_subjectFor_69 (fun H locs hW => ?_)
      refine lv_istore (lv' := [(7, .int q7.1), (0, .ref (o 9 0)), (1, .int x1), (2, .int x2), (3, .int x3), (4, .int x4), (5, .int x5), (6, .int x6)]) hx hb dX5_subjectFor_72 hl (by decide) rfl (fun ls hl => ?_)
      refine lv_iload hx hb dX5_subjectFor_74 (lv_at hl 0 rfl) ?_
      refine lv_iload hx hb dX5_subjectFor_76 (lv_at hl 6 rfl) ?_
      refine lv_icmp_le (tgt := 89) hx hb dX5_subjectFor_78 (by decide) (fun hc8 => ?_) (fun hc8 => ?_)
      · rw [if_pos hc8] at hm
        refine lv_iinc (v := (x6 + (1 : Int32))) (lv' := [(6, .int (x6 + (1 : Int32))), (7, .int q7.1), (0, .ref (o 9 0)), (1, .int x1), (2, .int x2), (3, .int x3), (4, .int x4), (5, .int x5)]) hx hb dX5_subjectFor_89 hl (k := 7) rfl (congrArg (fun z : Int32 => x6 + z) (by decide)) (by decide) rfl (fun ls hl => ?_)
        refine lv_goto (tgt := 35) hx hb dX5_subjectFor_92 (by decide) ?_
        exact ih (va_up s4 1 q7.2) x1 x2 x3 x4 x5 ((x6 + (1 : Int32))) _ _ _ hm hW (lv_sub hl [2, 3, 4, 5, 6, 7, 0] rfl)
      · rw [if_neg hc8] at hm
        refine lv_iload hx hb dX5_subjectFor_81 (lv_at hl 0 rfl) ?_
        refine lv_istore (lv' := [(5, .int q7.1), (7, .int q7.1), (0, .ref (o 9 0)), (1, .int x1), (2, .int x2), (3, .int x3), (4, .int x4), (6, .int x6)]) hx hb dX5_subjectFor_83 hl (by decide) rfl (fun ls hl => ?_)
        refine lv_iload hx hb dX5_subjectFor_85 (lv_at hl 7 rfl) ?_
        refine lv_istore (lv' := [(4, .int x6), (5, .int q7.1), (7, .int q7.1), (0, .ref (o 9 0)), (1, .int x1), (2, .int x2), (3, .int x3), (6, .int x6)]) hx hb dX5_subjectFor_87 hl (by decide) rfl (fun ls hl => ?_)
        refine lv_iinc (v := (x6 + (1 : Int32))) (lv' := [(6, .int (x6 + (1 : Int32))), (4, .int x6), (5, .int q7.1), (7, .int q7.1), (0, .ref (o 9 0)), (1, .int x1), (2, .int x2), (3, .int x3)]) hx hb dX5_subjectFor_89 hl (k := 7) rfl (congrArg (fun z : Int32 => x6 + z) (by decide)) (by decide) rfl (fun ls hl => ?_)
        refine lv_goto (tgt := 35) hx hb dX5_subjectFor_92 (by decide) ?_
        exact ih (va_up s4 1 q7.2) x1 x2 x3 x6 q7.1 ((x6 + (1 : Int32))) _ _ _ hm hW (lv_sub hl [4, 5, 6, 7, 1, 2, 0] rfl)
def X5_subjectFor_b19 (X : XS) : Option (Int32 × XS) := (X5_found X (-1000001 : Int32)).bind fun q10 => some (q10.1, q10.2)
set_option maxHeartbeats 4000000 in
set_option maxRecDepth 100000 in
theorem wX5_subjectFor_b19 {p : Program} {l : Launch} {e : Env} {s : State} {m : MethodId} {below : List Frame} {meth : Method} {c : Code} {D : va_G} {cy cz : ClassId} {G : GT} {A : Nat → Prop} {args : Array Value} {o : Nat → Nat → Nat} {r : Int32} {Xr : XS} (C : Cx p s m args c cX5_subjectFor 8 "PumpTalk" D cy cz G A) (hr : meth.sig.returnType = some .int) (hlk : meth.locks = false) : ∀ (X : XS) (H : Heap) (locs : List Loc) (ls : Array Slot), X5_subjectFor_b19 X = some (r, Xr) → Wd D A s.heap H locs (cPT o cy cz X) → lv_has ls 8 [(0, .ref (o 9 0))] → W p l e (rmz 4 97) s m args below meth c H locs 0 0 (MQ below (QI D cy cz A (cPT o cy cz Xr) r) args s 0 0 A) (F0 m 19 ls []) := by
  have hx := C.1
  have hb := C.2.1
  intro X H locs ls hm hW hl
  unfold X5_subjectFor_b19 at hm
  refine lv_aload_n hx hb dX5_subjectFor_19 rfl (lv_at hl 0 rfl) ?_
  refine lv_ldc hx hb C.2.2.2.1 (C.2.2.2.2.1 _ q231) dX5_subjectFor_20 ?_
  obtain ⟨q10, e9, hm⟩ := mi_bind hm
  refine cs_i (q0 := 0) (As := [.int (-1000001 : Int32)]) (rest := []) C hW (c_X5_found e9) kX5_found q232 rfl rfl rfl rfl rfl hl.1 ⟨Nat.le_of_ble_eq_true rfl, Nat.le_of_ble_eq_true rfl⟩ ⟨Nat.le_refl 0, Nat.le_refl 0⟩ (Nat.le_of_ble_eq_true rfl) dX5_subjectFor_22 (fun H locs hW => ?_)
  obtain ⟨rfl, rfl⟩ := Prod.mk.inj (Option.some.inj hm)
  exact en_i C hr hlk hW dX5_subjectFor_25
def X5_subjectFor (X : XS) (p1 : Int32) (p2 : Int32) (p3 : Int32) : Option (Int32 × XS) := (X5_isNoPair X p1 p2).bind fun v12 => if v12 = (0 : Int32) then ((X5_isOutside p3 (0 : Int32) (60 : Int32)).bind fun v15 => if v15 = (0 : Int32) then (X5_subjectFor_b35 FU X p1 p2 p3 (0 : Int32) (-1 : Int32) (0 : Int32)) else (X5_subjectFor_b19 X)) else (X5_subjectFor_b19 X)
set_option maxHeartbeats 4000000 in
set_option maxRecDepth 100000 in
theorem c_X5_subjectFor {l : Launch} {D : va_G} {cy cz : ClassId} {G : GT} {o : Nat → Nat → Nat} {X : XS} {p1 : Int32} {p2 : Int32} {p3 : Int32} {r : Int32} {Xr : XS} (hm : X5_subjectFor X p1 p2 p3 = some (r, Xr)) : CtI l D cy cz G yX5_subjectFor cX5_subjectFor 8 (some .int) 4 97 [.ref (o 9 0), .int p1, .int p2, .int p3] (cPT o cy cz X) (cPT o cy cz Xr) r := by
  refine ct_i (own := "PumpTalk") (by decide) rfl (Nat.le_of_ble_eq_true rfl) ?_
  intro p e s m below meth c ls A C hr hlk hW hl
  have hx := C.1
  have hb := C.2.1
  have hl : lv_has ls 8 [(0, .ref (o 9 0)), (1, .int p1), (2, .int p2), (3, .int p3)] := hl
  unfold X5_subjectFor at hm
  refine lv_aload_n hx hb dX5_subjectFor_0 rfl (lv_at hl 0 rfl) ?_
  refine lv_iload_n hx hb dX5_subjectFor_1 rfl (lv_at hl 1 rfl) ?_
  refine lv_iload_n hx hb dX5_subjectFor_2 rfl (lv_at hl 2 rfl) ?_
  obtain ⟨v12, e11, hm⟩ := mi_bind hm
  refine cs_i (q0 := 0) (As := [.int p1, .int p2]) (rest := []) C hW (c_X5_isNoPair e11) kX5_isNoPair q322 rfl rfl rfl rfl rfl hl.1 ⟨Nat.le_of_ble_eq_true rfl, Nat.le_of_ble_eq_true rfl⟩ ⟨Nat.le_refl 0, Nat.le_refl 0⟩ (Nat.le_of_ble_eq_true rfl) dX5_subjectFor_3 (fun H locs hW => ?_)
  refine lv_if_ne (tgt := 19) hx hb dX5_subjectFor_6 (by decide) (fun hc13 => ?_) (fun hc13 => ?_)
  · rw [if_neg hc13] at hm
    exact wX5_subjectFor_b19 C hr hlk X _ _ _ hm hW (lv_sub hl [0] rfl)
  · rw [if_pos hc13] at hm
    refine lv_iload_n hx hb dX5_subjectFor_9 rfl (lv_at hl 3 rfl) ?_
    refine lv_iconst (v := 0) hx hb dX5_subjectFor_10 (by decide) ?_
    refine lv_bipush (v := 60) hx hb dX5_subjectFor_11 (by decide) ?_
    obtain ⟨v15, e14, hm⟩ := mi_bind hm
    refine cS_i (As := [.int p3, .int (0 : Int32), .int (60 : Int32)]) (rest := []) C hW (c_X5_isOutside e14) kX5_isOutside q228 rfl rfl hl.1 ⟨Nat.le_of_ble_eq_true rfl, Nat.le_of_ble_eq_true rfl⟩ ⟨Nat.le_refl 0, Nat.le_refl 0⟩ (Nat.le_of_ble_eq_true rfl) dX5_subjectFor_13 (fun H locs hW => ?_)
    refine lv_if_eq (tgt := 26) hx hb dX5_subjectFor_16 (by decide) (fun hc16 => ?_) (fun hc16 => ?_)
    · rw [if_pos hc16] at hm
      refine lv_iconst (v := 0) hx hb dX5_subjectFor_26 (by decide) ?_
      refine lv_istore (lv' := [(4, .int (0 : Int32)), (0, .ref (o 9 0)), (1, .int p1), (2, .int p2), (3, .int p3)]) hx hb dX5_subjectFor_27 hl (by decide) rfl (fun ls hl => ?_)
      refine lv_iconst (v := -1) hx hb dX5_subjectFor_29 (by decide) ?_
      refine lv_istore (lv' := [(5, .int (-1 : Int32)), (4, .int (0 : Int32)), (0, .ref (o 9 0)), (1, .int p1), (2, .int p2), (3, .int p3)]) hx hb dX5_subjectFor_30 hl (by decide) rfl (fun ls hl => ?_)
      refine lv_iconst (v := 0) hx hb dX5_subjectFor_32 (by decide) ?_
      refine lv_istore (lv' := [(6, .int (0 : Int32)), (5, .int (-1 : Int32)), (4, .int (0 : Int32)), (0, .ref (o 9 0)), (1, .int p1), (2, .int p2), (3, .int p3)]) hx hb dX5_subjectFor_33 hl (by decide) rfl (fun ls hl => ?_)
      exact wX5_subjectFor_b35 C hr hlk FU X p1 p2 p3 (0 : Int32) (-1 : Int32) (0 : Int32) _ _ _ hm hW (lv_sub hl [3, 4, 5, 6, 2, 1, 0] rfl)
    · rw [if_neg hc16] at hm
      exact wX5_subjectFor_b19 C hr hlk X _ _ _ hm hW (lv_sub hl [0] rfl)
theorem kX5_subjectFor : KM yX5_subjectFor cX5_subjectFor 8 (some .int) 3 := ⟨q453, q454, q67, q455, by decide +kernel, by decide +kernel, by decide +kernel⟩
def X5_weighPairs_b17 (k2 : XS → Int32 → Int32 → Option (XS)) : Nat → XS → Int32 → Int32 → Int32 → Option (XS)
  | 0, _, _, _, _ => none
  | n + 1, X, x1, x2, x3 => if (X 0 11 4) ≤ x3 then (k2 X x1 ((x2 + (1 : Int32)))) else ((X5_gain X x2 x3 x1).bind fun q3 => (X1_weigh (q3.2 4) x2 x3 q3.1).bind fun s5 => X5_weighPairs_b17 k2 n (va_up q3.2 4 s5) x1 x2 ((x3 + (1 : Int32))))
set_option maxHeartbeats 4000000 in
set_option maxRecDepth 100000 in
theorem wX5_weighPairs_b17 {p : Program} {l : Launch} {e : Env} {s : State} {m : MethodId} {below : List Frame} {meth : Method} {c : Code} {D : va_G} {cy cz : ClassId} {G : GT} {A : Nat → Prop} {args : Array Value} {o : Nat → Nat → Nat} {z : ZT} {Xr : XS} (C : Cx p s m args c cX5_weighPairs 4 "PumpTalk" D cy cz G A) (hr : meth.sig.returnType = none) (hlk : meth.locks = false) (hg : GH G z) {k2 : XS → Int32 → Int32 → Option (XS)} (hk2 : ∀ (X : XS) (x1 : Int32) (x2 : Int32) (H : Heap) (locs : List Loc) (ls : Array Slot), k2 X x1 x2 = some Xr → Wd D A s.heap H locs (cPT o cy cz X) → lv_has ls 4 [(0, .ref (o 9 0)), (1, .int x1), (2, .int x2)] → W p l e (rmz 5 120) s m args below meth c H locs 0 0 (MQ below (QV D cy cz A (cPT o cy cz Xr) ()) args s 0 0 A) (F0 m 2 ls [])) : ∀ (n : Nat) (X : XS) (x1 : Int32) (x2 : Int32) (x3 : Int32) (H : Heap) (locs : List Loc) (ls : Array Slot), X5_weighPairs_b17 k2 n X x1 x2 x3 = some Xr → Wd D A s.heap H locs (cPT o cy cz X) → lv_has ls 4 [(0, .ref (o 9 0)), (1, .int x1), (2, .int x2), (3, .int x3)] → W p l e (rmz 5 120) s m args below meth c H locs 0 0 (MQ below (QV D cy cz A (cPT o cy cz Xr) ()) args s 0 0 A) (F0 m 17 ls []) := by
  have hx := C.1
  have hb := C.2.1
  intro n
  induction n with
  | zero =>
    intro X x1 x2 x3 H locs ls hm
    rw [X5_weighPairs_b17] at hm
    cases hm
  | succ n ih =>
    intro X x1 x2 x3 H locs ls hm hW hl
    rw [X5_weighPairs_b17] at hm
    refine lv_iload_n hx hb dX5_weighPairs_17 rfl (lv_at hl 3 rfl) ?_
    refine lv_aload_n hx hb dX5_weighPairs_18 rfl (lv_at hl 0 rfl) ?_
    refine gP_square C hW q199 dX5_weighPairs_19 ?_
    refine gSq_people C (wd_0 hW) q102 dX5_weighPairs_22 ?_
    refine lv_icmp_ge (tgt := 50) hx hb dX5_weighPairs_25 (by decide) (fun hc1 => ?_) (fun hc1 => ?_)
    · rw [if_pos hc1] at hm
      refine lv_iinc (v := (x2 + (1 : Int32))) (lv' := [(2, .int (x2 + (1 : Int32))), (0, .ref (o 9 0)), (1, .int x1), (3, .int x3)]) hx hb dX5_weighPairs_50 hl (k := 2) rfl (congrArg (fun z : Int32 => x2 + z) (by decide)) (by decide) rfl (fun ls hl => ?_)
      refine lv_goto (tgt := 2) hx hb dX5_weighPairs_53 (by decide) ?_
      exact hk2 X x1 ((x2 + (1 : Int32))) _ _ _ hm hW (lv_sub hl [1, 2, 0] rfl)
    · rw [if_neg hc1] at hm
      refine lv_aload_n hx hb dX5_weighPairs_28 rfl (lv_at hl 0 rfl) ?_
      refine gP_matching C hW q204 dX5_weighPairs_29 ?_
      refine lv_iload_n hx hb dX5_weighPairs_32 rfl (lv_at hl 2 rfl) ?_
      refine lv_iload_n hx hb dX5_weighPairs_33 rfl (lv_at hl 3 rfl) ?_
      refine lv_aload_n hx hb dX5_weighPairs_34 rfl (lv_at hl 0 rfl) ?_
      refine lv_iload_n hx hb dX5_weighPairs_35 rfl (lv_at hl 2 rfl) ?_
      refine lv_iload_n hx hb dX5_weighPairs_36 rfl (lv_at hl 3 rfl) ?_
      refine lv_iload_n hx hb dX5_weighPairs_37 rfl (lv_at hl 1 rfl) ?_
      obtain ⟨q3, e2, hm⟩ := mi_bind hm
      refine cs_i (q0 := 0) (As := [.int x2, .int x3, .int x1]) (rest := [.int x3, .int x2, .ref (o 4 0)]) C hW (c_X5_gain e2) kX5_gain q435 rfl rfl rfl rfl rfl hl.1 ⟨Nat.le_of_ble_eq_true rfl, Nat.le_of_ble_eq_true rfl⟩ ⟨Nat.le_refl 0, Nat.le_refl 0⟩ (Nat.le_of_ble_eq_true rfl) dX5_weighPairs_38 (fun H locs hW => ?_)
      obtain ⟨s5, e4, hm⟩ := mi_bind hm
      refine cq4_v_s (As := [.int x2, .int x3, .int q3.1]) (rest := []) C hW (c_X1_weigh hg e4) kX1_weigh q464 rfl rfl rfl hl.1 ⟨Nat.le_of_ble_eq_true rfl, Nat.le_of_ble_eq_true rfl⟩ ⟨Nat.le_refl 0, Nat.le_refl 0⟩ (Nat.le_of_ble_eq_true rfl) dX5_weighPairs_41 (fun H locs hW => ?_)
      refine lv_iinc (v := (x3 + (1 : Int32))) (lv' := [(3, .int (x3 + (1 : Int32))), (0, .ref (o 9 0)), (1, .int x1), (2, .int x2)]) hx hb dX5_weighPairs_44 hl (k := 3) rfl (congrArg (fun z : Int32 => x3 + z) (by decide)) (by decide) rfl (fun ls hl => ?_)
      refine lv_goto (tgt := 17) hx hb dX5_weighPairs_47 (by decide) ?_
      exact ih (va_up q3.2 4 s5) x1 x2 ((x3 + (1 : Int32))) _ _ _ hm hW (lv_sub hl [1, 2, 3, 0] rfl)
def X5_weighPairs_b2 : Nat → XS → Int32 → Int32 → Option (XS)
  | 0, _, _, _ => none
  | n + 1, X, x1, x2 => if (X 0 11 4) ≤ x2 then ((X1_solve (X 4) (X 0 11 4)).bind fun s8 => some (va_up X 4 s8)) else (X5_weighPairs_b17 (X5_weighPairs_b2 n) FU X x1 x2 ((x2 + (1 : Int32))))
set_option maxHeartbeats 4000000 in
set_option maxRecDepth 100000 in
theorem wX5_weighPairs_b2 {p : Program} {l : Launch} {e : Env} {s : State} {m : MethodId} {below : List Frame} {meth : Method} {c : Code} {D : va_G} {cy cz : ClassId} {G : GT} {A : Nat → Prop} {args : Array Value} {o : Nat → Nat → Nat} {z : ZT} {Xr : XS} (C : Cx p s m args c cX5_weighPairs 4 "PumpTalk" D cy cz G A) (hr : meth.sig.returnType = none) (hlk : meth.locks = false) (hg : GH G z) : ∀ (n : Nat) (X : XS) (x1 : Int32) (x2 : Int32) (H : Heap) (locs : List Loc) (ls : Array Slot), X5_weighPairs_b2 n X x1 x2 = some Xr → Wd D A s.heap H locs (cPT o cy cz X) → lv_has ls 4 [(0, .ref (o 9 0)), (1, .int x1), (2, .int x2)] → W p l e (rmz 5 120) s m args below meth c H locs 0 0 (MQ below (QV D cy cz A (cPT o cy cz Xr) ()) args s 0 0 A) (F0 m 2 ls []) := by
  have hx := C.1
  have hb := C.2.1
  intro n
  induction n with
  | zero =>
    intro X x1 x2 H locs ls hm
    rw [X5_weighPairs_b2] at hm
    cases hm
  | succ n ih =>
    intro X x1 x2 H locs ls hm hW hl
    rw [X5_weighPairs_b2] at hm
    refine lv_iload_n hx hb dX5_weighPairs_2 rfl (lv_at hl 2 rfl) ?_
    refine lv_aload_n hx hb dX5_weighPairs_3 rfl (lv_at hl 0 rfl) ?_
    refine gP_square C hW q199 dX5_weighPairs_4 ?_
    refine gSq_people C (wd_0 hW) q102 dX5_weighPairs_7 ?_
    refine lv_icmp_ge (tgt := 56) hx hb dX5_weighPairs_10 (by decide) (fun hc6 => ?_) (fun hc6 => ?_)
    · rw [if_pos hc6] at hm
      refine lv_aload_n hx hb dX5_weighPairs_56 rfl (lv_at hl 0 rfl) ?_
      refine gP_matching C hW q204 dX5_weighPairs_57 ?_
      refine lv_aload_n hx hb dX5_weighPairs_60 rfl (lv_at hl 0 rfl) ?_
      refine gP_square C hW q199 dX5_weighPairs_61 ?_
      refine gSq_people C (wd_0 hW) q102 dX5_weighPairs_64 ?_
      obtain ⟨s8, e7, hm⟩ := mi_bind hm
      refine cq4_v_s (As := [.int (X 0 11 4)]) (rest := []) C hW (c_X1_solve hg e7) kX1_solve q469 rfl rfl rfl hl.1 ⟨Nat.le_of_ble_eq_true rfl, Nat.le_of_ble_eq_true rfl⟩ ⟨Nat.le_refl 0, Nat.le_refl 0⟩ (Nat.le_of_ble_eq_true rfl) dX5_weighPairs_67 (fun H locs hW => ?_)
      obtain rfl := Option.some.inj hm
      exact en_v C hr hlk hW dX5_weighPairs_70
    · rw [if_neg hc6] at hm
      refine lv_iload_n hx hb dX5_weighPairs_13 rfl (lv_at hl 2 rfl) ?_
      refine lv_iconst (v := 1) hx hb dX5_weighPairs_14 (by decide) ?_
      refine lv_iadd hx hb dX5_weighPairs_15 ?_
      refine lv_istore_n (lv' := [(3, .int (x2 + (1 : Int32))), (0, .ref (o 9 0)), (1, .int x1), (2, .int x2)]) hx hb dX5_weighPairs_16 rfl hl (by decide) rfl (fun ls hl => ?_)
      exact wX5_weighPairs_b17 C hr hlk hg ih FU X x1 x2 ((x2 + (1 : Int32))) _ _ _ hm hW (lv_sub hl [1, 2, 3, 0] rfl)
def X5_weighPairs (X : XS) (p1 : Int32) : Option (XS) := X5_weighPairs_b2 FU X p1 (0 : Int32)
set_option maxHeartbeats 4000000 in
set_option maxRecDepth 100000 in
theorem c_X5_weighPairs {l : Launch} {D : va_G} {cy cz : ClassId} {G : GT} {o : Nat → Nat → Nat} {X : XS} {p1 : Int32} {Xr : XS} {z : ZT} (hg : GH G z) (hm : X5_weighPairs X p1 = some Xr) : CtV l D cy cz G yX5_weighPairs cX5_weighPairs 4 none 5 120 [.ref (o 9 0), .int p1] (cPT o cy cz X) (cPT o cy cz Xr) () := by
  refine ct_v (own := "PumpTalk") (by decide) rfl (Nat.le_of_ble_eq_true rfl) ?_
  intro p e s m below meth c ls A C hr hlk hW hl
  have hx := C.1
  have hb := C.2.1
  have hl : lv_has ls 4 [(0, .ref (o 9 0)), (1, .int p1)] := hl
  unfold X5_weighPairs at hm
  refine lv_iconst (v := 0) hx hb dX5_weighPairs_0 (by decide) ?_
  refine lv_istore_n (lv' := [(2, .int (0 : Int32)), (0, .ref (o 9 0)), (1, .int p1)]) hx hb dX5_weighPairs_1 rfl hl (by decide) rfl (fun ls hl => ?_)
  exact wX5_weighPairs_b2 C hr hlk hg FU X p1 (0 : Int32) _ _ _ hm hW (lv_sub hl [1, 2, 0] rfl)
theorem kX5_weighPairs : KM yX5_weighPairs cX5_weighPairs 4 none 1 := ⟨q462, q4, q67, q463, by decide +kernel, by decide +kernel, by decide +kernel⟩
def X5_matched (X : XS) (p1 : Int32) : Option (Int32 × XS) := (X5_isOutside p1 (0 : Int32) (30 : Int32)).bind fun v2 => if v2 = (0 : Int32) then ((X5_weighPairs X p1).bind fun s5 => (X1_total (s5 4) (s5 0 11 4)).bind fun v7 => some (v7, s5)) else ((X5_found X (-1000001 : Int32)).bind fun q9 => some (q9.1, q9.2))
set_option maxHeartbeats 4000000 in
set_option maxRecDepth 100000 in
theorem c_X5_matched {l : Launch} {D : va_G} {cy cz : ClassId} {G : GT} {o : Nat → Nat → Nat} {X : XS} {p1 : Int32} {r : Int32} {Xr : XS} {z : ZT} (hg : GH G z) (hm : X5_matched X p1 = some (r, Xr)) : CtI l D cy cz G yX5_matched cX5_matched 2 (some .int) 6 143 [.ref (o 9 0), .int p1] (cPT o cy cz X) (cPT o cy cz Xr) r := by
  refine ct_i (own := "PumpTalk") (by decide) rfl (Nat.le_of_ble_eq_true rfl) ?_
  intro p e s m below meth c ls A C hr hlk hW hl
  have hx := C.1
  have hb := C.2.1
  have hl : lv_has ls 2 [(0, .ref (o 9 0)), (1, .int p1)] := hl
  unfold X5_matched at hm
  refine lv_iload_n hx hb dX5_matched_0 rfl (lv_at hl 1 rfl) ?_
  refine lv_iconst (v := 0) hx hb dX5_matched_1 (by decide) ?_
  refine lv_bipush (v := 30) hx hb dX5_matched_2 (by decide) ?_
  obtain ⟨v2, e1, hm⟩ := mi_bind hm
  refine cS_i (As := [.int p1, .int (0 : Int32), .int (30 : Int32)]) (rest := []) C hW (c_X5_isOutside e1) kX5_isOutside q228 rfl rfl hl.1 ⟨Nat.le_of_ble_eq_true rfl, Nat.le_of_ble_eq_true rfl⟩ ⟨Nat.le_refl 0, Nat.le_refl 0⟩ (Nat.le_of_ble_eq_true rfl) dX5_matched_4 (fun H locs hW => ?_)
  refine lv_if_eq (tgt := 17) hx hb dX5_matched_7 (by decide) (fun hc3 => ?_) (fun hc3 => ?_)
  · rw [if_pos hc3] at hm
    refine lv_aload_n hx hb dX5_matched_17 rfl (lv_at hl 0 rfl) ?_
    refine lv_iload_n hx hb dX5_matched_18 rfl (lv_at hl 1 rfl) ?_
    obtain ⟨s5, e4, hm⟩ := mi_bind hm
    refine cs_v (q0 := 0) (As := [.int p1]) (rest := []) C hW (c_X5_weighPairs hg e4) kX5_weighPairs q460 rfl rfl rfl rfl rfl hl.1 ⟨Nat.le_of_ble_eq_true rfl, Nat.le_of_ble_eq_true rfl⟩ ⟨Nat.le_refl 0, Nat.le_refl 0⟩ (Nat.le_of_ble_eq_true rfl) dX5_matched_19 (fun H locs hW => ?_)
    refine lv_aload_n hx hb dX5_matched_22 rfl (lv_at hl 0 rfl) ?_
    refine gP_matching C hW q204 dX5_matched_23 ?_
    refine lv_aload_n hx hb dX5_matched_26 rfl (lv_at hl 0 rfl) ?_
    refine gP_square C hW q199 dX5_matched_27 ?_
    refine gSq_people C (wd_0 hW) q102 dX5_matched_30 ?_
    obtain ⟨v7, e6, hm⟩ := mi_bind hm
    refine cq4_i_p (As := [.int (s5 0 11 4)]) (rest := []) C hW (c_X1_total e6) kX1_total q486 rfl rfl rfl hl.1 ⟨Nat.le_of_ble_eq_true rfl, Nat.le_of_ble_eq_true rfl⟩ ⟨Nat.le_refl 0, Nat.le_refl 0⟩ (Nat.le_of_ble_eq_true rfl) dX5_matched_33 (fun H locs hW => ?_)
    obtain ⟨rfl, rfl⟩ := Prod.mk.inj (Option.some.inj hm)
    exact en_i C hr hlk hW dX5_matched_36
  · rw [if_neg hc3] at hm
    refine lv_aload_n hx hb dX5_matched_10 rfl (lv_at hl 0 rfl) ?_
    refine lv_ldc hx hb C.2.2.2.1 (C.2.2.2.2.1 _ q231) dX5_matched_11 ?_
    obtain ⟨q9, e8, hm⟩ := mi_bind hm
    refine cs_i (q0 := 0) (As := [.int (-1000001 : Int32)]) (rest := []) C hW (c_X5_found e8) kX5_found q232 rfl rfl rfl rfl rfl hl.1 ⟨Nat.le_of_ble_eq_true rfl, Nat.le_of_ble_eq_true rfl⟩ ⟨Nat.le_refl 0, Nat.le_refl 0⟩ (Nat.le_of_ble_eq_true rfl) dX5_matched_13 (fun H locs hW => ?_)
    obtain ⟨rfl, rfl⟩ := Prod.mk.inj (Option.some.inj hm)
    exact en_i C hr hlk hW dX5_matched_16
theorem kX5_matched : KM yX5_matched cX5_matched 2 (some .int) 1 := ⟨q457, q458, q67, q459, by decide +kernel, by decide +kernel, by decide +kernel⟩
def X5_matchOf_b21 (X : XS) : Option (Int32 × XS) := (X5_found X (-1000001 : Int32)).bind fun q2 => some (q2.1, q2.2)
set_option maxHeartbeats 4000000 in
set_option maxRecDepth 100000 in
theorem wX5_matchOf_b21 {p : Program} {l : Launch} {e : Env} {s : State} {m : MethodId} {below : List Frame} {meth : Method} {c : Code} {D : va_G} {cy cz : ClassId} {G : GT} {A : Nat → Prop} {args : Array Value} {o : Nat → Nat → Nat} {z : ZT} {r : Int32} {Xr : XS} (C : Cx p s m args c cX5_matchOf 3 "PumpTalk" D cy cz G A) (hr : meth.sig.returnType = some .int) (hlk : meth.locks = false) (hg : GH G z) : ∀ (X : XS) (H : Heap) (locs : List Loc) (ls : Array Slot), X5_matchOf_b21 X = some (r, Xr) → Wd D A s.heap H locs (cPT o cy cz X) → lv_has ls 3 [(0, .ref (o 9 0))] → W p l e (rmz 6 143) s m args below meth c H locs 0 0 (MQ below (QI D cy cz A (cPT o cy cz Xr) r) args s 0 0 A) (F0 m 21 ls []) := by
  have hx := C.1
  have hb := C.2.1
  intro X H locs ls hm hW hl
  unfold X5_matchOf_b21 at hm
  refine lv_aload_n hx hb dX5_matchOf_21 rfl (lv_at hl 0 rfl) ?_
  refine lv_ldc hx hb C.2.2.2.1 (C.2.2.2.2.1 _ q231) dX5_matchOf_22 ?_
  obtain ⟨q2, e1, hm⟩ := mi_bind hm
  refine cs_i (q0 := 0) (As := [.int (-1000001 : Int32)]) (rest := []) C hW (c_X5_found e1) kX5_found q232 rfl rfl rfl rfl rfl hl.1 ⟨Nat.le_of_ble_eq_true rfl, Nat.le_of_ble_eq_true rfl⟩ ⟨Nat.le_refl 0, Nat.le_refl 0⟩ (Nat.le_of_ble_eq_true rfl) dX5_matchOf_24 (fun H locs hW => ?_)
  obtain ⟨rfl, rfl⟩ := Prod.mk.inj (Option.some.inj hm)
  exact en_i C hr hlk hW dX5_matchOf_27
def X5_matchOf (X : XS) (p1 : Int32) (p2 : Int32) : Option (Int32 × XS) := (X4_isThere (X 0) p1).bind fun v4 => if v4 = (0 : Int32) then (X5_matchOf_b21 X) else ((X5_isOutside p2 (0 : Int32) (30 : Int32)).bind fun v7 => if v7 = (0 : Int32) then ((X5_weighPairs X p2).bind fun s10 => (X1_mateOf (s10 4) p1 (s10 0 11 4)).bind fun v12 => some (v12, s10)) else (X5_matchOf_b21 X))
set_option maxHeartbeats 4000000 in
set_option maxRecDepth 100000 in
theorem c_X5_matchOf {l : Launch} {D : va_G} {cy cz : ClassId} {G : GT} {o : Nat → Nat → Nat} {X : XS} {p1 : Int32} {p2 : Int32} {r : Int32} {Xr : XS} {z : ZT} (hg : GH G z) (hm : X5_matchOf X p1 p2 = some (r, Xr)) : CtI l D cy cz G yX5_matchOf cX5_matchOf 3 (some .int) 6 143 [.ref (o 9 0), .int p1, .int p2] (cPT o cy cz X) (cPT o cy cz Xr) r := by
  refine ct_i (own := "PumpTalk") (by decide) rfl (Nat.le_of_ble_eq_true rfl) ?_
  intro p e s m below meth c ls A C hr hlk hW hl
  have hx := C.1
  have hb := C.2.1
  have hl : lv_has ls 3 [(0, .ref (o 9 0)), (1, .int p1), (2, .int p2)] := hl
  unfold X5_matchOf at hm
  refine lv_aload_n hx hb dX5_matchOf_0 rfl (lv_at hl 0 rfl) ?_
  refine gP_square C hW q199 dX5_matchOf_1 ?_
  refine lv_iload_n hx hb dX5_matchOf_4 rfl (lv_at hl 1 rfl) ?_
  obtain ⟨v4, e3, hm⟩ := mi_bind hm
  refine cq0_i_p (As := [.int p1]) (rest := []) C hW (c_X4_isThere e3) kX4_isThere q253 rfl rfl rfl hl.1 ⟨Nat.le_of_ble_eq_true rfl, Nat.le_of_ble_eq_true rfl⟩ ⟨Nat.le_refl 0, Nat.le_refl 0⟩ (Nat.le_of_ble_eq_true rfl) dX5_matchOf_5 (fun H locs hW => ?_)
  refine lv_if_eq (tgt := 21) hx hb dX5_matchOf_8 (by decide) (fun hc5 => ?_) (fun hc5 => ?_)
  · rw [if_pos hc5] at hm
    exact wX5_matchOf_b21 C hr hlk hg X _ _ _ hm hW (lv_sub hl [0] rfl)
  · rw [if_neg hc5] at hm
    refine lv_iload_n hx hb dX5_matchOf_11 rfl (lv_at hl 2 rfl) ?_
    refine lv_iconst (v := 0) hx hb dX5_matchOf_12 (by decide) ?_
    refine lv_bipush (v := 30) hx hb dX5_matchOf_13 (by decide) ?_
    obtain ⟨v7, e6, hm⟩ := mi_bind hm
    refine cS_i (As := [.int p2, .int (0 : Int32), .int (30 : Int32)]) (rest := []) C hW (c_X5_isOutside e6) kX5_isOutside q228 rfl rfl hl.1 ⟨Nat.le_of_ble_eq_true rfl, Nat.le_of_ble_eq_true rfl⟩ ⟨Nat.le_refl 0, Nat.le_refl 0⟩ (Nat.le_of_ble_eq_true rfl) dX5_matchOf_15 (fun H locs hW => ?_)
    refine lv_if_eq (tgt := 28) hx hb dX5_matchOf_18 (by decide) (fun hc8 => ?_) (fun hc8 => ?_)
    · rw [if_pos hc8] at hm
      refine lv_aload_n hx hb dX5_matchOf_28 rfl (lv_at hl 0 rfl) ?_
      refine lv_iload_n hx hb dX5_matchOf_29 rfl (lv_at hl 2 rfl) ?_
      obtain ⟨s10, e9, hm⟩ := mi_bind hm
      refine cs_v (q0 := 0) (As := [.int p2]) (rest := []) C hW (c_X5_weighPairs hg e9) kX5_weighPairs q460 rfl rfl rfl rfl rfl hl.1 ⟨Nat.le_of_ble_eq_true rfl, Nat.le_of_ble_eq_true rfl⟩ ⟨Nat.le_refl 0, Nat.le_refl 0⟩ (Nat.le_of_ble_eq_true rfl) dX5_matchOf_30 (fun H locs hW => ?_)
      refine lv_aload_n hx hb dX5_matchOf_33 rfl (lv_at hl 0 rfl) ?_
      refine gP_matching C hW q204 dX5_matchOf_34 ?_
      refine lv_iload_n hx hb dX5_matchOf_37 rfl (lv_at hl 1 rfl) ?_
      refine lv_aload_n hx hb dX5_matchOf_38 rfl (lv_at hl 0 rfl) ?_
      refine gP_square C hW q199 dX5_matchOf_39 ?_
      refine gSq_people C (wd_0 hW) q102 dX5_matchOf_42 ?_
      obtain ⟨v12, e11, hm⟩ := mi_bind hm
      refine cq4_i_p (As := [.int p1, .int (s10 0 11 4)]) (rest := []) C hW (c_X1_mateOf hg e11) kX1_mateOf q494 rfl rfl rfl hl.1 ⟨Nat.le_of_ble_eq_true rfl, Nat.le_of_ble_eq_true rfl⟩ ⟨Nat.le_refl 0, Nat.le_refl 0⟩ (Nat.le_of_ble_eq_true rfl) dX5_matchOf_45 (fun H locs hW => ?_)
      obtain ⟨rfl, rfl⟩ := Prod.mk.inj (Option.some.inj hm)
      exact en_i C hr hlk hW dX5_matchOf_48
    · rw [if_neg hc8] at hm
      exact wX5_matchOf_b21 C hr hlk hg X _ _ _ hm hW (lv_sub hl [0] rfl)
theorem kX5_matchOf : KM yX5_matchOf cX5_matchOf 3 (some .int) 2 := ⟨q491, q492, q67, q493, by decide +kernel, by decide +kernel, by decide +kernel⟩
def X5_gainAs (X : XS) (p1 : Int32) (p2 : Int32) (p3 : Int32) (p4 : Int32) (p5 : Int32) : Option (Int32 × XS) := (X4_takeOver (pr2 (X 1) (X 0))).bind fun s2 => (X4_setTrait ((va_up X 1 (s2 0)) 1) p1 p3 p4).bind fun s4 => (X4_pumpBy ((va_up (va_up X 1 (s2 0)) 1 s4) 1) p1 p2 p5).bind fun q6 => some (q6.1, va_up (va_up (va_up X 1 (s2 0)) 1 s4) 1 q6.2)
set_option maxHeartbeats 4000000 in
set_option maxRecDepth 100000 in
theorem c_X5_gainAs {l : Launch} {D : va_G} {cy cz : ClassId} {G : GT} {o : Nat → Nat → Nat} {X : XS} {p1 : Int32} {p2 : Int32} {p3 : Int32} {p4 : Int32} {p5 : Int32} {r : Int32} {Xr : XS} (hm : X5_gainAs X p1 p2 p3 p4 p5 = some (r, Xr)) : CtI l D cy cz G yX5_gainAs cX5_gainAs 6 (some .int) 4 97 [.ref (o 9 0), .int p1, .int p2, .int p3, .int p4, .int p5] (cPT o cy cz X) (cPT o cy cz Xr) r := by
  refine ct_i (own := "PumpTalk") (by decide) rfl (Nat.le_of_ble_eq_true rfl) ?_
  intro p e s m below meth c ls A C hr hlk hW hl
  have hx := C.1
  have hb := C.2.1
  have hl : lv_has ls 6 [(0, .ref (o 9 0)), (1, .int p1), (2, .int p2), (3, .int p3), (4, .int p4), (5, .int p5)] := hl
  unfold X5_gainAs at hm
  refine lv_aload_n hx hb dX5_gainAs_0 rfl (lv_at hl 0 rfl) ?_
  refine gP_trial C hW q200 dX5_gainAs_1 ?_
  refine lv_aload_n hx hb dX5_gainAs_4 rfl (lv_at hl 0 rfl) ?_
  refine gP_square C hW q199 dX5_gainAs_5 ?_
  obtain ⟨s2, e1, hm⟩ := mi_bind hm
  refine cq10_v_s1 (As := [.ref (o 0 0)]) (rest := []) C hW (c_X4_takeOver_2 e1) kX4_takeOver q400 rfl rfl rfl hl.1 ⟨Nat.le_of_ble_eq_true rfl, Nat.le_of_ble_eq_true rfl⟩ ⟨Nat.le_refl 0, Nat.le_refl 0⟩ (Nat.le_of_ble_eq_true rfl) dX5_gainAs_8 (fun H locs hW => ?_)
  refine lv_aload_n hx hb dX5_gainAs_11 rfl (lv_at hl 0 rfl) ?_
  refine gP_trial C hW q200 dX5_gainAs_12 ?_
  refine lv_iload_n hx hb dX5_gainAs_15 rfl (lv_at hl 1 rfl) ?_
  refine lv_iload_n hx hb dX5_gainAs_16 rfl (lv_at hl 3 rfl) ?_
  refine lv_iload hx hb dX5_gainAs_17 (lv_at hl 4 rfl) ?_
  obtain ⟨s4, e3, hm⟩ := mi_bind hm
  refine cq1_v_s (As := [.int p1, .int p3, .int p4]) (rest := []) C hW (c_X4_setTrait e3) kX4_setTrait q282 rfl rfl rfl hl.1 ⟨Nat.le_of_ble_eq_true rfl, Nat.le_of_ble_eq_true rfl⟩ ⟨Nat.le_refl 0, Nat.le_refl 0⟩ (Nat.le_of_ble_eq_true rfl) dX5_gainAs_19 (fun H locs hW => ?_)
  refine lv_aload_n hx hb dX5_gainAs_22 rfl (lv_at hl 0 rfl) ?_
  refine gP_trial C hW q200 dX5_gainAs_23 ?_
  refine lv_iload_n hx hb dX5_gainAs_26 rfl (lv_at hl 1 rfl) ?_
  refine lv_iload_n hx hb dX5_gainAs_27 rfl (lv_at hl 2 rfl) ?_
  refine lv_iload hx hb dX5_gainAs_28 (lv_at hl 5 rfl) ?_
  obtain ⟨q6, e5, hm⟩ := mi_bind hm
  refine cq1_i_s (As := [.int p1, .int p2, .int p5]) (rest := []) C hW (c_X4_pumpBy e5) kX4_pumpBy q439 rfl rfl rfl hl.1 ⟨Nat.le_of_ble_eq_true rfl, Nat.le_of_ble_eq_true rfl⟩ ⟨Nat.le_refl 0, Nat.le_refl 0⟩ (Nat.le_of_ble_eq_true rfl) dX5_gainAs_30 (fun H locs hW => ?_)
  obtain ⟨rfl, rfl⟩ := Prod.mk.inj (Option.some.inj hm)
  exact en_i C hr hlk hW dX5_gainAs_33
theorem kX5_gainAs : KM yX5_gainAs cX5_gainAs 6 (some .int) 5 := ⟨q512, q8, q67, q513, by decide +kernel, by decide +kernel, by decide +kernel⟩
def X5_bestTrait_b15 : Nat → XS → Int32 → Int32 → Int32 → Int32 → Int32 → Int32 → Int32 → Option (Int32 × XS)
  | 0, _, _, _, _, _, _, _, _ => none
  | n + 1, X, x1, x2, x3, x4, x5, x6, x7 => (X5_mostTrait x3).bind fun v2 => if v2 < x7 then (some (x5, X)) else ((X5_gainAs X x1 x2 x3 x7 x4).bind fun q5 => if q5.1 ≤ x6 then (X5_bestTrait_b15 n q5.2 x1 x2 x3 x4 x5 x6 ((x7 + (1 : Int32)))) else (X5_bestTrait_b15 n q5.2 x1 x2 x3 x4 x7 q5.1 ((x7 + (1 : Int32)))))
set_option maxHeartbeats 4000000 in
set_option maxRecDepth 100000 in
theorem wX5_bestTrait_b15 {p : Program} {l : Launch} {e : Env} {s : State} {m : MethodId} {below : List Frame} {meth : Method} {c : Code} {D : va_G} {cy cz : ClassId} {G : GT} {A : Nat → Prop} {args : Array Value} {o : Nat → Nat → Nat} {r : Int32} {Xr : XS} (C : Cx p s m args c cX5_bestTrait 9 "PumpTalk" D cy cz G A) (hr : meth.sig.returnType = some .int) (hlk : meth.locks = false) : ∀ (n : Nat) (X : XS) (x1 : Int32) (x2 : Int32) (x3 : Int32) (x4 : Int32) (x5 : Int32) (x6 : Int32) (x7 : Int32) (H : Heap) (locs : List Loc) (ls : Array Slot), X5_bestTrait_b15 n X x1 x2 x3 x4 x5 x6 x7 = some (r, Xr) → Wd D A s.heap H locs (cPT o cy cz X) → lv_has ls 9 [(0, .ref (o 9 0)), (1, .int x1), (2, .int x2), (3, .int x3), (4, .int x4), (5, .int x5), (6, .int x6), (7, .int x7)] → W p l e (rmz 5 122) s m args below meth c H locs 0 0 (MQ below (QI D cy cz A (cPT o cy cz Xr) r) args s 0 0 A) (F0 m 15 ls []) := by
  have hx := C.1
  have hb := C.2.1
  intro n
  induction n with
  | zero =>
    intro X x1 x2 x3 x4 x5 x6 x7 H locs ls hm
    rw [X5_bestTrait_b15] at hm
    cases hm
  | succ n ih =>
    intro X x1 x2 x3 x4 x5 x6 x7 H locs ls hm hW hl
    rw [X5_bestTrait_b15] at hm
    refine lv_iload hx hb dX5_bestTrait_15 (lv_at hl 7 rfl) ?_
    refine lv_iload_n hx hb dX5_bestTrait_17 rfl (lv_at hl 3 rfl) ?_
    obtain ⟨v2, e1, hm⟩ := mi_bind hm
    refine cS_i (As := [.int x3]) (rest := [.int x7]) C hW (c_X5_mostTrait e1) kX5_mostTrait q279 rfl rfl hl.1 ⟨Nat.le_of_ble_eq_true rfl, Nat.le_of_ble_eq_true rfl⟩ ⟨Nat.le_refl 0, Nat.le_refl 0⟩ (Nat.le_of_ble_eq_true rfl) dX5_bestTrait_18 (fun H locs hW => ?_)
    refine lv_icmp_gt (tgt := 58) hx hb dX5_bestTrait_21 (by decide) (fun hc3 => ?_) (fun hc3 => ?_)
    · rw [if_pos hc3] at hm
      refine lv_iload hx hb dX5_bestTrait_58 (lv_at hl 5 rfl) ?_
      obtain ⟨rfl, rfl⟩ := Prod.mk.inj (Option.some.inj hm)
      exact en_i C hr hlk hW dX5_bestTrait_60
    · rw [if_neg hc3] at hm
      refine lv_aload_n hx hb dX5_bestTrait_24 rfl (lv_at hl 0 rfl) ?_
      refine lv_iload_n hx hb dX5_bestTrait_25 rfl (lv_at hl 1 rfl) ?_
      refine lv_iload_n hx hb dX5_bestTrait_26 rfl (lv_at hl 2 rfl) ?_
      refine lv_iload_n hx hb dX5_bestTrait_27 rfl (lv_at hl 3 rfl) ?_
      refine lv_iload hx hb dX5_bestTrait_28 (lv_at hl 7 rfl) ?_
      refine lv_iload hx hb dX5_bestTrait_30 (lv_at hl 4 rfl) ?_
      obtain ⟨q5, e4, hm⟩ := mi_bind hm
      refine cs_i (q0 := 0) (As := [.int x1, .int x2, .int x3, .int x7, .int x4]) (rest := []) C hW (c_X5_gainAs e4) kX5_gainAs q510 rfl rfl rfl rfl rfl hl.1 ⟨Nat.le_of_ble_eq_true rfl, Nat.le_of_ble_eq_true rfl⟩ ⟨Nat.le_refl 0, Nat.le_refl 0⟩ (Nat.le_of_ble_eq_true rfl) dX5_bestTrait_32 (fun H locs hW => ?_)
      refine lv_istore (lv' := [(8, .int q5.1), (0, .ref (o 9 0)), (1, .int x1), (2, .int x2), (3, .int x3), (4, .int x4), (5, .int x5), (6, .int x6), (7, .int x7)]) hx hb dX5_bestTrait_35 hl (by decide) rfl (fun ls hl => ?_)
      refine lv_iload hx hb dX5_bestTrait_37 (lv_at hl 0 rfl) ?_
      refine lv_iload hx hb dX5_bestTrait_39 (lv_at hl 7 rfl) ?_
      refine lv_icmp_le (tgt := 52) hx hb dX5_bestTrait_41 (by decide) (fun hc6 => ?_) (fun hc6 => ?_)
      · rw [if_pos hc6] at hm
        refine lv_iinc (v := (x7 + (1 : Int32))) (lv' := [(7, .int (x7 + (1 : Int32))), (8, .int q5.1), (0, .ref (o 9 0)), (1, .int x1), (2, .int x2), (3, .int x3), (4, .int x4), (5, .int x5), (6, .int x6)]) hx hb dX5_bestTrait_52 hl (k := 8) rfl (congrArg (fun z : Int32 => x7 + z) (by decide)) (by decide) rfl (fun ls hl => ?_)
        refine lv_goto (tgt := 15) hx hb dX5_bestTrait_55 (by decide) ?_
        exact ih q5.2 x1 x2 x3 x4 x5 x6 ((x7 + (1 : Int32))) _ _ _ hm hW (lv_sub hl [2, 3, 4, 5, 6, 7, 8, 0] rfl)
      · rw [if_neg hc6] at hm
        refine lv_iload hx hb dX5_bestTrait_44 (lv_at hl 0 rfl) ?_
        refine lv_istore (lv' := [(6, .int q5.1), (8, .int q5.1), (0, .ref (o 9 0)), (1, .int x1), (2, .int x2), (3, .int x3), (4, .int x4), (5, .int x5), (7, .int x7)]) hx hb dX5_bestTrait_46 hl (by decide) rfl (fun ls hl => ?_)
        refine lv_iload hx hb dX5_bestTrait_48 (lv_at hl 8 rfl) ?_
        refine lv_istore (lv' := [(5, .int x7), (6, .int q5.1), (8, .int q5.1), (0, .ref (o 9 0)), (1, .int x1), (2, .int x2), (3, .int x3), (4, .int x4), (7, .int x7)]) hx hb dX5_bestTrait_50 hl (by decide) rfl (fun ls hl => ?_)
        refine lv_iinc (v := (x7 + (1 : Int32))) (lv' := [(7, .int (x7 + (1 : Int32))), (5, .int x7), (6, .int q5.1), (8, .int q5.1), (0, .ref (o 9 0)), (1, .int x1), (2, .int x2), (3, .int x3), (4, .int x4)]) hx hb dX5_bestTrait_52 hl (k := 8) rfl (congrArg (fun z : Int32 => x7 + z) (by decide)) (by decide) rfl (fun ls hl => ?_)
        refine lv_goto (tgt := 15) hx hb dX5_bestTrait_55 (by decide) ?_
        exact ih q5.2 x1 x2 x3 x4 x7 q5.1 ((x7 + (1 : Int32))) _ _ _ hm hW (lv_sub hl [4, 5, 6, 7, 8, 1, 2, 0] rfl)
def X5_bestTrait (X : XS) (p1 : Int32) (p2 : Int32) (p3 : Int32) (p4 : Int32) : Option (Int32 × XS) := (X5_leastTrait p3).bind fun v8 => (X5_leastTrait p3).bind fun v10 => X5_bestTrait_b15 FU X p1 p2 p3 p4 v8 (-1 : Int32) v10
set_option maxHeartbeats 4000000 in
set_option maxRecDepth 100000 in
theorem c_X5_bestTrait {l : Launch} {D : va_G} {cy cz : ClassId} {G : GT} {o : Nat → Nat → Nat} {X : XS} {p1 : Int32} {p2 : Int32} {p3 : Int32} {p4 : Int32} {r : Int32} {Xr : XS} (hm : X5_bestTrait X p1 p2 p3 p4 = some (r, Xr)) : CtI l D cy cz G yX5_bestTrait cX5_bestTrait 9 (some .int) 5 122 [.ref (o 9 0), .int p1, .int p2, .int p3, .int p4] (cPT o cy cz X) (cPT o cy cz Xr) r := by
  refine ct_i (own := "PumpTalk") (by decide) rfl (Nat.le_of_ble_eq_true rfl) ?_
  intro p e s m below meth c ls A C hr hlk hW hl
  have hx := C.1
  have hb := C.2.1
  have hl : lv_has ls 9 [(0, .ref (o 9 0)), (1, .int p1), (2, .int p2), (3, .int p3), (4, .int p4)] := hl
  unfold X5_bestTrait at hm
  refine lv_iload_n hx hb dX5_bestTrait_0 rfl (lv_at hl 3 rfl) ?_
  obtain ⟨v8, e7, hm⟩ := mi_bind hm
  refine cS_i (As := [.int p3]) (rest := []) C hW (c_X5_leastTrait e7) kX5_leastTrait q276 rfl rfl hl.1 ⟨Nat.le_of_ble_eq_true rfl, Nat.le_of_ble_eq_true rfl⟩ ⟨Nat.le_refl 0, Nat.le_refl 0⟩ (Nat.le_of_ble_eq_true rfl) dX5_bestTrait_1 (fun H locs hW => ?_)
  refine lv_istore (lv' := [(5, .int v8), (0, .ref (o 9 0)), (1, .int p1), (2, .int p2), (3, .int p3), (4, .int p4)]) hx hb dX5_bestTrait_4 hl (by decide) rfl (fun ls hl => ?_)
  refine lv_iconst (v := -1) hx hb dX5_bestTrait_6 (by decide) ?_
  refine lv_istore (lv' := [(6, .int (-1 : Int32)), (5, .int v8), (0, .ref (o 9 0)), (1, .int p1), (2, .int p2), (3, .int p3), (4, .int p4)]) hx hb dX5_bestTrait_7 hl (by decide) rfl (fun ls hl => ?_)
  refine lv_iload_n hx hb dX5_bestTrait_9 rfl (lv_at hl 5 rfl) ?_
  obtain ⟨v10, e9, hm⟩ := mi_bind hm
  refine cS_i (As := [.int p3]) (rest := []) C hW (c_X5_leastTrait e9) kX5_leastTrait q276 rfl rfl hl.1 ⟨Nat.le_of_ble_eq_true rfl, Nat.le_of_ble_eq_true rfl⟩ ⟨Nat.le_refl 0, Nat.le_refl 0⟩ (Nat.le_of_ble_eq_true rfl) dX5_bestTrait_10 (fun H locs hW => ?_)
  refine lv_istore (lv' := [(7, .int v10), (6, .int (-1 : Int32)), (5, .int v8), (0, .ref (o 9 0)), (1, .int p1), (2, .int p2), (3, .int p3), (4, .int p4)]) hx hb dX5_bestTrait_13 hl (by decide) rfl (fun ls hl => ?_)
  exact wX5_bestTrait_b15 C hr hlk FU X p1 p2 p3 p4 v8 (-1 : Int32) v10 _ _ _ hm hW (lv_sub hl [3, 4, 5, 6, 7, 2, 1, 0] rfl)
theorem kX5_bestTrait : KM yX5_bestTrait cX5_bestTrait 9 (some .int) 4 := ⟨q508, q7, q67, q509, by decide +kernel, by decide +kernel, by decide +kernel⟩
def X5_kindFor_b19 (X : XS) : Option (Int32 × XS) := (X5_found X (-1000001 : Int32)).bind fun q2 => some (q2.1, q2.2)
set_option maxHeartbeats 4000000 in
set_option maxRecDepth 100000 in
theorem wX5_kindFor_b19 {p : Program} {l : Launch} {e : Env} {s : State} {m : MethodId} {below : List Frame} {meth : Method} {c : Code} {D : va_G} {cy cz : ClassId} {G : GT} {A : Nat → Prop} {args : Array Value} {o : Nat → Nat → Nat} {r : Int32} {Xr : XS} (C : Cx p s m args c cX5_kindFor 4 "PumpTalk" D cy cz G A) (hr : meth.sig.returnType = some .int) (hlk : meth.locks = false) : ∀ (X : XS) (H : Heap) (locs : List Loc) (ls : Array Slot), X5_kindFor_b19 X = some (r, Xr) → Wd D A s.heap H locs (cPT o cy cz X) → lv_has ls 4 [(0, .ref (o 9 0))] → W p l e (rmz 6 150) s m args below meth c H locs 0 0 (MQ below (QI D cy cz A (cPT o cy cz Xr) r) args s 0 0 A) (F0 m 19 ls []) := by
  have hx := C.1
  have hb := C.2.1
  intro X H locs ls hm hW hl
  unfold X5_kindFor_b19 at hm
  refine lv_aload_n hx hb dX5_kindFor_19 rfl (lv_at hl 0 rfl) ?_
  refine lv_ldc hx hb C.2.2.2.1 (C.2.2.2.2.1 _ q231) dX5_kindFor_20 ?_
  obtain ⟨q2, e1, hm⟩ := mi_bind hm
  refine cs_i (q0 := 0) (As := [.int (-1000001 : Int32)]) (rest := []) C hW (c_X5_found e1) kX5_found q232 rfl rfl rfl rfl rfl hl.1 ⟨Nat.le_of_ble_eq_true rfl, Nat.le_of_ble_eq_true rfl⟩ ⟨Nat.le_refl 0, Nat.le_refl 0⟩ (Nat.le_of_ble_eq_true rfl) dX5_kindFor_22 (fun H locs hW => ?_)
  obtain ⟨rfl, rfl⟩ := Prod.mk.inj (Option.some.inj hm)
  exact en_i C hr hlk hW dX5_kindFor_25
def X5_kindFor (X : XS) (p1 : Int32) (p2 : Int32) (p3 : Int32) : Option (Int32 × XS) := (X5_isNoPair X p1 p2).bind fun v4 => if v4 = (0 : Int32) then ((X5_isOutside p3 (0 : Int32) (60 : Int32)).bind fun v7 => if v7 = (0 : Int32) then ((X5_bestTrait X p1 p2 (0 : Int32) p3).bind fun q10 => some (q10.1, q10.2)) else (X5_kindFor_b19 X)) else (X5_kindFor_b19 X)
set_option maxHeartbeats 4000000 in
set_option maxRecDepth 100000 in
theorem c_X5_kindFor {l : Launch} {D : va_G} {cy cz : ClassId} {G : GT} {o : Nat → Nat → Nat} {X : XS} {p1 : Int32} {p2 : Int32} {p3 : Int32} {r : Int32} {Xr : XS} (hm : X5_kindFor X p1 p2 p3 = some (r, Xr)) : CtI l D cy cz G yX5_kindFor cX5_kindFor 4 (some .int) 6 150 [.ref (o 9 0), .int p1, .int p2, .int p3] (cPT o cy cz X) (cPT o cy cz Xr) r := by
  refine ct_i (own := "PumpTalk") (by decide) rfl (Nat.le_of_ble_eq_true rfl) ?_
  intro p e s m below meth c ls A C hr hlk hW hl
  have hx := C.1
  have hb := C.2.1
  have hl : lv_has ls 4 [(0, .ref (o 9 0)), (1, .int p1), (2, .int p2), (3, .int p3)] := hl
  unfold X5_kindFor at hm
  refine lv_aload_n hx hb dX5_kindFor_0 rfl (lv_at hl 0 rfl) ?_
  refine lv_iload_n hx hb dX5_kindFor_1 rfl (lv_at hl 1 rfl) ?_
  refine lv_iload_n hx hb dX5_kindFor_2 rfl (lv_at hl 2 rfl) ?_
  obtain ⟨v4, e3, hm⟩ := mi_bind hm
  refine cs_i (q0 := 0) (As := [.int p1, .int p2]) (rest := []) C hW (c_X5_isNoPair e3) kX5_isNoPair q322 rfl rfl rfl rfl rfl hl.1 ⟨Nat.le_of_ble_eq_true rfl, Nat.le_of_ble_eq_true rfl⟩ ⟨Nat.le_refl 0, Nat.le_refl 0⟩ (Nat.le_of_ble_eq_true rfl) dX5_kindFor_3 (fun H locs hW => ?_)
  refine lv_if_ne (tgt := 19) hx hb dX5_kindFor_6 (by decide) (fun hc5 => ?_) (fun hc5 => ?_)
  · rw [if_neg hc5] at hm
    exact wX5_kindFor_b19 C hr hlk X _ _ _ hm hW (lv_sub hl [0] rfl)
  · rw [if_pos hc5] at hm
    refine lv_iload_n hx hb dX5_kindFor_9 rfl (lv_at hl 3 rfl) ?_
    refine lv_iconst (v := 0) hx hb dX5_kindFor_10 (by decide) ?_
    refine lv_bipush (v := 60) hx hb dX5_kindFor_11 (by decide) ?_
    obtain ⟨v7, e6, hm⟩ := mi_bind hm
    refine cS_i (As := [.int p3, .int (0 : Int32), .int (60 : Int32)]) (rest := []) C hW (c_X5_isOutside e6) kX5_isOutside q228 rfl rfl hl.1 ⟨Nat.le_of_ble_eq_true rfl, Nat.le_of_ble_eq_true rfl⟩ ⟨Nat.le_refl 0, Nat.le_refl 0⟩ (Nat.le_of_ble_eq_true rfl) dX5_kindFor_13 (fun H locs hW => ?_)
    refine lv_if_eq (tgt := 26) hx hb dX5_kindFor_16 (by decide) (fun hc8 => ?_) (fun hc8 => ?_)
    · rw [if_pos hc8] at hm
      refine lv_aload_n hx hb dX5_kindFor_26 rfl (lv_at hl 0 rfl) ?_
      refine lv_iload_n hx hb dX5_kindFor_27 rfl (lv_at hl 1 rfl) ?_
      refine lv_iload_n hx hb dX5_kindFor_28 rfl (lv_at hl 2 rfl) ?_
      refine lv_iconst (v := 0) hx hb dX5_kindFor_29 (by decide) ?_
      refine lv_iload_n hx hb dX5_kindFor_30 rfl (lv_at hl 3 rfl) ?_
      obtain ⟨q10, e9, hm⟩ := mi_bind hm
      refine cs_i (q0 := 0) (As := [.int p1, .int p2, .int (0 : Int32), .int p3]) (rest := []) C hW (c_X5_bestTrait e9) kX5_bestTrait q506 rfl rfl rfl rfl rfl hl.1 ⟨Nat.le_of_ble_eq_true rfl, Nat.le_of_ble_eq_true rfl⟩ ⟨Nat.le_refl 0, Nat.le_refl 0⟩ (Nat.le_of_ble_eq_true rfl) dX5_kindFor_31 (fun H locs hW => ?_)
      obtain ⟨rfl, rfl⟩ := Prod.mk.inj (Option.some.inj hm)
      exact en_i C hr hlk hW dX5_kindFor_34
    · rw [if_neg hc8] at hm
      exact wX5_kindFor_b19 C hr hlk X _ _ _ hm hW (lv_sub hl [0] rfl)
theorem kX5_kindFor : KM yX5_kindFor cX5_kindFor 4 (some .int) 3 := ⟨q503, q504, q67, q505, by decide +kernel, by decide +kernel, by decide +kernel⟩
def X5_viewFor_b27 (X : XS) : Option (Int32 × XS) := (X5_found X (-1000001 : Int32)).bind fun q2 => some (q2.1, q2.2)
set_option maxHeartbeats 4000000 in
set_option maxRecDepth 100000 in
theorem wX5_viewFor_b27 {p : Program} {l : Launch} {e : Env} {s : State} {m : MethodId} {below : List Frame} {meth : Method} {c : Code} {D : va_G} {cy cz : ClassId} {G : GT} {A : Nat → Prop} {args : Array Value} {o : Nat → Nat → Nat} {r : Int32} {Xr : XS} (C : Cx p s m args c cX5_viewFor 5 "PumpTalk" D cy cz G A) (hr : meth.sig.returnType = some .int) (hlk : meth.locks = false) : ∀ (X : XS) (H : Heap) (locs : List Loc) (ls : Array Slot), X5_viewFor_b27 X = some (r, Xr) → Wd D A s.heap H locs (cPT o cy cz X) → lv_has ls 5 [(0, .ref (o 9 0))] → W p l e (rmz 6 150) s m args below meth c H locs 0 0 (MQ below (QI D cy cz A (cPT o cy cz Xr) r) args s 0 0 A) (F0 m 27 ls []) := by
  have hx := C.1
  have hb := C.2.1
  intro X H locs ls hm hW hl
  unfold X5_viewFor_b27 at hm
  refine lv_aload_n hx hb dX5_viewFor_27 rfl (lv_at hl 0 rfl) ?_
  refine lv_ldc hx hb C.2.2.2.1 (C.2.2.2.2.1 _ q231) dX5_viewFor_28 ?_
  obtain ⟨q2, e1, hm⟩ := mi_bind hm
  refine cs_i (q0 := 0) (As := [.int (-1000001 : Int32)]) (rest := []) C hW (c_X5_found e1) kX5_found q232 rfl rfl rfl rfl rfl hl.1 ⟨Nat.le_of_ble_eq_true rfl, Nat.le_of_ble_eq_true rfl⟩ ⟨Nat.le_refl 0, Nat.le_refl 0⟩ (Nat.le_of_ble_eq_true rfl) dX5_viewFor_30 (fun H locs hW => ?_)
  obtain ⟨rfl, rfl⟩ := Prod.mk.inj (Option.some.inj hm)
  exact en_i C hr hlk hW dX5_viewFor_33
def X5_viewFor (X : XS) (p1 : Int32) (p2 : Int32) (p3 : Int32) (p4 : Int32) : Option (Int32 × XS) := (X5_isNoPair X p1 p2).bind fun v4 => if v4 = (0 : Int32) then ((X5_isNoSubject p3).bind fun v7 => if v7 = (0 : Int32) then ((X5_isOutside p4 (0 : Int32) (60 : Int32)).bind fun v10 => if v10 = (0 : Int32) then ((X5_bestTrait X p1 p2 ((2 : Int32) + p3) p4).bind fun q13 => some (q13.1, q13.2)) else (X5_viewFor_b27 X)) else (X5_viewFor_b27 X)) else (X5_viewFor_b27 X)
set_option maxHeartbeats 4000000 in
set_option maxRecDepth 100000 in
theorem c_X5_viewFor {l : Launch} {D : va_G} {cy cz : ClassId} {G : GT} {o : Nat → Nat → Nat} {X : XS} {p1 : Int32} {p2 : Int32} {p3 : Int32} {p4 : Int32} {r : Int32} {Xr : XS} (hm : X5_viewFor X p1 p2 p3 p4 = some (r, Xr)) : CtI l D cy cz G yX5_viewFor cX5_viewFor 5 (some .int) 6 150 [.ref (o 9 0), .int p1, .int p2, .int p3, .int p4] (cPT o cy cz X) (cPT o cy cz Xr) r := by
  refine ct_i (own := "PumpTalk") (by decide) rfl (Nat.le_of_ble_eq_true rfl) ?_
  intro p e s m below meth c ls A C hr hlk hW hl
  have hx := C.1
  have hb := C.2.1
  have hl : lv_has ls 5 [(0, .ref (o 9 0)), (1, .int p1), (2, .int p2), (3, .int p3), (4, .int p4)] := hl
  unfold X5_viewFor at hm
  refine lv_aload_n hx hb dX5_viewFor_0 rfl (lv_at hl 0 rfl) ?_
  refine lv_iload_n hx hb dX5_viewFor_1 rfl (lv_at hl 1 rfl) ?_
  refine lv_iload_n hx hb dX5_viewFor_2 rfl (lv_at hl 2 rfl) ?_
  obtain ⟨v4, e3, hm⟩ := mi_bind hm
  refine cs_i (q0 := 0) (As := [.int p1, .int p2]) (rest := []) C hW (c_X5_isNoPair e3) kX5_isNoPair q322 rfl rfl rfl rfl rfl hl.1 ⟨Nat.le_of_ble_eq_true rfl, Nat.le_of_ble_eq_true rfl⟩ ⟨Nat.le_refl 0, Nat.le_refl 0⟩ (Nat.le_of_ble_eq_true rfl) dX5_viewFor_3 (fun H locs hW => ?_)
  refine lv_if_ne (tgt := 27) hx hb dX5_viewFor_6 (by decide) (fun hc5 => ?_) (fun hc5 => ?_)
  · rw [if_neg hc5] at hm
    exact wX5_viewFor_b27 C hr hlk X _ _ _ hm hW (lv_sub hl [0] rfl)
  · rw [if_pos hc5] at hm
    refine lv_iload_n hx hb dX5_viewFor_9 rfl (lv_at hl 3 rfl) ?_
    obtain ⟨v7, e6, hm⟩ := mi_bind hm
    refine cS_i (As := [.int p3]) (rest := []) C hW (c_X5_isNoSubject e6) kX5_isNoSubject q308 rfl rfl hl.1 ⟨Nat.le_of_ble_eq_true rfl, Nat.le_of_ble_eq_true rfl⟩ ⟨Nat.le_refl 0, Nat.le_refl 0⟩ (Nat.le_of_ble_eq_true rfl) dX5_viewFor_10 (fun H locs hW => ?_)
    refine lv_if_ne (tgt := 27) hx hb dX5_viewFor_13 (by decide) (fun hc8 => ?_) (fun hc8 => ?_)
    · rw [if_neg hc8] at hm
      exact wX5_viewFor_b27 C hr hlk X _ _ _ hm hW (lv_sub hl [0] rfl)
    · rw [if_pos hc8] at hm
      refine lv_iload hx hb dX5_viewFor_16 (lv_at hl 4 rfl) ?_
      refine lv_iconst (v := 0) hx hb dX5_viewFor_18 (by decide) ?_
      refine lv_bipush (v := 60) hx hb dX5_viewFor_19 (by decide) ?_
      obtain ⟨v10, e9, hm⟩ := mi_bind hm
      refine cS_i (As := [.int p4, .int (0 : Int32), .int (60 : Int32)]) (rest := []) C hW (c_X5_isOutside e9) kX5_isOutside q228 rfl rfl hl.1 ⟨Nat.le_of_ble_eq_true rfl, Nat.le_of_ble_eq_true rfl⟩ ⟨Nat.le_refl 0, Nat.le_refl 0⟩ (Nat.le_of_ble_eq_true rfl) dX5_viewFor_21 (fun H locs hW => ?_)
      refine lv_if_eq (tgt := 34) hx hb dX5_viewFor_24 (by decide) (fun hc11 => ?_) (fun hc11 => ?_)
      · rw [if_pos hc11] at hm
        refine lv_aload_n hx hb dX5_viewFor_34 rfl (lv_at hl 0 rfl) ?_
        refine lv_iload_n hx hb dX5_viewFor_35 rfl (lv_at hl 1 rfl) ?_
        refine lv_iload_n hx hb dX5_viewFor_36 rfl (lv_at hl 2 rfl) ?_
        refine lv_iconst (v := 2) hx hb dX5_viewFor_37 (by decide) ?_
        refine lv_iload_n hx hb dX5_viewFor_38 rfl (lv_at hl 3 rfl) ?_
        refine lv_iadd hx hb dX5_viewFor_39 ?_
        refine lv_iload hx hb dX5_viewFor_40 (lv_at hl 4 rfl) ?_
        obtain ⟨q13, e12, hm⟩ := mi_bind hm
        refine cs_i (q0 := 0) (As := [.int p1, .int p2, .int ((2 : Int32) + p3), .int p4]) (rest := []) C hW (c_X5_bestTrait e12) kX5_bestTrait q506 rfl rfl rfl rfl rfl hl.1 ⟨Nat.le_of_ble_eq_true rfl, Nat.le_of_ble_eq_true rfl⟩ ⟨Nat.le_refl 0, Nat.le_refl 0⟩ (Nat.le_of_ble_eq_true rfl) dX5_viewFor_42 (fun H locs hW => ?_)
        obtain ⟨rfl, rfl⟩ := Prod.mk.inj (Option.some.inj hm)
        exact en_i C hr hlk hW dX5_viewFor_45
      · rw [if_neg hc11] at hm
        exact wX5_viewFor_b27 C hr hlk X _ _ _ hm hW (lv_sub hl [0] rfl)
theorem kX5_viewFor : KM yX5_viewFor cX5_viewFor 5 (some .int) 4 := ⟨q515, q516, q67, q517, by decide +kernel, by decide +kernel, by decide +kernel⟩
def X5_voiceFor_b41 : Nat → XS → Int32 → Int32 → Int32 → Int32 → Int32 → Option (Int32 × XS)
  | 0, _, _, _, _, _, _ => none
  | n + 1, X, x1, x2, x3, x4, x5 => if (9 : Int32) < x5 then ((X5_found X (-1000004 : Int32)).bind fun q3 => some (q3.1, q3.2)) else ((X5_gainAs X x1 x2 (1 : Int32) x5 x4).bind fun q5 => if q5.1 < x3 then (X5_voiceFor_b41 n q5.2 x1 x2 x3 x4 ((x5 + (1 : Int32)))) else (some (x5, q5.2)))
set_option maxHeartbeats 4000000 in
set_option maxRecDepth 100000 in
theorem wX5_voiceFor_b41 {p : Program} {l : Launch} {e : Env} {s : State} {m : MethodId} {below : List Frame} {meth : Method} {c : Code} {D : va_G} {cy cz : ClassId} {G : GT} {A : Nat → Prop} {args : Array Value} {o : Nat → Nat → Nat} {r : Int32} {Xr : XS} (C : Cx p s m args c cX5_voiceFor 6 "PumpTalk" D cy cz G A) (hr : meth.sig.returnType = some .int) (hlk : meth.locks = false) : ∀ (n : Nat) (X : XS) (x1 : Int32) (x2 : Int32) (x3 : Int32) (x4 : Int32) (x5 : Int32) (H : Heap) (locs : List Loc) (ls : Array Slot), X5_voiceFor_b41 n X x1 x2 x3 x4 x5 = some (r, Xr) → Wd D A s.heap H locs (cPT o cy cz X) → lv_has ls 6 [(0, .ref (o 9 0)), (1, .int x1), (2, .int x2), (3, .int x3), (4, .int x4), (5, .int x5)] → W p l e (rmz 5 122) s m args below meth c H locs 0 0 (MQ below (QI D cy cz A (cPT o cy cz Xr) r) args s 0 0 A) (F0 m 41 ls []) := by
  have hx := C.1
  have hb := C.2.1
  intro n
  induction n with
  | zero =>
    intro X x1 x2 x3 x4 x5 H locs ls hm
    rw [X5_voiceFor_b41] at hm
    cases hm
  | succ n ih =>
    intro X x1 x2 x3 x4 x5 H locs ls hm hW hl
    rw [X5_voiceFor_b41] at hm
    refine lv_iload hx hb dX5_voiceFor_41 (lv_at hl 5 rfl) ?_
    refine lv_bipush (v := 9) hx hb dX5_voiceFor_43 (by decide) ?_
    refine lv_icmp_gt (tgt := 72) hx hb dX5_voiceFor_45 (by decide) (fun hc1 => ?_) (fun hc1 => ?_)
    · rw [if_pos hc1] at hm
      refine lv_aload_n hx hb dX5_voiceFor_72 rfl (lv_at hl 0 rfl) ?_
      refine lv_ldc hx hb C.2.2.2.1 (C.2.2.2.2.1 _ q417) dX5_voiceFor_73 ?_
      obtain ⟨q3, e2, hm⟩ := mi_bind hm
      refine cs_i (q0 := 0) (As := [.int (-1000004 : Int32)]) (rest := []) C hW (c_X5_found e2) kX5_found q232 rfl rfl rfl rfl rfl hl.1 ⟨Nat.le_of_ble_eq_true rfl, Nat.le_of_ble_eq_true rfl⟩ ⟨Nat.le_refl 0, Nat.le_refl 0⟩ (Nat.le_of_ble_eq_true rfl) dX5_voiceFor_75 (fun H locs hW => ?_)
      obtain ⟨rfl, rfl⟩ := Prod.mk.inj (Option.some.inj hm)
      exact en_i C hr hlk hW dX5_voiceFor_78
    · rw [if_neg hc1] at hm
      refine lv_aload_n hx hb dX5_voiceFor_48 rfl (lv_at hl 0 rfl) ?_
      refine lv_iload_n hx hb dX5_voiceFor_49 rfl (lv_at hl 1 rfl) ?_
      refine lv_iload_n hx hb dX5_voiceFor_50 rfl (lv_at hl 2 rfl) ?_
      refine lv_iconst (v := 1) hx hb dX5_voiceFor_51 (by decide) ?_
      refine lv_iload hx hb dX5_voiceFor_52 (lv_at hl 5 rfl) ?_
      refine lv_iload hx hb dX5_voiceFor_54 (lv_at hl 4 rfl) ?_
      obtain ⟨q5, e4, hm⟩ := mi_bind hm
      refine cs_i (q0 := 0) (As := [.int x1, .int x2, .int (1 : Int32), .int x5, .int x4]) (rest := []) C hW (c_X5_gainAs e4) kX5_gainAs q510 rfl rfl rfl rfl rfl hl.1 ⟨Nat.le_of_ble_eq_true rfl, Nat.le_of_ble_eq_true rfl⟩ ⟨Nat.le_refl 0, Nat.le_refl 0⟩ (Nat.le_of_ble_eq_true rfl) dX5_voiceFor_56 (fun H locs hW => ?_)
      refine lv_iload_n hx hb dX5_voiceFor_59 rfl (lv_at hl 3 rfl) ?_
      refine lv_icmp_lt (tgt := 66) hx hb dX5_voiceFor_60 (by decide) (fun hc6 => ?_) (fun hc6 => ?_)
      · rw [if_pos hc6] at hm
        refine lv_iinc (v := (x5 + (1 : Int32))) (lv' := [(5, .int (x5 + (1 : Int32))), (0, .ref (o 9 0)), (1, .int x1), (2, .int x2), (3, .int x3), (4, .int x4)]) hx hb dX5_voiceFor_66 hl (k := 5) rfl (congrArg (fun z : Int32 => x5 + z) (by decide)) (by decide) rfl (fun ls hl => ?_)
        refine lv_goto (tgt := 41) hx hb dX5_voiceFor_69 (by decide) ?_
        exact ih q5.2 x1 x2 x3 x4 ((x5 + (1 : Int32))) _ _ _ hm hW (lv_sub hl [1, 2, 3, 4, 5, 0] rfl)
      · rw [if_neg hc6] at hm
        refine lv_iload hx hb dX5_voiceFor_63 (lv_at hl 5 rfl) ?_
        obtain ⟨rfl, rfl⟩ := Prod.mk.inj (Option.some.inj hm)
        exact en_i C hr hlk hW dX5_voiceFor_65
def X5_voiceFor_b31 (X : XS) : Option (Int32 × XS) := (X5_found X (-1000001 : Int32)).bind fun q8 => some (q8.1, q8.2)
set_option maxHeartbeats 4000000 in
set_option maxRecDepth 100000 in
theorem wX5_voiceFor_b31 {p : Program} {l : Launch} {e : Env} {s : State} {m : MethodId} {below : List Frame} {meth : Method} {c : Code} {D : va_G} {cy cz : ClassId} {G : GT} {A : Nat → Prop} {args : Array Value} {o : Nat → Nat → Nat} {r : Int32} {Xr : XS} (C : Cx p s m args c cX5_voiceFor 6 "PumpTalk" D cy cz G A) (hr : meth.sig.returnType = some .int) (hlk : meth.locks = false) : ∀ (X : XS) (H : Heap) (locs : List Loc) (ls : Array Slot), X5_voiceFor_b31 X = some (r, Xr) → Wd D A s.heap H locs (cPT o cy cz X) → lv_has ls 6 [(0, .ref (o 9 0))] → W p l e (rmz 5 122) s m args below meth c H locs 0 0 (MQ below (QI D cy cz A (cPT o cy cz Xr) r) args s 0 0 A) (F0 m 31 ls []) := by
  have hx := C.1
  have hb := C.2.1
  intro X H locs ls hm hW hl
  unfold X5_voiceFor_b31 at hm
  refine lv_aload_n hx hb dX5_voiceFor_31 rfl (lv_at hl 0 rfl) ?_
  refine lv_ldc hx hb C.2.2.2.1 (C.2.2.2.2.1 _ q231) dX5_voiceFor_32 ?_
  obtain ⟨q8, e7, hm⟩ := mi_bind hm
  refine cs_i (q0 := 0) (As := [.int (-1000001 : Int32)]) (rest := []) C hW (c_X5_found e7) kX5_found q232 rfl rfl rfl rfl rfl hl.1 ⟨Nat.le_of_ble_eq_true rfl, Nat.le_of_ble_eq_true rfl⟩ ⟨Nat.le_refl 0, Nat.le_refl 0⟩ (Nat.le_of_ble_eq_true rfl) dX5_voiceFor_34 (fun H locs hW => ?_)
  obtain ⟨rfl, rfl⟩ := Prod.mk.inj (Option.some.inj hm)
  exact en_i C hr hlk hW dX5_voiceFor_37
def X5_voiceFor (X : XS) (p1 : Int32) (p2 : Int32) (p3 : Int32) (p4 : Int32) : Option (Int32 × XS) := (X5_isNoPair X p1 p2).bind fun v10 => if v10 = (0 : Int32) then ((X5_isOutside p3 (0 : Int32) (9999 : Int32)).bind fun v13 => if v13 = (0 : Int32) then ((X5_isOutside p4 (0 : Int32) (60 : Int32)).bind fun v16 => if v16 = (0 : Int32) then (X5_voiceFor_b41 FU X p1 p2 p3 p4 (0 : Int32)) else (X5_voiceFor_b31 X)) else (X5_voiceFor_b31 X)) else (X5_voiceFor_b31 X)
set_option maxHeartbeats 4000000 in
set_option maxRecDepth 100000 in
theorem c_X5_voiceFor {l : Launch} {D : va_G} {cy cz : ClassId} {G : GT} {o : Nat → Nat → Nat} {X : XS} {p1 : Int32} {p2 : Int32} {p3 : Int32} {p4 : Int32} {r : Int32} {Xr : XS} (hm : X5_voiceFor X p1 p2 p3 p4 = some (r, Xr)) : CtI l D cy cz G yX5_voiceFor cX5_voiceFor 6 (some .int) 5 122 [.ref (o 9 0), .int p1, .int p2, .int p3, .int p4] (cPT o cy cz X) (cPT o cy cz Xr) r := by
  refine ct_i (own := "PumpTalk") (by decide) rfl (Nat.le_of_ble_eq_true rfl) ?_
  intro p e s m below meth c ls A C hr hlk hW hl
  have hx := C.1
  have hb := C.2.1
  have hl : lv_has ls 6 [(0, .ref (o 9 0)), (1, .int p1), (2, .int p2), (3, .int p3), (4, .int p4)] := hl
  unfold X5_voiceFor at hm
  refine lv_aload_n hx hb dX5_voiceFor_0 rfl (lv_at hl 0 rfl) ?_
  refine lv_iload_n hx hb dX5_voiceFor_1 rfl (lv_at hl 1 rfl) ?_
  refine lv_iload_n hx hb dX5_voiceFor_2 rfl (lv_at hl 2 rfl) ?_
  obtain ⟨v10, e9, hm⟩ := mi_bind hm
  refine cs_i (q0 := 0) (As := [.int p1, .int p2]) (rest := []) C hW (c_X5_isNoPair e9) kX5_isNoPair q322 rfl rfl rfl rfl rfl hl.1 ⟨Nat.le_of_ble_eq_true rfl, Nat.le_of_ble_eq_true rfl⟩ ⟨Nat.le_refl 0, Nat.le_refl 0⟩ (Nat.le_of_ble_eq_true rfl) dX5_voiceFor_3 (fun H locs hW => ?_)
  refine lv_if_ne (tgt := 31) hx hb dX5_voiceFor_6 (by decide) (fun hc11 => ?_) (fun hc11 => ?_)
  · rw [if_neg hc11] at hm
    exact wX5_voiceFor_b31 C hr hlk X _ _ _ hm hW (lv_sub hl [0] rfl)
  · rw [if_pos hc11] at hm
    refine lv_iload_n hx hb dX5_voiceFor_9 rfl (lv_at hl 3 rfl) ?_
    refine lv_iconst (v := 0) hx hb dX5_voiceFor_10 (by decide) ?_
    refine lv_sipush (v := 9999) hx hb dX5_voiceFor_11 (by decide) ?_
    obtain ⟨v13, e12, hm⟩ := mi_bind hm
    refine cS_i (As := [.int p3, .int (0 : Int32), .int (9999 : Int32)]) (rest := []) C hW (c_X5_isOutside e12) kX5_isOutside q228 rfl rfl hl.1 ⟨Nat.le_of_ble_eq_true rfl, Nat.le_of_ble_eq_true rfl⟩ ⟨Nat.le_refl 0, Nat.le_refl 0⟩ (Nat.le_of_ble_eq_true rfl) dX5_voiceFor_14 (fun H locs hW => ?_)
    refine lv_if_ne (tgt := 31) hx hb dX5_voiceFor_17 (by decide) (fun hc14 => ?_) (fun hc14 => ?_)
    · rw [if_neg hc14] at hm
      exact wX5_voiceFor_b31 C hr hlk X _ _ _ hm hW (lv_sub hl [0] rfl)
    · rw [if_pos hc14] at hm
      refine lv_iload hx hb dX5_voiceFor_20 (lv_at hl 4 rfl) ?_
      refine lv_iconst (v := 0) hx hb dX5_voiceFor_22 (by decide) ?_
      refine lv_bipush (v := 60) hx hb dX5_voiceFor_23 (by decide) ?_
      obtain ⟨v16, e15, hm⟩ := mi_bind hm
      refine cS_i (As := [.int p4, .int (0 : Int32), .int (60 : Int32)]) (rest := []) C hW (c_X5_isOutside e15) kX5_isOutside q228 rfl rfl hl.1 ⟨Nat.le_of_ble_eq_true rfl, Nat.le_of_ble_eq_true rfl⟩ ⟨Nat.le_refl 0, Nat.le_refl 0⟩ (Nat.le_of_ble_eq_true rfl) dX5_voiceFor_25 (fun H locs hW => ?_)
      refine lv_if_eq (tgt := 38) hx hb dX5_voiceFor_28 (by decide) (fun hc17 => ?_) (fun hc17 => ?_)
      · rw [if_pos hc17] at hm
        refine lv_iconst (v := 0) hx hb dX5_voiceFor_38 (by decide) ?_
        refine lv_istore (lv' := [(5, .int (0 : Int32)), (0, .ref (o 9 0)), (1, .int p1), (2, .int p2), (3, .int p3), (4, .int p4)]) hx hb dX5_voiceFor_39 hl (by decide) rfl (fun ls hl => ?_)
        exact wX5_voiceFor_b41 C hr hlk FU X p1 p2 p3 p4 (0 : Int32) _ _ _ hm hW (lv_sub hl [1, 2, 3, 4, 5, 0] rfl)
      · rw [if_neg hc17] at hm
        exact wX5_voiceFor_b31 C hr hlk X _ _ _ hm hW (lv_sub hl [0] rfl)
theorem kX5_voiceFor : KM yX5_voiceFor cX5_voiceFor 6 (some .int) 4 := ⟨q519, q520, q67, q521, by decide +kernel, by decide +kernel, by decide +kernel⟩
def X5_isNoSheet (p1 : Int32) : Option (Int32) := (X5_isOutside p1 (0 : Int32) (3 : Int32)).bind fun v2 => zb v2 (some v2)
set_option maxHeartbeats 4000000 in
set_option maxRecDepth 100000 in
theorem c_X5_isNoSheet {l : Launch} {D : va_G} {cy cz : ClassId} {G : GT} {p1 : Int32} {r : Int32} (hm : X5_isNoSheet p1 = some r) : CtI l D cy cz G yX5_isNoSheet cX5_isNoSheet 1 (some .boolean) 1 22 [.int p1] ([] : va_W) ([] : va_W) r := by
  refine ct_i (own := "PumpTalk") (by decide) rfl (Nat.le_of_ble_eq_true rfl) ?_
  intro p e s m below meth c ls A C hr hlk hW hl
  have hx := C.1
  have hb := C.2.1
  have hl : lv_has ls 1 [(0, .int p1)] := hl
  unfold X5_isNoSheet at hm
  refine lv_iload_n hx hb dX5_isNoSheet_0 rfl (lv_at hl 0 rfl) ?_
  refine lv_iconst (v := 0) hx hb dX5_isNoSheet_1 (by decide) ?_
  refine lv_iconst (v := 3) hx hb dX5_isNoSheet_2 (by decide) ?_
  obtain ⟨v2, e1, hm⟩ := mi_bind hm
  refine cS_i (As := [.int p1, .int (0 : Int32), .int (3 : Int32)]) (rest := []) C hW (c_X5_isOutside e1) kX5_isOutside q228 rfl rfl hl.1 ⟨Nat.le_of_ble_eq_true rfl, Nat.le_of_ble_eq_true rfl⟩ ⟨Nat.le_refl 0, Nat.le_refl 0⟩ (Nat.le_of_ble_eq_true rfl) dX5_isNoSheet_3 (fun H locs hW => ?_)
  obtain ⟨hz3, hm⟩ := mi_zb hm
  obtain rfl := Option.some.inj hm
  exact en_z C hr hlk hz3.1 hW dX5_isNoSheet_6
theorem kX5_isNoSheet : KS yX5_isNoSheet cX5_isNoSheet 1 (some .boolean) 1 := ⟨q535, q67, q536, by decide +kernel, by decide +kernel, by decide +kernel⟩
def X5_lackOfSheet (X : XS) (p1 : Int32) : Option (Int32) := (X5_isNoSheet p1).bind fun v2 => if v2 = (0 : Int32) then (ai p1 4 ((X3_isMissing (X (5 + (Int32.toNatClampNeg p1)))).bind fun v6 => if v6 = (0 : Int32) then (some (0 : Int32)) else (some (-1000006 : Int32)))) else (some (-1000001 : Int32))
set_option maxHeartbeats 4000000 in
set_option maxRecDepth 100000 in
theorem c_X5_lackOfSheet {l : Launch} {D : va_G} {cy cz : ClassId} {G : GT} {o : Nat → Nat → Nat} {X : XS} {p1 : Int32} {r : Int32} (hm : X5_lackOfSheet X p1 = some r) : CtI l D cy cz G yX5_lackOfSheet cX5_lackOfSheet 2 (some .int) 2 42 [.ref (o 9 0), .int p1] (cPT o cy cz X) (cPT o cy cz X) r := by
  refine ct_i (own := "PumpTalk") (by decide) rfl (Nat.le_of_ble_eq_true rfl) ?_
  intro p e s m below meth c ls A C hr hlk hW hl
  have hx := C.1
  have hb := C.2.1
  have hl : lv_has ls 2 [(0, .ref (o 9 0)), (1, .int p1)] := hl
  unfold X5_lackOfSheet at hm
  refine lv_iload_n hx hb dX5_lackOfSheet_0 rfl (lv_at hl 1 rfl) ?_
  obtain ⟨v2, e1, hm⟩ := mi_bind hm
  refine cS_i (As := [.int p1]) (rest := []) C hW (c_X5_isNoSheet e1) kX5_isNoSheet q534 rfl rfl hl.1 ⟨Nat.le_of_ble_eq_true rfl, Nat.le_of_ble_eq_true rfl⟩ ⟨Nat.le_refl 0, Nat.le_refl 0⟩ (Nat.le_of_ble_eq_true rfl) dX5_lackOfSheet_1 (fun H locs hW => ?_)
  refine lv_if_eq (tgt := 10) hx hb dX5_lackOfSheet_4 (by decide) (fun hc3 => ?_) (fun hc3 => ?_)
  · rw [if_pos hc3] at hm
    refine lv_aload_n hx hb dX5_lackOfSheet_10 rfl (lv_at hl 0 rfl) ?_
    refine gP_sheets C hW q205 dX5_lackOfSheet_11 ?_
    refine lv_iload_n hx hb dX5_lackOfSheet_14 rfl (lv_at hl 1 rfl) ?_
    obtain ⟨hi4, hm⟩ := mi_ai hm
    refine lP_sheets C hW hi4 dX5_lackOfSheet_15 ?_
    obtain ⟨v6, e5, hm⟩ := mi_bind hm
    refine csh_i_p (vp_lt hi4) (As := []) (rest := []) C hW (c_X3_isMissing e5) kX3_isMissing q537 rfl rfl rfl hl.1 ⟨Nat.le_of_ble_eq_true rfl, Nat.le_of_ble_eq_true rfl⟩ ⟨Nat.le_refl 0, Nat.le_refl 0⟩ (Nat.le_of_ble_eq_true rfl) dX5_lackOfSheet_16 (fun H locs hW => ?_)
    refine lv_if_eq (tgt := 27) hx hb dX5_lackOfSheet_19 (by decide) (fun hc7 => ?_) (fun hc7 => ?_)
    · rw [if_pos hc7] at hm
      refine lv_iconst (v := 0) hx hb dX5_lackOfSheet_27 (by decide) ?_
      obtain rfl := Option.some.inj hm
      exact en_i C hr hlk hW dX5_lackOfSheet_28
    · rw [if_neg hc7] at hm
      refine lv_ldc hx hb C.2.2.2.1 (C.2.2.2.2.1 _ q541) dX5_lackOfSheet_22 ?_
      refine lv_goto (tgt := 28) hx hb dX5_lackOfSheet_24 (by decide) ?_
      obtain rfl := Option.some.inj hm
      exact en_i C hr hlk hW dX5_lackOfSheet_28
  · rw [if_neg hc3] at hm
    refine lv_ldc hx hb C.2.2.2.1 (C.2.2.2.2.1 _ q231) dX5_lackOfSheet_7 ?_
    obtain rfl := Option.some.inj hm
    exact en_i C hr hlk hW dX5_lackOfSheet_9
theorem kX5_lackOfSheet : KM yX5_lackOfSheet cX5_lackOfSheet 2 (some .int) 1 := ⟨q532, q10, q67, q533, by decide +kernel, by decide +kernel, by decide +kernel⟩
def X5_lackOfFit (X : XS) (p1 : Int32) (p2 : Int32) : Option (Int32) := (X5_lackOfSheet X p1).bind fun v2 => if v2 = (0 : Int32) then ((X4_isThere (X 0) p2).bind fun v5 => if v5 = (0 : Int32) then (some (-1000001 : Int32)) else (some v2)) else (some v2)
set_option maxHeartbeats 4000000 in
set_option maxRecDepth 100000 in
theorem c_X5_lackOfFit {l : Launch} {D : va_G} {cy cz : ClassId} {G : GT} {o : Nat → Nat → Nat} {X : XS} {p1 : Int32} {p2 : Int32} {r : Int32} (hm : X5_lackOfFit X p1 p2 = some r) : CtI l D cy cz G yX5_lackOfFit cX5_lackOfFit 4 (some .int) 3 63 [.ref (o 9 0), .int p1, .int p2] (cPT o cy cz X) (cPT o cy cz X) r := by
  refine ct_i (own := "PumpTalk") (by decide) rfl (Nat.le_of_ble_eq_true rfl) ?_
  intro p e s m below meth c ls A C hr hlk hW hl
  have hx := C.1
  have hb := C.2.1
  have hl : lv_has ls 4 [(0, .ref (o 9 0)), (1, .int p1), (2, .int p2)] := hl
  unfold X5_lackOfFit at hm
  refine lv_aload_n hx hb dX5_lackOfFit_0 rfl (lv_at hl 0 rfl) ?_
  refine lv_iload_n hx hb dX5_lackOfFit_1 rfl (lv_at hl 1 rfl) ?_
  obtain ⟨v2, e1, hm⟩ := mi_bind hm
  refine cs_i (q0 := 0) (As := [.int p1]) (rest := []) C hW (c_X5_lackOfSheet e1) kX5_lackOfSheet q530 rfl rfl rfl rfl rfl hl.1 ⟨Nat.le_of_ble_eq_true rfl, Nat.le_of_ble_eq_true rfl⟩ ⟨Nat.le_refl 0, Nat.le_refl 0⟩ (Nat.le_of_ble_eq_true rfl) dX5_lackOfFit_2 (fun H locs hW => ?_)
  refine lv_istore_n (lv' := [(3, .int v2), (0, .ref (o 9 0)), (1, .int p1), (2, .int p2)]) hx hb dX5_lackOfFit_5 rfl hl (by decide) rfl (fun ls hl => ?_)
  refine lv_iload_n hx hb dX5_lackOfFit_6 rfl (lv_at hl 0 rfl) ?_
  refine lv_if_ne (tgt := 24) hx hb dX5_lackOfFit_7 (by decide) (fun hc3 => ?_) (fun hc3 => ?_)
  · rw [if_neg hc3] at hm
    refine lv_iload_n hx hb dX5_lackOfFit_24 rfl (lv_at hl 0 rfl) ?_
    obtain rfl := Option.some.inj hm
    exact en_i C hr hlk hW dX5_lackOfFit_25
  · rw [if_pos hc3] at hm
    refine lv_aload_n hx hb dX5_lackOfFit_10 rfl (lv_at hl 1 rfl) ?_
    refine gP_square C hW q199 dX5_lackOfFit_11 ?_
    refine lv_iload_n hx hb dX5_lackOfFit_14 rfl (lv_at hl 3 rfl) ?_
    obtain ⟨v5, e4, hm⟩ := mi_bind hm
    refine cq0_i_p (As := [.int p2]) (rest := []) C hW (c_X4_isThere e4) kX4_isThere q253 rfl rfl rfl hl.1 ⟨Nat.le_of_ble_eq_true rfl, Nat.le_of_ble_eq_true rfl⟩ ⟨Nat.le_refl 0, Nat.le_refl 0⟩ (Nat.le_of_ble_eq_true rfl) dX5_lackOfFit_15 (fun H locs hW => ?_)
    refine lv_if_ne (tgt := 24) hx hb dX5_lackOfFit_18 (by decide) (fun hc6 => ?_) (fun hc6 => ?_)
    · rw [if_neg hc6] at hm
      refine lv_iload_n hx hb dX5_lackOfFit_24 rfl (lv_at hl 0 rfl) ?_
      obtain rfl := Option.some.inj hm
      exact en_i C hr hlk hW dX5_lackOfFit_25
    · rw [if_pos hc6] at hm
      refine lv_ldc hx hb C.2.2.2.1 (C.2.2.2.2.1 _ q231) dX5_lackOfFit_21 ?_
      obtain rfl := Option.some.inj hm
      exact en_i C hr hlk hW dX5_lackOfFit_23
theorem kX5_lackOfFit : KM yX5_lackOfFit cX5_lackOfFit 4 (some .int) 2 := ⟨q528, q9, q67, q529, by decide +kernel, by decide +kernel, by decide +kernel⟩
def X5_isAsTold_b64 (k25 : XS → Nat → Int32 → Option (Int32 × XS)) (X : XS) (j1 : Nat) (x5 : Int32) : Option (Int32 × XS) := (X4_passMinute (X 1)).bind fun q2 => k25 (va_up X 1 q2.2) j1 (x5 + (1 : Int32))
set_option maxHeartbeats 4000000 in
set_option maxRecDepth 100000 in
theorem wX5_isAsTold_b64 {p : Program} {l : Launch} {e : Env} {s : State} {m : MethodId} {below : List Frame} {meth : Method} {c : Code} {D : va_G} {cy cz : ClassId} {G : GT} {A : Nat → Prop} {args : Array Value} {o : Nat → Nat → Nat} {r : Int32} {Xr : XS} (C : Cx p s m args c cX5_isAsTold 6 "PumpTalk" D cy cz G A) (hr : meth.sig.returnType = some .boolean) (hlk : meth.locks = false) {k25 : XS → Nat → Int32 → Option (Int32 × XS)} (hk25 : ∀ (X : XS) (j1 : Nat) (x5 : Int32) (H : Heap) (locs : List Loc) (ls : Array Slot), j1 < 4 → k25 X j1 x5 = some (r, Xr) → Wd D A s.heap H locs (cPT o cy cz X) → lv_has ls 6 [(0, .ref (o 9 0)), (1, .ref (o (5 + j1) 0)), (5, .int x5)] → W p l e (rmz 3 81) s m args below meth c H locs 0 0 (MQ below (QI D cy cz A (cPT o cy cz Xr) r) args s 0 0 A) (F0 m 25 ls [])) : ∀ (X : XS) (j1 : Nat) (x5 : Int32) (H : Heap) (locs : List Loc) (ls : Array Slot), j1 < 4 → X5_isAsTold_b64 k25 X j1 x5 = some (r, Xr) → Wd D A s.heap H locs (cPT o cy cz X) → lv_has ls 6 [(0, .ref (o 9 0)), (1, .ref (o (5 + j1) 0)), (5, .int x5)] → W p l e (rmz 3 81) s m args below meth c H locs 0 0 (MQ below (QI D cy cz A (cPT o cy cz Xr) r) args s 0 0 A) (F0 m 64 ls []) := by
  have hx := C.1
  have hb := C.2.1
  intro X j1 x5 H locs ls hj1 hm hW hl
  unfold X5_isAsTold_b64 at hm
  refine lv_aload_n hx hb dX5_isAsTold_64 rfl (lv_at hl 0 rfl) ?_
  refine gP_trial C hW q200 dX5_isAsTold_65 ?_
  obtain ⟨q2, e1, hm⟩ := mi_bind hm
  refine cq1_i_s (As := []) (rest := []) C hW (c_X4_passMinute e1) kX4_passMinute q416 rfl rfl rfl hl.1 ⟨Nat.le_of_ble_eq_true rfl, Nat.le_of_ble_eq_true rfl⟩ ⟨Nat.le_refl 0, Nat.le_refl 0⟩ (Nat.le_of_ble_eq_true rfl) dX5_isAsTold_68 (fun H locs hW => ?_)
  refine lv_pop hx hb dX5_isAsTold_71 rfl ?_
  refine lv_iinc (v := (x5 + (1 : Int32))) (lv' := [(5, .int (x5 + (1 : Int32))), (0, .ref (o 9 0)), (1, .ref (o (5 + j1) 0))]) hx hb dX5_isAsTold_72 hl (k := 2) rfl (congrArg (fun z : Int32 => x5 + z) (by decide)) (by decide) rfl (fun ls hl => ?_)
  refine lv_goto (tgt := 25) hx hb dX5_isAsTold_75 (by decide) ?_
  exact hk25 (va_up X 1 q2.2) j1 (x5 + (1 : Int32)) _ _ _ hj1 hm hW (lv_sub hl [1, 2, 0] rfl)
def X5_isAsTold_b25 : Nat → XS → Nat → Int32 → Option (Int32 × XS)
  | 0, _, _, _ => none
  | n + 1, X, j1, x5 => if (X (5 + j1) 3 2) ≤ x5 then (some ((1 : Int32), X)) else (ai x5 40 (if (X (5 + j1) 0 (Int32.toNatClampNeg x5)) = (-1 : Int32) then (X5_isAsTold_b64 (X5_isAsTold_b25 n) X j1 x5) else (ai x5 40 (if (X (5 + j1) 0 (Int32.toNatClampNeg x5)) = (X 1 11 6) then (X5_isAsTold_b64 (X5_isAsTold_b25 n) X j1 x5) else (some ((0 : Int32), X))))))
set_option maxHeartbeats 4000000 in
set_option maxRecDepth 100000 in
theorem wX5_isAsTold_b25 {p : Program} {l : Launch} {e : Env} {s : State} {m : MethodId} {below : List Frame} {meth : Method} {c : Code} {D : va_G} {cy cz : ClassId} {G : GT} {A : Nat → Prop} {args : Array Value} {o : Nat → Nat → Nat} {r : Int32} {Xr : XS} (C : Cx p s m args c cX5_isAsTold 6 "PumpTalk" D cy cz G A) (hr : meth.sig.returnType = some .boolean) (hlk : meth.locks = false) : ∀ (n : Nat) (X : XS) (j1 : Nat) (x5 : Int32) (H : Heap) (locs : List Loc) (ls : Array Slot), j1 < 4 → X5_isAsTold_b25 n X j1 x5 = some (r, Xr) → Wd D A s.heap H locs (cPT o cy cz X) → lv_has ls 6 [(0, .ref (o 9 0)), (1, .ref (o (5 + j1) 0)), (5, .int x5)] → W p l e (rmz 3 81) s m args below meth c H locs 0 0 (MQ below (QI D cy cz A (cPT o cy cz Xr) r) args s 0 0 A) (F0 m 25 ls []) := by
  have hx := C.1
  have hb := C.2.1
  intro n
  induction n with
  | zero =>
    intro X j1 x5 H locs ls hj1 hm
    rw [X5_isAsTold_b25] at hm
    cases hm
  | succ n ih =>
    intro X j1 x5 H locs ls hj1 hm hW hl
    rw [X5_isAsTold_b25] at hm
    refine lv_iload hx hb dX5_isAsTold_25 (lv_at hl 2 rfl) ?_
    refine lv_aload_n hx hb dX5_isAsTold_27 rfl (lv_at hl 1 rfl) ?_
    refine gSh_size C (wd_sh hW hj1) q191 dX5_isAsTold_28 ?_
    refine lv_icmp_ge (tgt := 78) hx hb dX5_isAsTold_31 (by decide) (fun hc3 => ?_) (fun hc3 => ?_)
    · rw [if_pos hc3] at hm
      refine lv_iconst (v := 1) hx hb dX5_isAsTold_78 (by decide) ?_
      obtain ⟨rfl, rfl⟩ := Prod.mk.inj (Option.some.inj hm)
      exact en_z C hr hlk rfl hW dX5_isAsTold_79
    · rw [if_neg hc3] at hm
      refine lv_aload_n hx hb dX5_isAsTold_34 rfl (lv_at hl 1 rfl) ?_
      refine gSh_numbers C (wd_sh hW hj1) q187 dX5_isAsTold_35 ?_
      refine lv_iload hx hb dX5_isAsTold_38 (lv_at hl 2 rfl) ?_
      obtain ⟨hi4, hm⟩ := mi_ai hm
      refine lSh_numbers C (wd_sh hW hj1) hi4 dX5_isAsTold_40 ?_
      refine lv_iconst (v := -1) hx hb dX5_isAsTold_41 (by decide) ?_
      refine lv_icmp_eq (tgt := 64) hx hb dX5_isAsTold_42 (by decide) (fun hc5 => ?_) (fun hc5 => ?_)
      · rw [if_pos hc5] at hm
        exact wX5_isAsTold_b64 C hr hlk ih X j1 x5 _ _ _ hj1 hm hW (lv_sub hl [0, 1, 2] rfl)
      · rw [if_neg hc5] at hm
        refine lv_aload_n hx hb dX5_isAsTold_45 rfl (lv_at hl 1 rfl) ?_
        refine gSh_numbers C (wd_sh hW hj1) q187 dX5_isAsTold_46 ?_
        refine lv_iload hx hb dX5_isAsTold_49 (lv_at hl 2 rfl) ?_
        obtain ⟨hi6, hm⟩ := mi_ai hm
        refine lSh_numbers C (wd_sh hW hj1) hi6 dX5_isAsTold_51 ?_
        refine lv_aload_n hx hb dX5_isAsTold_52 rfl (lv_at hl 0 rfl) ?_
        refine gP_trial C hW q200 dX5_isAsTold_53 ?_
        refine gSq_water C (wd_1 hW) q106 dX5_isAsTold_56 ?_
        refine lv_icmp_eq (tgt := 64) hx hb dX5_isAsTold_59 (by decide) (fun hc7 => ?_) (fun hc7 => ?_)
        · rw [if_pos hc7] at hm
          exact wX5_isAsTold_b64 C hr hlk ih X j1 x5 _ _ _ hj1 hm hW (lv_sub hl [0, 1, 2] rfl)
        · rw [if_neg hc7] at hm
          refine lv_iconst (v := 0) hx hb dX5_isAsTold_62 (by decide) ?_
          obtain ⟨rfl, rfl⟩ := Prod.mk.inj (Option.some.inj hm)
          exact en_z C hr hlk rfl hW dX5_isAsTold_63
def X5_isAsTold (X : XS) (j1 : Nat) (p2 : Int32) (p3 : Int32) (p4 : Int32) : Option (Int32 × XS) := (X4_takeOver (pr2 (X 1) (X 0))).bind fun s9 => (X4_setTrait ((va_up X 1 (s9 0)) 1) p2 p3 p4).bind fun s11 => X5_isAsTold_b25 FU (va_up (va_up X 1 (s9 0)) 1 s11) j1 (0 : Int32)
set_option maxHeartbeats 4000000 in
set_option maxRecDepth 100000 in
theorem c_X5_isAsTold {l : Launch} {D : va_G} {cy cz : ClassId} {G : GT} {o : Nat → Nat → Nat} {X : XS} {j1 : Nat} {p2 : Int32} {p3 : Int32} {p4 : Int32} {r : Int32} {Xr : XS} (hj1 : j1 < 4) (hm : X5_isAsTold X j1 p2 p3 p4 = some (r, Xr)) : CtI l D cy cz G yX5_isAsTold cX5_isAsTold 6 (some .boolean) 3 81 [.ref (o 9 0), .ref (o (5 + j1) 0), .int p2, .int p3, .int p4] (cPT o cy cz X) (cPT o cy cz Xr) r := by
  refine ct_i (own := "PumpTalk") (by decide) rfl (Nat.le_of_ble_eq_true rfl) ?_
  intro p e s m below meth c ls A C hr hlk hW hl
  have hx := C.1
  have hb := C.2.1
  have hl : lv_has ls 6 [(0, .ref (o 9 0)), (1, .ref (o (5 + j1) 0)), (2, .int p2), (3, .int p3), (4, .int p4)] := hl
  unfold X5_isAsTold at hm
  refine lv_aload_n hx hb dX5_isAsTold_0 rfl (lv_at hl 0 rfl) ?_
  refine gP_trial C hW q200 dX5_isAsTold_1 ?_
  refine lv_aload_n hx hb dX5_isAsTold_4 rfl (lv_at hl 0 rfl) ?_
  refine gP_square C hW q199 dX5_isAsTold_5 ?_
  obtain ⟨s9, e8, hm⟩ := mi_bind hm
  refine cq10_v_s1 (As := [.ref (o 0 0)]) (rest := []) C hW (c_X4_takeOver_2 e8) kX4_takeOver q400 rfl rfl rfl hl.1 ⟨Nat.le_of_ble_eq_true rfl, Nat.le_of_ble_eq_true rfl⟩ ⟨Nat.le_refl 0, Nat.le_refl 0⟩ (Nat.le_of_ble_eq_true rfl) dX5_isAsTold_8 (fun H locs hW => ?_)
  refine lv_aload_n hx hb dX5_isAsTold_11 rfl (lv_at hl 0 rfl) ?_
  refine gP_trial C hW q200 dX5_isAsTold_12 ?_
  refine lv_iload_n hx hb dX5_isAsTold_15 rfl (lv_at hl 2 rfl) ?_
  refine lv_iload_n hx hb dX5_isAsTold_16 rfl (lv_at hl 3 rfl) ?_
  refine lv_iload hx hb dX5_isAsTold_17 (lv_at hl 4 rfl) ?_
  obtain ⟨s11, e10, hm⟩ := mi_bind hm
  refine cq1_v_s (As := [.int p2, .int p3, .int p4]) (rest := []) C hW (c_X4_setTrait e10) kX4_setTrait q282 rfl rfl rfl hl.1 ⟨Nat.le_of_ble_eq_true rfl, Nat.le_of_ble_eq_true rfl⟩ ⟨Nat.le_refl 0, Nat.le_refl 0⟩ (Nat.le_of_ble_eq_true rfl) dX5_isAsTold_19 (fun H locs hW => ?_)
  refine lv_iconst (v := 0) hx hb dX5_isAsTold_22 (by decide) ?_
  refine lv_istore (lv' := [(5, .int (0 : Int32)), (0, .ref (o 9 0)), (1, .ref (o (5 + j1) 0)), (2, .int p2), (3, .int p3), (4, .int p4)]) hx hb dX5_isAsTold_23 hl (by decide) rfl (fun ls hl => ?_)
  exact wX5_isAsTold_b25 C hr hlk FU (va_up (va_up X 1 (s9 0)) 1 s11) j1 (0 : Int32) _ _ _ hj1 hm hW (lv_sub hl [1, 2, 0] rfl)
theorem kX5_isAsTold : KM yX5_isAsTold cX5_isAsTold 6 (some .boolean) 4 := ⟨q544, q11, q67, q545, by decide +kernel, by decide +kernel, by decide +kernel⟩
def X5_fits_b24 : Nat → XS → Int32 → Int32 → Int32 → Int32 → Option (Int32 × XS)
  | 0, _, _, _, _, _ => none
  | n + 1, X, x1, x2, x4, x5 => if (9 : Int32) < x5 then (some (x4, X)) else (ai x1 4 ((X5_isAsTold X (Int32.toNatClampNeg x1) x2 ((2 : Int32) + (X 0 11 7)) x5).bind fun q4 => if q4.1 = (0 : Int32) then (X5_fits_b24 n q4.2 x1 x2 x4 ((x5 + (1 : Int32)))) else (X5_fits_b24 n q4.2 x1 x2 ((x4 + (1 : Int32))) ((x5 + (1 : Int32))))))
set_option maxHeartbeats 4000000 in
set_option maxRecDepth 100000 in
theorem wX5_fits_b24 {p : Program} {l : Launch} {e : Env} {s : State} {m : MethodId} {below : List Frame} {meth : Method} {c : Code} {D : va_G} {cy cz : ClassId} {G : GT} {A : Nat → Prop} {args : Array Value} {o : Nat → Nat → Nat} {r : Int32} {Xr : XS} (C : Cx p s m args c cX5_fits 6 "PumpTalk" D cy cz G A) (hr : meth.sig.returnType = some .int) (hlk : meth.locks = false) : ∀ (n : Nat) (X : XS) (x1 : Int32) (x2 : Int32) (x4 : Int32) (x5 : Int32) (H : Heap) (locs : List Loc) (ls : Array Slot), X5_fits_b24 n X x1 x2 x4 x5 = some (r, Xr) → Wd D A s.heap H locs (cPT o cy cz X) → lv_has ls 6 [(0, .ref (o 9 0)), (1, .int x1), (2, .int x2), (4, .int x4), (5, .int x5)] → W p l e (rmz 4 106) s m args below meth c H locs 0 0 (MQ below (QI D cy cz A (cPT o cy cz Xr) r) args s 0 0 A) (F0 m 24 ls []) := by
  have hx := C.1
  have hb := C.2.1
  intro n
  induction n with
  | zero =>
    intro X x1 x2 x4 x5 H locs ls hm
    rw [X5_fits_b24] at hm
    cases hm
  | succ n ih =>
    intro X x1 x2 x4 x5 H locs ls hm hW hl
    rw [X5_fits_b24] at hm
    refine lv_iload hx hb dX5_fits_24 (lv_at hl 4 rfl) ?_
    refine lv_bipush (v := 9) hx hb dX5_fits_26 (by decide) ?_
    refine lv_icmp_gt (tgt := 65) hx hb dX5_fits_28 (by decide) (fun hc1 => ?_) (fun hc1 => ?_)
    · rw [if_pos hc1] at hm
      refine lv_iload hx hb dX5_fits_65 (lv_at hl 3 rfl) ?_
      obtain ⟨rfl, rfl⟩ := Prod.mk.inj (Option.some.inj hm)
      exact en_i C hr hlk hW dX5_fits_67
    · rw [if_neg hc1] at hm
      refine lv_aload_n hx hb dX5_fits_31 rfl (lv_at hl 0 rfl) ?_
      refine lv_aload_n hx hb dX5_fits_32 rfl (lv_at hl 0 rfl) ?_
      refine gP_sheets C hW q205 dX5_fits_33 ?_
      refine lv_iload_n hx hb dX5_fits_36 rfl (lv_at hl 1 rfl) ?_
      obtain ⟨hi2, hm⟩ := mi_ai hm
      refine lP_sheets C hW hi2 dX5_fits_37 ?_
      refine lv_iload_n hx hb dX5_fits_38 rfl (lv_at hl 2 rfl) ?_
      refine lv_iconst (v := 2) hx hb dX5_fits_39 (by decide) ?_
      refine lv_aload_n hx hb dX5_fits_40 rfl (lv_at hl 0 rfl) ?_
      refine gP_square C hW q199 dX5_fits_41 ?_
      refine gSq_topic C (wd_0 hW) q109 dX5_fits_44 ?_
      refine lv_iadd hx hb dX5_fits_47 ?_
      refine lv_iload hx hb dX5_fits_48 (lv_at hl 4 rfl) ?_
      obtain ⟨q4, e3, hm⟩ := mi_bind hm
      refine cs_i (q0 := 0) (As := [.ref (o (5 + Int32.toNatClampNeg x1) 0), .int x2, .int ((2 : Int32) + (X 0 11 7)), .int x5]) (rest := []) C hW (c_X5_isAsTold (vp_lt hi2) e3) kX5_isAsTold q542 rfl rfl rfl rfl rfl hl.1 ⟨Nat.le_of_ble_eq_true rfl, Nat.le_of_ble_eq_true rfl⟩ ⟨Nat.le_refl 0, Nat.le_refl 0⟩ (Nat.le_of_ble_eq_true rfl) dX5_fits_50 (fun H locs hW => ?_)
      refine lv_if_eq (tgt := 59) hx hb dX5_fits_53 (by decide) (fun hc5 => ?_) (fun hc5 => ?_)
      · rw [if_pos hc5] at hm
        refine lv_iinc (v := (x5 + (1 : Int32))) (lv' := [(5, .int (x5 + (1 : Int32))), (0, .ref (o 9 0)), (1, .int x1), (2, .int x2), (4, .int x4)]) hx hb dX5_fits_59 hl (k := 4) rfl (congrArg (fun z : Int32 => x5 + z) (by decide)) (by decide) rfl (fun ls hl => ?_)
        refine lv_goto (tgt := 24) hx hb dX5_fits_62 (by decide) ?_
        exact ih q4.2 x1 x2 x4 ((x5 + (1 : Int32))) _ _ _ hm hW (lv_sub hl [1, 2, 3, 4, 0] rfl)
      · rw [if_neg hc5] at hm
        refine lv_iinc (v := (x4 + (1 : Int32))) (lv' := [(4, .int (x4 + (1 : Int32))), (0, .ref (o 9 0)), (1, .int x1), (2, .int x2), (5, .int x5)]) hx hb dX5_fits_56 hl (k := 3) rfl (congrArg (fun z : Int32 => x4 + z) (by decide)) (by decide) rfl (fun ls hl => ?_)
        refine lv_iinc (v := (x5 + (1 : Int32))) (lv' := [(5, .int (x5 + (1 : Int32))), (4, .int (x4 + (1 : Int32))), (0, .ref (o 9 0)), (1, .int x1), (2, .int x2)]) hx hb dX5_fits_59 hl (k := 4) rfl (congrArg (fun z : Int32 => x5 + z) (by decide)) (by decide) rfl (fun ls hl => ?_)
        refine lv_goto (tgt := 24) hx hb dX5_fits_62 (by decide) ?_
        exact ih q4.2 x1 x2 ((x4 + (1 : Int32))) ((x5 + (1 : Int32))) _ _ _ hm hW (lv_sub hl [2, 3, 4, 1, 0] rfl)
def X5_fits (X : XS) (p1 : Int32) (p2 : Int32) : Option (Int32 × XS) := (X5_lackOfFit X p1 p2).bind fun v7 => if v7 = (0 : Int32) then (X5_fits_b24 FU X p1 p2 (0 : Int32) (-9 : Int32)) else ((X5_found X v7).bind fun q10 => some (q10.1, q10.2))
set_option maxHeartbeats 4000000 in
set_option maxRecDepth 100000 in
theorem c_X5_fits {l : Launch} {D : va_G} {cy cz : ClassId} {G : GT} {o : Nat → Nat → Nat} {X : XS} {p1 : Int32} {p2 : Int32} {r : Int32} {Xr : XS} (hm : X5_fits X p1 p2 = some (r, Xr)) : CtI l D cy cz G yX5_fits cX5_fits 6 (some .int) 4 106 [.ref (o 9 0), .int p1, .int p2] (cPT o cy cz X) (cPT o cy cz Xr) r := by
  refine ct_i (own := "PumpTalk") (by decide) rfl (Nat.le_of_ble_eq_true rfl) ?_
  intro p e s m below meth c ls A C hr hlk hW hl
  have hx := C.1
  have hb := C.2.1
  have hl : lv_has ls 6 [(0, .ref (o 9 0)), (1, .int p1), (2, .int p2)] := hl
  unfold X5_fits at hm
  refine lv_aload_n hx hb dX5_fits_0 rfl (lv_at hl 0 rfl) ?_
  refine lv_iload_n hx hb dX5_fits_1 rfl (lv_at hl 1 rfl) ?_
  refine lv_iload_n hx hb dX5_fits_2 rfl (lv_at hl 2 rfl) ?_
  obtain ⟨v7, e6, hm⟩ := mi_bind hm
  refine cs_i (q0 := 0) (As := [.int p1, .int p2]) (rest := []) C hW (c_X5_lackOfFit e6) kX5_lackOfFit q526 rfl rfl rfl rfl rfl hl.1 ⟨Nat.le_of_ble_eq_true rfl, Nat.le_of_ble_eq_true rfl⟩ ⟨Nat.le_refl 0, Nat.le_refl 0⟩ (Nat.le_of_ble_eq_true rfl) dX5_fits_3 (fun H locs hW => ?_)
  refine lv_istore_n (lv' := [(3, .int v7), (0, .ref (o 9 0)), (1, .int p1), (2, .int p2)]) hx hb dX5_fits_6 rfl hl (by decide) rfl (fun ls hl => ?_)
  refine lv_iload_n hx hb dX5_fits_7 rfl (lv_at hl 0 rfl) ?_
  refine lv_if_eq (tgt := 17) hx hb dX5_fits_8 (by decide) (fun hc8 => ?_) (fun hc8 => ?_)
  · rw [if_pos hc8] at hm
    refine lv_iconst (v := 0) hx hb dX5_fits_17 (by decide) ?_
    refine lv_istore (lv' := [(4, .int (0 : Int32)), (3, .int v7), (0, .ref (o 9 0)), (1, .int p1), (2, .int p2)]) hx hb dX5_fits_18 hl (by decide) rfl (fun ls hl => ?_)
    refine lv_bipush (v := -9) hx hb dX5_fits_20 (by decide) ?_
    refine lv_istore (lv' := [(5, .int (-9 : Int32)), (4, .int (0 : Int32)), (3, .int v7), (0, .ref (o 9 0)), (1, .int p1), (2, .int p2)]) hx hb dX5_fits_22 hl (by decide) rfl (fun ls hl => ?_)
    exact wX5_fits_b24 C hr hlk FU X p1 p2 (0 : Int32) (-9 : Int32) _ _ _ hm hW (lv_sub hl [3, 4, 5, 1, 0] rfl)
  · rw [if_neg hc8] at hm
    refine lv_aload_n hx hb dX5_fits_11 rfl (lv_at hl 1 rfl) ?_
    refine lv_iload_n hx hb dX5_fits_12 rfl (lv_at hl 0 rfl) ?_
    obtain ⟨q10, e9, hm⟩ := mi_bind hm
    refine cs_i (q0 := 0) (As := [.int v7]) (rest := []) C hW (c_X5_found e9) kX5_found q232 rfl rfl rfl rfl rfl hl.1 ⟨Nat.le_of_ble_eq_true rfl, Nat.le_of_ble_eq_true rfl⟩ ⟨Nat.le_refl 0, Nat.le_refl 0⟩ (Nat.le_of_ble_eq_true rfl) dX5_fits_13 (fun H locs hW => ?_)
    obtain ⟨rfl, rfl⟩ := Prod.mk.inj (Option.some.inj hm)
    exact en_i C hr hlk hW dX5_fits_16
theorem kX5_fits : KM yX5_fits cX5_fits 6 (some .int) 2 := ⟨q523, q524, q67, q525, by decide +kernel, by decide +kernel, by decide +kernel⟩
def X5_thought_b21 : Nat → XS → Int32 → Int32 → Int32 → Option (Int32 × XS)
  | 0, _, _, _, _ => none
  | n + 1, X, x1, x2, x4 => if (9 : Int32) < x4 then ((X5_found X (-1000004 : Int32)).bind fun q3 => some (q3.1, q3.2)) else (ai x1 4 ((X5_isAsTold X (Int32.toNatClampNeg x1) x2 ((2 : Int32) + (X 0 11 7)) x4).bind fun q6 => if q6.1 = (0 : Int32) then (X5_thought_b21 n q6.2 x1 x2 ((x4 + (1 : Int32)))) else (some (x4, q6.2))))
set_option maxHeartbeats 4000000 in
set_option maxRecDepth 100000 in
theorem wX5_thought_b21 {p : Program} {l : Launch} {e : Env} {s : State} {m : MethodId} {below : List Frame} {meth : Method} {c : Code} {D : va_G} {cy cz : ClassId} {G : GT} {A : Nat → Prop} {args : Array Value} {o : Nat → Nat → Nat} {r : Int32} {Xr : XS} (C : Cx p s m args c cX5_thought 5 "PumpTalk" D cy cz G A) (hr : meth.sig.returnType = some .int) (hlk : meth.locks = false) : ∀ (n : Nat) (X : XS) (x1 : Int32) (x2 : Int32) (x4 : Int32) (H : Heap) (locs : List Loc) (ls : Array Slot), X5_thought_b21 n X x1 x2 x4 = some (r, Xr) → Wd D A s.heap H locs (cPT o cy cz X) → lv_has ls 5 [(0, .ref (o 9 0)), (1, .int x1), (2, .int x2), (4, .int x4)] → W p l e (rmz 4 106) s m args below meth c H locs 0 0 (MQ below (QI D cy cz A (cPT o cy cz Xr) r) args s 0 0 A) (F0 m 21 ls []) := by
  have hx := C.1
  have hb := C.2.1
  intro n
  induction n with
  | zero =>
    intro X x1 x2 x4 H locs ls hm
    rw [X5_thought_b21] at hm
    cases hm
  | succ n ih =>
    intro X x1 x2 x4 H locs ls hm hW hl
    rw [X5_thought_b21] at hm
    refine lv_iload hx hb dX5_thought_21 (lv_at hl 3 rfl) ?_
    refine lv_bipush (v := 9) hx hb dX5_thought_23 (by decide) ?_
    refine lv_icmp_gt (tgt := 62) hx hb dX5_thought_25 (by decide) (fun hc1 => ?_) (fun hc1 => ?_)
    · rw [if_pos hc1] at hm
      refine lv_aload_n hx hb dX5_thought_62 rfl (lv_at hl 0 rfl) ?_
      refine lv_ldc hx hb C.2.2.2.1 (C.2.2.2.2.1 _ q417) dX5_thought_63 ?_
      obtain ⟨q3, e2, hm⟩ := mi_bind hm
      refine cs_i (q0 := 0) (As := [.int (-1000004 : Int32)]) (rest := []) C hW (c_X5_found e2) kX5_found q232 rfl rfl rfl rfl rfl hl.1 ⟨Nat.le_of_ble_eq_true rfl, Nat.le_of_ble_eq_true rfl⟩ ⟨Nat.le_refl 0, Nat.le_refl 0⟩ (Nat.le_of_ble_eq_true rfl) dX5_thought_65 (fun H locs hW => ?_)
      obtain ⟨rfl, rfl⟩ := Prod.mk.inj (Option.some.inj hm)
      exact en_i C hr hlk hW dX5_thought_68
    · rw [if_neg hc1] at hm
      refine lv_aload_n hx hb dX5_thought_28 rfl (lv_at hl 0 rfl) ?_
      refine lv_aload_n hx hb dX5_thought_29 rfl (lv_at hl 0 rfl) ?_
      refine gP_sheets C hW q205 dX5_thought_30 ?_
      refine lv_iload_n hx hb dX5_thought_33 rfl (lv_at hl 1 rfl) ?_
      obtain ⟨hi4, hm⟩ := mi_ai hm
      refine lP_sheets C hW hi4 dX5_thought_34 ?_
      refine lv_iload_n hx hb dX5_thought_35 rfl (lv_at hl 2 rfl) ?_
      refine lv_iconst (v := 2) hx hb dX5_thought_36 (by decide) ?_
      refine lv_aload_n hx hb dX5_thought_37 rfl (lv_at hl 0 rfl) ?_
      refine gP_square C hW q199 dX5_thought_38 ?_
      refine gSq_topic C (wd_0 hW) q109 dX5_thought_41 ?_
      refine lv_iadd hx hb dX5_thought_44 ?_
      refine lv_iload hx hb dX5_thought_45 (lv_at hl 3 rfl) ?_
      obtain ⟨q6, e5, hm⟩ := mi_bind hm
      refine cs_i (q0 := 0) (As := [.ref (o (5 + Int32.toNatClampNeg x1) 0), .int x2, .int ((2 : Int32) + (X 0 11 7)), .int x4]) (rest := []) C hW (c_X5_isAsTold (vp_lt hi4) e5) kX5_isAsTold q542 rfl rfl rfl rfl rfl hl.1 ⟨Nat.le_of_ble_eq_true rfl, Nat.le_of_ble_eq_true rfl⟩ ⟨Nat.le_refl 0, Nat.le_refl 0⟩ (Nat.le_of_ble_eq_true rfl) dX5_thought_47 (fun H locs hW => ?_)
      refine lv_if_eq (tgt := 56) hx hb dX5_thought_50 (by decide) (fun hc7 => ?_) (fun hc7 => ?_)
      · rw [if_pos hc7] at hm
        refine lv_iinc (v := (x4 + (1 : Int32))) (lv' := [(4, .int (x4 + (1 : Int32))), (0, .ref (o 9 0)), (1, .int x1), (2, .int x2)]) hx hb dX5_thought_56 hl (k := 3) rfl (congrArg (fun z : Int32 => x4 + z) (by decide)) (by decide) rfl (fun ls hl => ?_)
        refine lv_goto (tgt := 21) hx hb dX5_thought_59 (by decide) ?_
        exact ih q6.2 x1 x2 ((x4 + (1 : Int32))) _ _ _ hm hW (lv_sub hl [1, 2, 3, 0] rfl)
      · rw [if_neg hc7] at hm
        refine lv_iload hx hb dX5_thought_53 (lv_at hl 3 rfl) ?_
        obtain ⟨rfl, rfl⟩ := Prod.mk.inj (Option.some.inj hm)
        exact en_i C hr hlk hW dX5_thought_55
def X5_thought (X : XS) (p1 : Int32) (p2 : Int32) : Option (Int32 × XS) := (X5_lackOfFit X p1 p2).bind fun v9 => if v9 = (0 : Int32) then (X5_thought_b21 FU X p1 p2 (-9 : Int32)) else ((X5_found X v9).bind fun q12 => some (q12.1, q12.2))
set_option maxHeartbeats 4000000 in
set_option maxRecDepth 100000 in
theorem c_X5_thought {l : Launch} {D : va_G} {cy cz : ClassId} {G : GT} {o : Nat → Nat → Nat} {X : XS} {p1 : Int32} {p2 : Int32} {r : Int32} {Xr : XS} (hm : X5_thought X p1 p2 = some (r, Xr)) : CtI l D cy cz G yX5_thought cX5_thought 5 (some .int) 4 106 [.ref (o 9 0), .int p1, .int p2] (cPT o cy cz X) (cPT o cy cz Xr) r := by
  refine ct_i (own := "PumpTalk") (by decide) rfl (Nat.le_of_ble_eq_true rfl) ?_
  intro p e s m below meth c ls A C hr hlk hW hl
  have hx := C.1
  have hb := C.2.1
  have hl : lv_has ls 5 [(0, .ref (o 9 0)), (1, .int p1), (2, .int p2)] := hl
  unfold X5_thought at hm
  refine lv_aload_n hx hb dX5_thought_0 rfl (lv_at hl 0 rfl) ?_
  refine lv_iload_n hx hb dX5_thought_1 rfl (lv_at hl 1 rfl) ?_
  refine lv_iload_n hx hb dX5_thought_2 rfl (lv_at hl 2 rfl) ?_
  obtain ⟨v9, e8, hm⟩ := mi_bind hm
  refine cs_i (q0 := 0) (As := [.int p1, .int p2]) (rest := []) C hW (c_X5_lackOfFit e8) kX5_lackOfFit q526 rfl rfl rfl rfl rfl hl.1 ⟨Nat.le_of_ble_eq_true rfl, Nat.le_of_ble_eq_true rfl⟩ ⟨Nat.le_refl 0, Nat.le_refl 0⟩ (Nat.le_of_ble_eq_true rfl) dX5_thought_3 (fun H locs hW => ?_)
  refine lv_istore_n (lv' := [(3, .int v9), (0, .ref (o 9 0)), (1, .int p1), (2, .int p2)]) hx hb dX5_thought_6 rfl hl (by decide) rfl (fun ls hl => ?_)
  refine lv_iload_n hx hb dX5_thought_7 rfl (lv_at hl 0 rfl) ?_
  refine lv_if_eq (tgt := 17) hx hb dX5_thought_8 (by decide) (fun hc10 => ?_) (fun hc10 => ?_)
  · rw [if_pos hc10] at hm
    refine lv_bipush (v := -9) hx hb dX5_thought_17 (by decide) ?_
    refine lv_istore (lv' := [(4, .int (-9 : Int32)), (3, .int v9), (0, .ref (o 9 0)), (1, .int p1), (2, .int p2)]) hx hb dX5_thought_19 hl (by decide) rfl (fun ls hl => ?_)
    exact wX5_thought_b21 C hr hlk FU X p1 p2 (-9 : Int32) _ _ _ hm hW (lv_sub hl [2, 3, 4, 0] rfl)
  · rw [if_neg hc10] at hm
    refine lv_aload_n hx hb dX5_thought_11 rfl (lv_at hl 1 rfl) ?_
    refine lv_iload_n hx hb dX5_thought_12 rfl (lv_at hl 0 rfl) ?_
    obtain ⟨q12, e11, hm⟩ := mi_bind hm
    refine cs_i (q0 := 0) (As := [.int v9]) (rest := []) C hW (c_X5_found e11) kX5_found q232 rfl rfl rfl rfl rfl hl.1 ⟨Nat.le_of_ble_eq_true rfl, Nat.le_of_ble_eq_true rfl⟩ ⟨Nat.le_refl 0, Nat.le_refl 0⟩ (Nat.le_of_ble_eq_true rfl) dX5_thought_13 (fun H locs hW => ?_)
    obtain ⟨rfl, rfl⟩ := Prod.mk.inj (Option.some.inj hm)
    exact en_i C hr hlk hW dX5_thought_16
theorem kX5_thought : KM yX5_thought cX5_thought 5 (some .int) 2 := ⟨q547, q548, q67, q549, by decide +kernel, by decide +kernel, by decide +kernel⟩
def X5_kinds_b23 : Nat → XS → Int32 → Int32 → Int32 → Int32 → Option (Int32 × XS)
  | 0, _, _, _, _, _ => none
  | n + 1, X, x1, x2, x4, x5 => if (7 : Int32) ≤ x5 then (some (x4, X)) else (ai x1 4 ((X5_isAsTold X (Int32.toNatClampNeg x1) x2 (0 : Int32) x5).bind fun q4 => if q4.1 = (0 : Int32) then (X5_kinds_b23 n q4.2 x1 x2 x4 ((x5 + (1 : Int32)))) else (X5_kinds_b23 n q4.2 x1 x2 ((x4 ||| ((1 : Int32) <<< (x5 &&& 31)))) ((x5 + (1 : Int32))))))
set_option maxHeartbeats 4000000 in
set_option maxRecDepth 100000 in
theorem wX5_kinds_b23 {p : Program} {l : Launch} {e : Env} {s : State} {m : MethodId} {below : List Frame} {meth : Method} {c : Code} {D : va_G} {cy cz : ClassId} {G : GT} {A : Nat → Prop} {args : Array Value} {o : Nat → Nat → Nat} {r : Int32} {Xr : XS} (C : Cx p s m args c cX5_kinds 6 "PumpTalk" D cy cz G A) (hr : meth.sig.returnType = some .int) (hlk : meth.locks = false) : ∀ (n : Nat) (X : XS) (x1 : Int32) (x2 : Int32) (x4 : Int32) (x5 : Int32) (H : Heap) (locs : List Loc) (ls : Array Slot), X5_kinds_b23 n X x1 x2 x4 x5 = some (r, Xr) → Wd D A s.heap H locs (cPT o cy cz X) → lv_has ls 6 [(0, .ref (o 9 0)), (1, .int x1), (2, .int x2), (4, .int x4), (5, .int x5)] → W p l e (rmz 4 106) s m args below meth c H locs 0 0 (MQ below (QI D cy cz A (cPT o cy cz Xr) r) args s 0 0 A) (F0 m 23 ls []) := by
  have hx := C.1
  have hb := C.2.1
  intro n
  induction n with
  | zero =>
    intro X x1 x2 x4 x5 H locs ls hm
    rw [X5_kinds_b23] at hm
    cases hm
  | succ n ih =>
    intro X x1 x2 x4 x5 H locs ls hm hW hl
    rw [X5_kinds_b23] at hm
    refine lv_iload hx hb dX5_kinds_23 (lv_at hl 4 rfl) ?_
    refine lv_bipush (v := 7) hx hb dX5_kinds_25 (by decide) ?_
    refine lv_icmp_ge (tgt := 62) hx hb dX5_kinds_27 (by decide) (fun hc1 => ?_) (fun hc1 => ?_)
    · rw [if_pos hc1] at hm
      refine lv_iload hx hb dX5_kinds_62 (lv_at hl 3 rfl) ?_
      obtain ⟨rfl, rfl⟩ := Prod.mk.inj (Option.some.inj hm)
      exact en_i C hr hlk hW dX5_kinds_64
    · rw [if_neg hc1] at hm
      refine lv_aload_n hx hb dX5_kinds_30 rfl (lv_at hl 0 rfl) ?_
      refine lv_aload_n hx hb dX5_kinds_31 rfl (lv_at hl 0 rfl) ?_
      refine gP_sheets C hW q205 dX5_kinds_32 ?_
      refine lv_iload_n hx hb dX5_kinds_35 rfl (lv_at hl 1 rfl) ?_
      obtain ⟨hi2, hm⟩ := mi_ai hm
      refine lP_sheets C hW hi2 dX5_kinds_36 ?_
      refine lv_iload_n hx hb dX5_kinds_37 rfl (lv_at hl 2 rfl) ?_
      refine lv_iconst (v := 0) hx hb dX5_kinds_38 (by decide) ?_
      refine lv_iload hx hb dX5_kinds_39 (lv_at hl 4 rfl) ?_
      obtain ⟨q4, e3, hm⟩ := mi_bind hm
      refine cs_i (q0 := 0) (As := [.ref (o (5 + Int32.toNatClampNeg x1) 0), .int x2, .int (0 : Int32), .int x5]) (rest := []) C hW (c_X5_isAsTold (vp_lt hi2) e3) kX5_isAsTold q542 rfl rfl rfl rfl rfl hl.1 ⟨Nat.le_of_ble_eq_true rfl, Nat.le_of_ble_eq_true rfl⟩ ⟨Nat.le_refl 0, Nat.le_refl 0⟩ (Nat.le_of_ble_eq_true rfl) dX5_kinds_41 (fun H locs hW => ?_)
      refine lv_if_eq (tgt := 56) hx hb dX5_kinds_44 (by decide) (fun hc5 => ?_) (fun hc5 => ?_)
      · rw [if_pos hc5] at hm
        refine lv_iinc (v := (x5 + (1 : Int32))) (lv' := [(5, .int (x5 + (1 : Int32))), (0, .ref (o 9 0)), (1, .int x1), (2, .int x2), (4, .int x4)]) hx hb dX5_kinds_56 hl (k := 4) rfl (congrArg (fun z : Int32 => x5 + z) (by decide)) (by decide) rfl (fun ls hl => ?_)
        refine lv_goto (tgt := 23) hx hb dX5_kinds_59 (by decide) ?_
        exact ih q4.2 x1 x2 x4 ((x5 + (1 : Int32))) _ _ _ hm hW (lv_sub hl [1, 2, 3, 4, 0] rfl)
      · rw [if_neg hc5] at hm
        refine lv_iload hx hb dX5_kinds_47 (lv_at hl 3 rfl) ?_
        refine lv_iconst (v := 1) hx hb dX5_kinds_49 (by decide) ?_
        refine lv_iload hx hb dX5_kinds_50 (lv_at hl 4 rfl) ?_
        refine lv_ishl hx hb dX5_kinds_52 ?_
        refine lv_ior hx hb dX5_kinds_53 ?_
        refine lv_istore (lv' := [(4, .int (x4 ||| ((1 : Int32) <<< (x5 &&& 31)))), (0, .ref (o 9 0)), (1, .int x1), (2, .int x2), (5, .int x5)]) hx hb dX5_kinds_54 hl (by decide) rfl (fun ls hl => ?_)
        refine lv_iinc (v := (x5 + (1 : Int32))) (lv' := [(5, .int (x5 + (1 : Int32))), (4, .int (x4 ||| ((1 : Int32) <<< (x5 &&& 31)))), (0, .ref (o 9 0)), (1, .int x1), (2, .int x2)]) hx hb dX5_kinds_56 hl (k := 4) rfl (congrArg (fun z : Int32 => x5 + z) (by decide)) (by decide) rfl (fun ls hl => ?_)
        refine lv_goto (tgt := 23) hx hb dX5_kinds_59 (by decide) ?_
        exact ih q4.2 x1 x2 ((x4 ||| ((1 : Int32) <<< (x5 &&& 31)))) ((x5 + (1 : Int32))) _ _ _ hm hW (lv_sub hl [2, 3, 4, 1, 0] rfl)
def X5_kinds (X : XS) (p1 : Int32) (p2 : Int32) : Option (Int32 × XS) := (X5_lackOfFit X p1 p2).bind fun v7 => if v7 = (0 : Int32) then (X5_kinds_b23 FU X p1 p2 (0 : Int32) (0 : Int32)) else ((X5_found X v7).bind fun q10 => some (q10.1, q10.2))
set_option maxHeartbeats 4000000 in
set_option maxRecDepth 100000 in
theorem c_X5_kinds {l : Launch} {D : va_G} {cy cz : ClassId} {G : GT} {o : Nat → Nat → Nat} {X : XS} {p1 : Int32} {p2 : Int32} {r : Int32} {Xr : XS} (hm : X5_kinds X p1 p2 = some (r, Xr)) : CtI l D cy cz G yX5_kinds cX5_kinds 6 (some .int) 4 106 [.ref (o 9 0), .int p1, .int p2] (cPT o cy cz X) (cPT o cy cz Xr) r := by
  refine ct_i (own := "PumpTalk") (by decide) rfl (Nat.le_of_ble_eq_true rfl) ?_
  intro p e s m below meth c ls A C hr hlk hW hl
  have hx := C.1
  have hb := C.2.1
  have hl : lv_has ls 6 [(0, .ref (o 9 0)), (1, .int p1), (2, .int p2)] := hl
  unfold X5_kinds at hm
  refine lv_aload_n hx hb dX5_kinds_0 rfl (lv_at hl 0 rfl) ?_
  refine lv_iload_n hx hb dX5_kinds_1 rfl (lv_at hl 1 rfl) ?_
  refine lv_iload_n hx hb dX5_kinds_2 rfl (lv_at hl 2 rfl) ?_
  obtain ⟨v7, e6, hm⟩ := mi_bind hm
  refine cs_i (q0 := 0) (As := [.int p1, .int p2]) (rest := []) C hW (c_X5_lackOfFit e6) kX5_lackOfFit q526 rfl rfl rfl rfl rfl hl.1 ⟨Nat.le_of_ble_eq_true rfl, Nat.le_of_ble_eq_true rfl⟩ ⟨Nat.le_refl 0, Nat.le_refl 0⟩ (Nat.le_of_ble_eq_true rfl) dX5_kinds_3 (fun H locs hW => ?_)
  refine lv_istore_n (lv' := [(3, .int v7), (0, .ref (o 9 0)), (1, .int p1), (2, .int p2)]) hx hb dX5_kinds_6 rfl hl (by decide) rfl (fun ls hl => ?_)
  refine lv_iload_n hx hb dX5_kinds_7 rfl (lv_at hl 0 rfl) ?_
  refine lv_if_eq (tgt := 17) hx hb dX5_kinds_8 (by decide) (fun hc8 => ?_) (fun hc8 => ?_)
  · rw [if_pos hc8] at hm
    refine lv_iconst (v := 0) hx hb dX5_kinds_17 (by decide) ?_
    refine lv_istore (lv' := [(4, .int (0 : Int32)), (3, .int v7), (0, .ref (o 9 0)), (1, .int p1), (2, .int p2)]) hx hb dX5_kinds_18 hl (by decide) rfl (fun ls hl => ?_)
    refine lv_iconst (v := 0) hx hb dX5_kinds_20 (by decide) ?_
    refine lv_istore (lv' := [(5, .int (0 : Int32)), (4, .int (0 : Int32)), (3, .int v7), (0, .ref (o 9 0)), (1, .int p1), (2, .int p2)]) hx hb dX5_kinds_21 hl (by decide) rfl (fun ls hl => ?_)
    exact wX5_kinds_b23 C hr hlk FU X p1 p2 (0 : Int32) (0 : Int32) _ _ _ hm hW (lv_sub hl [3, 4, 5, 1, 0] rfl)
  · rw [if_neg hc8] at hm
    refine lv_aload_n hx hb dX5_kinds_11 rfl (lv_at hl 1 rfl) ?_
    refine lv_iload_n hx hb dX5_kinds_12 rfl (lv_at hl 0 rfl) ?_
    obtain ⟨q10, e9, hm⟩ := mi_bind hm
    refine cs_i (q0 := 0) (As := [.int v7]) (rest := []) C hW (c_X5_found e9) kX5_found q232 rfl rfl rfl rfl rfl hl.1 ⟨Nat.le_of_ble_eq_true rfl, Nat.le_of_ble_eq_true rfl⟩ ⟨Nat.le_refl 0, Nat.le_refl 0⟩ (Nat.le_of_ble_eq_true rfl) dX5_kinds_13 (fun H locs hW => ?_)
    obtain ⟨rfl, rfl⟩ := Prod.mk.inj (Option.some.inj hm)
    exact en_i C hr hlk hW dX5_kinds_16
theorem kX5_kinds : KM yX5_kinds cX5_kinds 6 (some .int) 2 := ⟨q551, q552, q67, q553, by decide +kernel, by decide +kernel, by decide +kernel⟩
def X5_quarrels_b88 (k40 : XS → Int32 → Int32 → Option (Int32 × XS)) (X : XS) (x1 : Int32) (x2 : Int32) : Option (Int32 × XS) := (X4_passMinute (X 0)).bind fun q2 => k40 (va_up X 0 q2.2) x1 ((x2 + (1 : Int32)))
set_option maxHeartbeats 4000000 in
set_option maxRecDepth 100000 in
theorem wX5_quarrels_b88 {p : Program} {l : Launch} {e : Env} {s : State} {m : MethodId} {below : List Frame} {meth : Method} {c : Code} {D : va_G} {cy cz : ClassId} {G : GT} {A : Nat → Prop} {args : Array Value} {o : Nat → Nat → Nat} {r : Int32} {Xr : XS} (C : Cx p s m args c cX5_quarrels 5 "PumpTalk" D cy cz G A) (hr : meth.sig.returnType = some .int) (hlk : meth.locks = false) {k40 : XS → Int32 → Int32 → Option (Int32 × XS)} (hk40 : ∀ (X : XS) (x1 : Int32) (x2 : Int32) (H : Heap) (locs : List Loc) (ls : Array Slot), k40 X x1 x2 = some (r, Xr) → Wd D A s.heap H locs (cPT o cy cz X) → lv_has ls 5 [(0, .ref (o 9 0)), (1, .int x1), (2, .int x2)] → W p l e (rmz 3 72) s m args below meth c H locs 0 0 (MQ below (QI D cy cz A (cPT o cy cz Xr) r) args s 0 0 A) (F0 m 40 ls [])) : ∀ (X : XS) (x1 : Int32) (x2 : Int32) (H : Heap) (locs : List Loc) (ls : Array Slot), X5_quarrels_b88 k40 X x1 x2 = some (r, Xr) → Wd D A s.heap H locs (cPT o cy cz X) → lv_has ls 5 [(0, .ref (o 9 0)), (1, .int x1), (2, .int x2)] → W p l e (rmz 3 72) s m args below meth c H locs 0 0 (MQ below (QI D cy cz A (cPT o cy cz Xr) r) args s 0 0 A) (F0 m 88 ls []) := by
  have hx := C.1
  have hb := C.2.1
  intro X x1 x2 H locs ls hm hW hl
  unfold X5_quarrels_b88 at hm
  refine lv_aload_n hx hb dX5_quarrels_88 rfl (lv_at hl 0 rfl) ?_
  refine gP_square C hW q199 dX5_quarrels_89 ?_
  obtain ⟨q2, e1, hm⟩ := mi_bind hm
  refine cq0_i_s (As := []) (rest := []) C hW (c_X4_passMinute e1) kX4_passMinute q416 rfl rfl rfl hl.1 ⟨Nat.le_of_ble_eq_true rfl, Nat.le_of_ble_eq_true rfl⟩ ⟨Nat.le_refl 0, Nat.le_refl 0⟩ (Nat.le_of_ble_eq_true rfl) dX5_quarrels_92 (fun H locs hW => ?_)
  refine lv_pop hx hb dX5_quarrels_95 rfl ?_
  refine lv_iinc (v := (x2 + (1 : Int32))) (lv' := [(2, .int (x2 + (1 : Int32))), (0, .ref (o 9 0)), (1, .int x1)]) hx hb dX5_quarrels_96 hl (k := 2) rfl (congrArg (fun z : Int32 => x2 + z) (by decide)) (by decide) rfl (fun ls hl => ?_)
  refine lv_goto (tgt := 40) hx hb dX5_quarrels_99 (by decide) ?_
  exact hk40 (va_up X 0 q2.2) x1 ((x2 + (1 : Int32))) _ _ _ hm hW (lv_sub hl [1, 2, 0] rfl)
def X5_quarrels_b40 : Nat → XS → Int32 → Int32 → Option (Int32 × XS)
  | 0, _, _, _ => none
  | n + 1, X, x1, x2 => if x1 ≤ x2 then (some ((X 0 11 6), X)) else ((X4_draw (X 0)).bind fun q5 => (X4_draw ((va_up X 0 q5.2) 0)).bind fun q7 => (X5_isNoPair (va_up (va_up X 0 q5.2) 0 q7.2) (q5.1 - q5.1 / (8 : Int32) * (8 : Int32)) (q7.1 - q7.1 / (8 : Int32) * (8 : Int32))).bind fun v9 => if v9 = (0 : Int32) then ((X4_seat ((va_up (va_up X 0 q5.2) 0 q7.2) 0) (q5.1 - q5.1 / (8 : Int32) * (8 : Int32)) (q7.1 - q7.1 / (8 : Int32) * (8 : Int32))).bind fun s12 => X5_quarrels_b88 (X5_quarrels_b40 n) (va_up (va_up (va_up X 0 q5.2) 0 q7.2) 0 s12) x1 x2) else (X5_quarrels_b88 (X5_quarrels_b40 n) (va_up (va_up X 0 q5.2) 0 q7.2) x1 x2))
set_option maxHeartbeats 4000000 in
set_option maxRecDepth 100000 in
theorem wX5_quarrels_b40 {p : Program} {l : Launch} {e : Env} {s : State} {m : MethodId} {below : List Frame} {meth : Method} {c : Code} {D : va_G} {cy cz : ClassId} {G : GT} {A : Nat → Prop} {args : Array Value} {o : Nat → Nat → Nat} {r : Int32} {Xr : XS} (C : Cx p s m args c cX5_quarrels 5 "PumpTalk" D cy cz G A) (hr : meth.sig.returnType = some .int) (hlk : meth.locks = false) : ∀ (n : Nat) (X : XS) (x1 : Int32) (x2 : Int32) (H : Heap) (locs : List Loc) (ls : Array Slot), X5_quarrels_b40 n X x1 x2 = some (r, Xr) → Wd D A s.heap H locs (cPT o cy cz X) → lv_has ls 5 [(0, .ref (o 9 0)), (1, .int x1), (2, .int x2)] → W p l e (rmz 3 72) s m args below meth c H locs 0 0 (MQ below (QI D cy cz A (cPT o cy cz Xr) r) args s 0 0 A) (F0 m 40 ls []) := by
  have hx := C.1
  have hb := C.2.1
  intro n
  induction n with
  | zero =>
    intro X x1 x2 H locs ls hm
    rw [X5_quarrels_b40] at hm
    cases hm
  | succ n ih =>
    intro X x1 x2 H locs ls hm hW hl
    rw [X5_quarrels_b40] at hm
    refine lv_iload_n hx hb dX5_quarrels_40 rfl (lv_at hl 2 rfl) ?_
    refine lv_iload_n hx hb dX5_quarrels_41 rfl (lv_at hl 1 rfl) ?_
    refine lv_icmp_ge (tgt := 102) hx hb dX5_quarrels_42 (by decide) (fun hc3 => ?_) (fun hc3 => ?_)
    · rw [if_pos hc3] at hm
      refine lv_aload_n hx hb dX5_quarrels_102 rfl (lv_at hl 0 rfl) ?_
      refine gP_square C hW q199 dX5_quarrels_103 ?_
      refine gSq_water C (wd_0 hW) q106 dX5_quarrels_106 ?_
      obtain ⟨rfl, rfl⟩ := Prod.mk.inj (Option.some.inj hm)
      exact en_i C hr hlk hW dX5_quarrels_109
    · rw [if_neg hc3] at hm
      refine lv_aload_n hx hb dX5_quarrels_45 rfl (lv_at hl 0 rfl) ?_
      refine gP_square C hW q199 dX5_quarrels_46 ?_
      obtain ⟨q5, e4, hm⟩ := mi_bind hm
      refine cq0_i_s (As := []) (rest := []) C hW (c_X4_draw e4) kX4_draw q558 rfl rfl rfl hl.1 ⟨Nat.le_of_ble_eq_true rfl, Nat.le_of_ble_eq_true rfl⟩ ⟨Nat.le_refl 0, Nat.le_refl 0⟩ (Nat.le_of_ble_eq_true rfl) dX5_quarrels_49 (fun H locs hW => ?_)
      refine lv_bipush (v := 8) hx hb dX5_quarrels_52 (by decide) ?_
      refine lv_irem hx hb dX5_quarrels_54 (by decide) ?_
      refine lv_istore_n (lv' := [(3, .int (q5.1 - q5.1 / (8 : Int32) * (8 : Int32))), (0, .ref (o 9 0)), (1, .int x1), (2, .int x2)]) hx hb dX5_quarrels_55 rfl hl (by decide) rfl (fun ls hl => ?_)
      refine lv_aload_n hx hb dX5_quarrels_56 rfl (lv_at hl 1 rfl) ?_
      refine gP_square C hW q199 dX5_quarrels_57 ?_
      obtain ⟨q7, e6, hm⟩ := mi_bind hm
      refine cq0_i_s (As := []) (rest := []) C hW (c_X4_draw e6) kX4_draw q558 rfl rfl rfl hl.1 ⟨Nat.le_of_ble_eq_true rfl, Nat.le_of_ble_eq_true rfl⟩ ⟨Nat.le_refl 0, Nat.le_refl 0⟩ (Nat.le_of_ble_eq_true rfl) dX5_quarrels_60 (fun H locs hW => ?_)
      refine lv_bipush (v := 8) hx hb dX5_quarrels_63 (by decide) ?_
      refine lv_irem hx hb dX5_quarrels_65 (by decide) ?_
      refine lv_istore (lv' := [(4, .int (q7.1 - q7.1 / (8 : Int32) * (8 : Int32))), (3, .int (q5.1 - q5.1 / (8 : Int32) * (8 : Int32))), (0, .ref (o 9 0)), (1, .int x1), (2, .int x2)]) hx hb dX5_quarrels_66 hl (by decide) rfl (fun ls hl => ?_)
      refine lv_aload_n hx hb dX5_quarrels_68 rfl (lv_at hl 2 rfl) ?_
      refine lv_iload_n hx hb dX5_quarrels_69 rfl (lv_at hl 1 rfl) ?_
      refine lv_iload hx hb dX5_quarrels_70 (lv_at hl 0 rfl) ?_
      obtain ⟨v9, e8, hm⟩ := mi_bind hm
      refine cs_i (q0 := 0) (As := [.int (q5.1 - q5.1 / (8 : Int32) * (8 : Int32)), .int (q7.1 - q7.1 / (8 : Int32) * (8 : Int32))]) (rest := []) C hW (c_X5_isNoPair e8) kX5_isNoPair q322 rfl rfl rfl rfl rfl hl.1 ⟨Nat.le_of_ble_eq_true rfl, Nat.le_of_ble_eq_true rfl⟩ ⟨Nat.le_refl 0, Nat.le_refl 0⟩ (Nat.le_of_ble_eq_true rfl) dX5_quarrels_72 (fun H locs hW => ?_)
      refine lv_if_ne (tgt := 88) hx hb dX5_quarrels_75 (by decide) (fun hc10 => ?_) (fun hc10 => ?_)
      · rw [if_neg hc10] at hm
        exact wX5_quarrels_b88 C hr hlk ih (va_up (va_up X 0 q5.2) 0 q7.2) x1 x2 _ _ _ hm hW (lv_sub hl [2, 3, 4] rfl)
      · rw [if_pos hc10] at hm
        refine lv_aload_n hx hb dX5_quarrels_78 rfl (lv_at hl 2 rfl) ?_
        refine gP_square C hW q199 dX5_quarrels_79 ?_
        refine lv_iload_n hx hb dX5_quarrels_82 rfl (lv_at hl 1 rfl) ?_
        refine lv_iload hx hb dX5_quarrels_83 (lv_at hl 0 rfl) ?_
        obtain ⟨s12, e11, hm⟩ := mi_bind hm
        refine cq0_v_s (As := [.int (q5.1 - q5.1 / (8 : Int32) * (8 : Int32)), .int (q7.1 - q7.1 / (8 : Int32) * (8 : Int32))]) (rest := []) C hW (c_X4_seat e11) kX4_seat q326 rfl rfl rfl hl.1 ⟨Nat.le_of_ble_eq_true rfl, Nat.le_of_ble_eq_true rfl⟩ ⟨Nat.le_refl 0, Nat.le_refl 0⟩ (Nat.le_of_ble_eq_true rfl) dX5_quarrels_85 (fun H locs hW => ?_)
        exact wX5_quarrels_b88 C hr hlk ih (va_up (va_up (va_up X 0 q5.2) 0 q7.2) 0 s12) x1 x2 _ _ _ hm hW (lv_sub hl [2, 3, 4] rfl)
def X5_quarrels (X : XS) (p1 : Int32) : Option (Int32 × XS) := (X5_isOutside p1 (1 : Int32) (20 : Int32)).bind fun v14 => if v14 = (0 : Int32) then (if ((X 0 11 5) + p1) ≤ (99999 : Int32) then (X5_quarrels_b40 FU X p1 (0 : Int32)) else ((X5_found X (-1000005 : Int32)).bind fun q18 => some (q18.1, q18.2))) else ((X5_found X (-1000001 : Int32)).bind fun q20 => some (q20.1, q20.2))
set_option maxHeartbeats 4000000 in
set_option maxRecDepth 100000 in
theorem c_X5_quarrels {l : Launch} {D : va_G} {cy cz : ClassId} {G : GT} {o : Nat → Nat → Nat} {X : XS} {p1 : Int32} {r : Int32} {Xr : XS} (hm : X5_quarrels X p1 = some (r, Xr)) : CtI l D cy cz G yX5_quarrels cX5_quarrels 5 (some .int) 3 72 [.ref (o 9 0), .int p1] (cPT o cy cz X) (cPT o cy cz Xr) r := by
  refine ct_i (own := "PumpTalk") (by decide) rfl (Nat.le_of_ble_eq_true rfl) ?_
  intro p e s m below meth c ls A C hr hlk hW hl
  have hx := C.1
  have hb := C.2.1
  have hl : lv_has ls 5 [(0, .ref (o 9 0)), (1, .int p1)] := hl
  unfold X5_quarrels at hm
  refine lv_iload_n hx hb dX5_quarrels_0 rfl (lv_at hl 1 rfl) ?_
  refine lv_iconst (v := 1) hx hb dX5_quarrels_1 (by decide) ?_
  refine lv_bipush (v := 20) hx hb dX5_quarrels_2 (by decide) ?_
  obtain ⟨v14, e13, hm⟩ := mi_bind hm
  refine cS_i (As := [.int p1, .int (1 : Int32), .int (20 : Int32)]) (rest := []) C hW (c_X5_isOutside e13) kX5_isOutside q228 rfl rfl hl.1 ⟨Nat.le_of_ble_eq_true rfl, Nat.le_of_ble_eq_true rfl⟩ ⟨Nat.le_refl 0, Nat.le_refl 0⟩ (Nat.le_of_ble_eq_true rfl) dX5_quarrels_4 (fun H locs hW => ?_)
  refine lv_if_eq (tgt := 17) hx hb dX5_quarrels_7 (by decide) (fun hc15 => ?_) (fun hc15 => ?_)
  · rw [if_pos hc15] at hm
    refine lv_aload_n hx hb dX5_quarrels_17 rfl (lv_at hl 0 rfl) ?_
    refine gP_square C hW q199 dX5_quarrels_18 ?_
    refine gSq_minute C (wd_0 hW) q104 dX5_quarrels_21 ?_
    refine lv_iload_n hx hb dX5_quarrels_24 rfl (lv_at hl 1 rfl) ?_
    refine lv_iadd hx hb dX5_quarrels_25 ?_
    refine lv_ldc hx hb C.2.2.2.1 (C.2.2.2.2.1 _ q363) dX5_quarrels_26 ?_
    refine lv_icmp_le (tgt := 38) hx hb dX5_quarrels_28 (by decide) (fun hc16 => ?_) (fun hc16 => ?_)
    · rw [if_pos hc16] at hm
      refine lv_iconst (v := 0) hx hb dX5_quarrels_38 (by decide) ?_
      refine lv_istore_n (lv' := [(2, .int (0 : Int32)), (0, .ref (o 9 0)), (1, .int p1)]) hx hb dX5_quarrels_39 rfl hl (by decide) rfl (fun ls hl => ?_)
      exact wX5_quarrels_b40 C hr hlk FU X p1 (0 : Int32) _ _ _ hm hW (lv_sub hl [1, 2, 0] rfl)
    · rw [if_neg hc16] at hm
      refine lv_aload_n hx hb dX5_quarrels_31 rfl (lv_at hl 0 rfl) ?_
      refine lv_ldc hx hb C.2.2.2.1 (C.2.2.2.2.1 _ q364) dX5_quarrels_32 ?_
      obtain ⟨q18, e17, hm⟩ := mi_bind hm
      refine cs_i (q0 := 0) (As := [.int (-1000005 : Int32)]) (rest := []) C hW (c_X5_found e17) kX5_found q232 rfl rfl rfl rfl rfl hl.1 ⟨Nat.le_of_ble_eq_true rfl, Nat.le_of_ble_eq_true rfl⟩ ⟨Nat.le_refl 0, Nat.le_refl 0⟩ (Nat.le_of_ble_eq_true rfl) dX5_quarrels_34 (fun H locs hW => ?_)
      obtain ⟨rfl, rfl⟩ := Prod.mk.inj (Option.some.inj hm)
      exact en_i C hr hlk hW dX5_quarrels_37
  · rw [if_neg hc15] at hm
    refine lv_aload_n hx hb dX5_quarrels_10 rfl (lv_at hl 0 rfl) ?_
    refine lv_ldc hx hb C.2.2.2.1 (C.2.2.2.2.1 _ q231) dX5_quarrels_11 ?_
    obtain ⟨q20, e19, hm⟩ := mi_bind hm
    refine cs_i (q0 := 0) (As := [.int (-1000001 : Int32)]) (rest := []) C hW (c_X5_found e19) kX5_found q232 rfl rfl rfl rfl rfl hl.1 ⟨Nat.le_of_ble_eq_true rfl, Nat.le_of_ble_eq_true rfl⟩ ⟨Nat.le_refl 0, Nat.le_refl 0⟩ (Nat.le_of_ble_eq_true rfl) dX5_quarrels_13 (fun H locs hW => ?_)
    obtain ⟨rfl, rfl⟩ := Prod.mk.inj (Option.some.inj hm)
    exact en_i C hr hlk hW dX5_quarrels_16
theorem kX5_quarrels : KM yX5_quarrels cX5_quarrels 5 (some .int) 1 := ⟨q555, q556, q67, q557, by decide +kernel, by decide +kernel, by decide +kernel⟩
def X5_power_b5 : Nat → Int64 → Int32 → Int64 → Int32 → Option (Int64)
  | 0, _, _, _, _ => none
  | n + 1, x0, x2, x3, x5 => if x2 ≤ x5 then (some x3) else (X5_power_b5 n x0 x2 (x3 * x0) ((x5 + (1 : Int32))))
set_option maxHeartbeats 4000000 in
set_option maxRecDepth 100000 in
theorem wX5_power_b5 {p : Program} {l : Launch} {e : Env} {s : State} {m : MethodId} {below : List Frame} {meth : Method} {c : Code} {D : va_G} {cy cz : ClassId} {G : GT} {A : Nat → Prop} {args : Array Value} {r : Int64} (C : Cx p s m args c cX5_power 6 "PumpTalk" D cy cz G A) (hr : meth.sig.returnType = some .long) (hlk : meth.locks = false) : ∀ (n : Nat) (x0 : Int64) (x2 : Int32) (x3 : Int64) (x5 : Int32) (H : Heap) (locs : List Loc) (ls : Array Slot), X5_power_b5 n x0 x2 x3 x5 = some r → Wd D A s.heap H locs ([] : va_W) → lv_has ls 6 [(0, .long x0), (2, .int x2), (3, .long x3), (5, .int x5)] → W p l e (rmz 0 0) s m args below meth c H locs 0 0 (MQ below (QL D cy cz A ([] : va_W) r) args s 0 0 A) (F0 m 5 ls []) := by
  have hx := C.1
  have hb := C.2.1
  intro n
  induction n with
  | zero =>
    intro x0 x2 x3 x5 H locs ls hm
    rw [X5_power_b5] at hm
    cases hm
  | succ n ih =>
    intro x0 x2 x3 x5 H locs ls hm hW hl
    rw [X5_power_b5] at hm
    refine lv_iload hx hb dX5_power_5 (lv_at hl 3 rfl) ?_
    refine lv_iload_n hx hb dX5_power_7 rfl (lv_at hl 1 rfl) ?_
    refine lv_icmp_ge (tgt := 21) hx hb dX5_power_8 (by decide) (fun hc1 => ?_) (fun hc1 => ?_)
    · rw [if_pos hc1] at hm
      refine lv_lload_n hx hb dX5_power_21 rfl (lv_at hl 2 rfl) ?_
      obtain rfl := Option.some.inj hm
      exact en_l C hr hlk hW dX5_power_22
    · rw [if_neg hc1] at hm
      refine lv_lload_n hx hb dX5_power_11 rfl (lv_at hl 2 rfl) ?_
      refine lv_lload_n hx hb dX5_power_12 rfl (lv_at hl 0 rfl) ?_
      refine lv_lmul hx hb dX5_power_13 ?_
      refine lv_lstore_n (lv' := [(3, .long (x3 * x0)), (0, .long x0), (2, .int x2), (5, .int x5)]) hx hb dX5_power_14 rfl hl (by decide) rfl (fun ls hl => ?_)
      refine lv_iinc (v := (x5 + (1 : Int32))) (lv' := [(5, .int (x5 + (1 : Int32))), (3, .long (x3 * x0)), (0, .long x0), (2, .int x2)]) hx hb dX5_power_15 hl (k := 3) rfl (congrArg (fun z : Int32 => x5 + z) (by decide)) (by decide) rfl (fun ls hl => ?_)
      refine lv_goto (tgt := 5) hx hb dX5_power_18 (by decide) ?_
      exact ih x0 x2 (x3 * x0) ((x5 + (1 : Int32))) _ _ _ hm hW (lv_sub hl [2, 3, 1, 0] rfl)
def X5_power (p1 : Int64) (p2 : Int32) : Option (Int64) := X5_power_b5 FU p1 p2 (1 : Int64) (0 : Int32)
set_option maxHeartbeats 4000000 in
set_option maxRecDepth 100000 in
theorem c_X5_power {l : Launch} {D : va_G} {cy cz : ClassId} {G : GT} {p1 : Int64} {p2 : Int32} {r : Int64} (hm : X5_power p1 p2 = some r) : CtL l D cy cz G yX5_power cX5_power 6 (some .long) 0 0 [.long p1, .int p2] ([] : va_W) ([] : va_W) r := by
  refine ct_l (own := "PumpTalk") (by decide) rfl (Nat.le_of_ble_eq_true rfl) ?_
  intro p e s m below meth c ls A C hr hlk hW hl
  have hx := C.1
  have hb := C.2.1
  have hl : lv_has ls 6 [(0, .long p1), (2, .int p2)] := hl
  unfold X5_power at hm
  refine lv_lconst (v := 1) hx hb dX5_power_0 (by decide) ?_
  refine lv_lstore_n (lv' := [(3, .long (1 : Int64)), (0, .long p1), (2, .int p2)]) hx hb dX5_power_1 rfl hl (by decide) rfl (fun ls hl => ?_)
  refine lv_iconst (v := 0) hx hb dX5_power_2 (by decide) ?_
  refine lv_istore (lv' := [(5, .int (0 : Int32)), (3, .long (1 : Int64)), (0, .long p1), (2, .int p2)]) hx hb dX5_power_3 hl (by decide) rfl (fun ls hl => ?_)
  exact wX5_power_b5 C hr hlk FU p1 p2 (1 : Int64) (0 : Int32) _ _ _ hm hW (lv_sub hl [2, 3, 1, 0] rfl)
theorem kX5_power : KS yX5_power cX5_power 6 (some .long) 2 := ⟨q570, q67, q571, by decide +kernel, by decide +kernel, by decide +kernel⟩
def X5_odds_b86 (X : XS) (x1 : Int32) (x2 : Int32) (x3 : Int64) (x5 : Int64) : Option (Int64 × XS) := if x2 = (0 : Int32) then ((X5_power x3 x1).bind fun v5 => some (v5, X)) else ((X5_power x5 x1).bind fun v3 => some (v3, X))
set_option maxHeartbeats 4000000 in
set_option maxRecDepth 100000 in
theorem wX5_odds_b86 {p : Program} {l : Launch} {e : Env} {s : State} {m : MethodId} {below : List Frame} {meth : Method} {c : Code} {D : va_G} {cy cz : ClassId} {G : GT} {A : Nat → Prop} {args : Array Value} {o : Nat → Nat → Nat} {r : Int64} {Xr : XS} (C : Cx p s m args c cX5_odds 7 "PumpTalk" D cy cz G A) (hr : meth.sig.returnType = some .long) (hlk : meth.locks = false) : ∀ (X : XS) (x1 : Int32) (x2 : Int32) (x3 : Int64) (x5 : Int64) (H : Heap) (locs : List Loc) (ls : Array Slot), X5_odds_b86 X x1 x2 x3 x5 = some (r, Xr) → Wd D A s.heap H locs (cPT o cy cz X) → lv_has ls 7 [(1, .int x1), (2, .int x2), (3, .long x3), (5, .long x5)] → W p l e (rmz 1 25) s m args below meth c H locs 0 0 (MQ below (QL D cy cz A (cPT o cy cz Xr) r) args s 0 0 A) (F0 m 86 ls []) := by
  have hx := C.1
  have hb := C.2.1
  intro X x1 x2 x3 x5 H locs ls hm hW hl
  unfold X5_odds_b86 at hm
  refine lv_iload_n hx hb dX5_odds_86 rfl (lv_at hl 1 rfl) ?_
  refine lv_if_ne (tgt := 94) hx hb dX5_odds_87 (by decide) (fun hc1 => ?_) (fun hc1 => ?_)
  · rw [if_neg hc1] at hm
    refine lv_lload hx hb dX5_odds_94 (lv_at hl 3 rfl) ?_
    refine lv_iload_n hx hb dX5_odds_96 rfl (lv_at hl 0 rfl) ?_
    obtain ⟨v3, e2, hm⟩ := mi_bind hm
    refine cS_l (As := [.long x5, .int x1]) (rest := []) C hW (c_X5_power e2) kX5_power q569 rfl rfl hl.1 ⟨Nat.le_of_ble_eq_true rfl, Nat.le_of_ble_eq_true rfl⟩ ⟨Nat.le_refl 0, Nat.le_refl 0⟩ (Nat.le_of_ble_eq_true rfl) dX5_odds_97 (fun H locs hW => ?_)
    obtain ⟨rfl, rfl⟩ := Prod.mk.inj (Option.some.inj hm)
    exact en_l C hr hlk hW dX5_odds_100
  · rw [if_pos hc1] at hm
    refine lv_lload_n hx hb dX5_odds_90 rfl (lv_at hl 2 rfl) ?_
    refine lv_goto (tgt := 96) hx hb dX5_odds_91 (by decide) ?_
    refine lv_iload_n hx hb dX5_odds_96 rfl (lv_at hl 0 rfl) ?_
    obtain ⟨v5, e4, hm⟩ := mi_bind hm
    refine cS_l (As := [.long x3, .int x1]) (rest := []) C hW (c_X5_power e4) kX5_power q569 rfl rfl hl.1 ⟨Nat.le_of_ble_eq_true rfl, Nat.le_of_ble_eq_true rfl⟩ ⟨Nat.le_refl 0, Nat.le_refl 0⟩ (Nat.le_of_ble_eq_true rfl) dX5_odds_97 (fun H locs hW => ?_)
    obtain ⟨rfl, rfl⟩ := Prod.mk.inj (Option.some.inj hm)
    exact en_l C hr hlk hW dX5_odds_100
def X5_odds_b52 : Nat → XS → Int32 → Int32 → Int64 → Int64 → Option (Int64 × XS)
  | 0, _, _, _, _, _ => none
  | n + 1, X, x1, x2, x3, x5 => if (lg_cmp x5 (1 : Int64)) ≤ (0 : Int32) then (X5_odds_b86 X x1 x2 x3 x5) else (if (lg_cmp (x3 - x3 / (2 : Int64) * (2 : Int64)) (0 : Int64)) = (0 : Int32) then (X5_odds_b52 n X x1 x2 ((x3 / (2 : Int64))) ((x5 / (2 : Int64)))) else (X5_odds_b86 X x1 x2 x3 x5))
set_option maxHeartbeats 4000000 in
set_option maxRecDepth 100000 in
theorem wX5_odds_b52 {p : Program} {l : Launch} {e : Env} {s : State} {m : MethodId} {below : List Frame} {meth : Method} {c : Code} {D : va_G} {cy cz : ClassId} {G : GT} {A : Nat → Prop} {args : Array Value} {o : Nat → Nat → Nat} {r : Int64} {Xr : XS} (C : Cx p s m args c cX5_odds 7 "PumpTalk" D cy cz G A) (hr : meth.sig.returnType = some .long) (hlk : meth.locks = false) : ∀ (n : Nat) (X : XS) (x1 : Int32) (x2 : Int32) (x3 : Int64) (x5 : Int64) (H : Heap) (locs : List Loc) (ls : Array Slot), X5_odds_b52 n X x1 x2 x3 x5 = some (r, Xr) → Wd D A s.heap H locs (cPT o cy cz X) → lv_has ls 7 [(1, .int x1), (2, .int x2), (3, .long x3), (5, .long x5)] → W p l e (rmz 1 25) s m args below meth c H locs 0 0 (MQ below (QL D cy cz A (cPT o cy cz Xr) r) args s 0 0 A) (F0 m 52 ls []) := by
  have hx := C.1
  have hb := C.2.1
  intro n
  induction n with
  | zero =>
    intro X x1 x2 x3 x5 H locs ls hm
    rw [X5_odds_b52] at hm
    cases hm
  | succ n ih =>
    intro X x1 x2 x3 x5 H locs ls hm hW hl
    rw [X5_odds_b52] at hm
    refine lv_lload hx hb dX5_odds_52 (lv_at hl 3 rfl) ?_
    refine lv_lconst (v := 1) hx hb dX5_odds_54 (by decide) ?_
    refine W.lcmp hx hb dX5_odds_55 ?_
    refine lv_if_le (tgt := 86) hx hb dX5_odds_56 (by decide) (fun hc6 => ?_) (fun hc6 => ?_)
    · rw [if_pos hc6] at hm
      exact wX5_odds_b86 C hr hlk X x1 x2 x3 x5 _ _ _ hm hW (lv_sub hl [0, 1, 2, 3] rfl)
    · rw [if_neg hc6] at hm
      refine lv_lload_n hx hb dX5_odds_59 rfl (lv_at hl 2 rfl) ?_
      refine lv_ldc2 hx hb C.2.2.2.1 (C.2.2.2.2.1 _ q568) dX5_odds_60 ?_
      refine lv_lrem hx hb dX5_odds_63 (by decide) ?_
      refine lv_lconst (v := 0) hx hb dX5_odds_64 (by decide) ?_
      refine W.lcmp hx hb dX5_odds_65 ?_
      refine lv_if_ne (tgt := 86) hx hb dX5_odds_66 (by decide) (fun hc7 => ?_) (fun hc7 => ?_)
      · rw [if_neg hc7] at hm
        exact wX5_odds_b86 C hr hlk X x1 x2 x3 x5 _ _ _ hm hW (lv_sub hl [0, 1, 2, 3] rfl)
      · rw [if_pos hc7] at hm
        refine lv_lload_n hx hb dX5_odds_69 rfl (lv_at hl 2 rfl) ?_
        refine lv_ldc2 hx hb C.2.2.2.1 (C.2.2.2.2.1 _ q568) dX5_odds_70 ?_
        refine lv_ldiv hx hb dX5_odds_73 (by decide) ?_
        refine lv_lstore_n (lv' := [(3, .long (x3 / (2 : Int64))), (1, .int x1), (2, .int x2), (5, .long x5)]) hx hb dX5_odds_74 rfl hl (by decide) rfl (fun ls hl => ?_)
        refine lv_lload hx hb dX5_odds_75 (lv_at hl 3 rfl) ?_
        refine lv_ldc2 hx hb C.2.2.2.1 (C.2.2.2.2.1 _ q568) dX5_odds_77 ?_
        refine lv_ldiv hx hb dX5_odds_80 (by decide) ?_
        refine lv_lstore (lv' := [(5, .long (x5 / (2 : Int64))), (3, .long (x3 / (2 : Int64))), (1, .int x1), (2, .int x2)]) hx hb dX5_odds_81 hl (by decide) rfl (fun ls hl => ?_)
        refine lv_goto (tgt := 52) hx hb dX5_odds_83 (by decide) ?_
        exact ih X x1 x2 ((x3 / (2 : Int64))) ((x5 / (2 : Int64))) _ _ _ hm hW (lv_sub hl [2, 3, 1, 0] rfl)
def X5_odds_b19 (X : XS) : Option (Int64 × XS) := (X5_found X (-1000001 : Int32)).bind fun q9 => some ((Int32.toInt64 q9.1), q9.2)
set_option maxHeartbeats 4000000 in
set_option maxRecDepth 100000 in
theorem wX5_odds_b19 {p : Program} {l : Launch} {e : Env} {s : State} {m : MethodId} {below : List Frame} {meth : Method} {c : Code} {D : va_G} {cy cz : ClassId} {G : GT} {A : Nat → Prop} {args : Array Value} {o : Nat → Nat → Nat} {r : Int64} {Xr : XS} (C : Cx p s m args c cX5_odds 7 "PumpTalk" D cy cz G A) (hr : meth.sig.returnType = some .long) (hlk : meth.locks = false) : ∀ (X : XS) (H : Heap) (locs : List Loc) (ls : Array Slot), X5_odds_b19 X = some (r, Xr) → Wd D A s.heap H locs (cPT o cy cz X) → lv_has ls 7 [(0, .ref (o 9 0))] → W p l e (rmz 1 25) s m args below meth c H locs 0 0 (MQ below (QL D cy cz A (cPT o cy cz Xr) r) args s 0 0 A) (F0 m 19 ls []) := by
  have hx := C.1
  have hb := C.2.1
  intro X H locs ls hm hW hl
  unfold X5_odds_b19 at hm
  refine lv_aload_n hx hb dX5_odds_19 rfl (lv_at hl 0 rfl) ?_
  refine lv_ldc hx hb C.2.2.2.1 (C.2.2.2.2.1 _ q231) dX5_odds_20 ?_
  obtain ⟨q9, e8, hm⟩ := mi_bind hm
  refine cs_i (q0 := 0) (As := [.int (-1000001 : Int32)]) (rest := []) C hW (c_X5_found e8) kX5_found q232 rfl rfl rfl rfl rfl hl.1 ⟨Nat.le_of_ble_eq_true rfl, Nat.le_of_ble_eq_true rfl⟩ ⟨Nat.le_refl 0, Nat.le_refl 0⟩ (Nat.le_of_ble_eq_true rfl) dX5_odds_22 (fun H locs hW => ?_)
  refine lv_i2l hx hb dX5_odds_25 rfl ?_
  obtain ⟨rfl, rfl⟩ := Prod.mk.inj (Option.some.inj hm)
  exact en_l C hr hlk hW dX5_odds_26
def X5_odds (X : XS) (p1 : Int32) (p2 : Int32) : Option (Int64 × XS) := (X5_isOutside p1 (0 : Int32) (10 : Int32)).bind fun v11 => if v11 = (0 : Int32) then ((X5_isOutside p2 (0 : Int32) (1 : Int32)).bind fun v14 => if v14 = (0 : Int32) then (X5_odds_b52 FU X p1 p2 (((Int32.toInt64 (X 0 11 4)) * (Int32.toInt64 ((X 0 11 4) - (1 : Int32))))) (64 : Int64)) else (X5_odds_b19 X)) else (X5_odds_b19 X)
set_option maxHeartbeats 4000000 in
set_option maxRecDepth 100000 in
theorem c_X5_odds {l : Launch} {D : va_G} {cy cz : ClassId} {G : GT} {o : Nat → Nat → Nat} {X : XS} {p1 : Int32} {p2 : Int32} {r : Int64} {Xr : XS} (hm : X5_odds X p1 p2 = some (r, Xr)) : CtL l D cy cz G yX5_odds cX5_odds 7 (some .long) 1 25 [.ref (o 9 0), .int p1, .int p2] (cPT o cy cz X) (cPT o cy cz Xr) r := by
  refine ct_l (own := "PumpTalk") (by decide) rfl (Nat.le_of_ble_eq_true rfl) ?_
  intro p e s m below meth c ls A C hr hlk hW hl
  have hx := C.1
  have hb := C.2.1
  have hl : lv_has ls 7 [(0, .ref (o 9 0)), (1, .int p1), (2, .int p2)] := hl
  unfold X5_odds at hm
  refine lv_iload_n hx hb dX5_odds_0 rfl (lv_at hl 1 rfl) ?_
  refine lv_iconst (v := 0) hx hb dX5_odds_1 (by decide) ?_
  refine lv_bipush (v := 10) hx hb dX5_odds_2 (by decide) ?_
  obtain ⟨v11, e10, hm⟩ := mi_bind hm
  refine cS_i (As := [.int p1, .int (0 : Int32), .int (10 : Int32)]) (rest := []) C hW (c_X5_isOutside e10) kX5_isOutside q228 rfl rfl hl.1 ⟨Nat.le_of_ble_eq_true rfl, Nat.le_of_ble_eq_true rfl⟩ ⟨Nat.le_refl 0, Nat.le_refl 0⟩ (Nat.le_of_ble_eq_true rfl) dX5_odds_4 (fun H locs hW => ?_)
  refine lv_if_ne (tgt := 19) hx hb dX5_odds_7 (by decide) (fun hc12 => ?_) (fun hc12 => ?_)
  · rw [if_neg hc12] at hm
    exact wX5_odds_b19 C hr hlk X _ _ _ hm hW (lv_sub hl [0] rfl)
  · rw [if_pos hc12] at hm
    refine lv_iload_n hx hb dX5_odds_10 rfl (lv_at hl 2 rfl) ?_
    refine lv_iconst (v := 0) hx hb dX5_odds_11 (by decide) ?_
    refine lv_iconst (v := 1) hx hb dX5_odds_12 (by decide) ?_
    obtain ⟨v14, e13, hm⟩ := mi_bind hm
    refine cS_i (As := [.int p2, .int (0 : Int32), .int (1 : Int32)]) (rest := []) C hW (c_X5_isOutside e13) kX5_isOutside q228 rfl rfl hl.1 ⟨Nat.le_of_ble_eq_true rfl, Nat.le_of_ble_eq_true rfl⟩ ⟨Nat.le_refl 0, Nat.le_refl 0⟩ (Nat.le_of_ble_eq_true rfl) dX5_odds_13 (fun H locs hW => ?_)
    refine lv_if_eq (tgt := 27) hx hb dX5_odds_16 (by decide) (fun hc15 => ?_) (fun hc15 => ?_)
    · rw [if_pos hc15] at hm
      refine lv_aload_n hx hb dX5_odds_27 rfl (lv_at hl 0 rfl) ?_
      refine gP_square C hW q199 dX5_odds_28 ?_
      refine gSq_people C (wd_0 hW) q102 dX5_odds_31 ?_
      refine lv_i2l hx hb dX5_odds_34 rfl ?_
      refine lv_aload_n hx hb dX5_odds_35 rfl (lv_at hl 0 rfl) ?_
      refine gP_square C hW q199 dX5_odds_36 ?_
      refine gSq_people C (wd_0 hW) q102 dX5_odds_39 ?_
      refine lv_iconst (v := 1) hx hb dX5_odds_42 (by decide) ?_
      refine lv_isub hx hb dX5_odds_43 ?_
      refine lv_i2l hx hb dX5_odds_44 rfl ?_
      refine lv_lmul hx hb dX5_odds_45 ?_
      refine lv_lstore_n (lv' := [(3, .long ((Int32.toInt64 (X 0 11 4)) * (Int32.toInt64 ((X 0 11 4) - (1 : Int32))))), (0, .ref (o 9 0)), (1, .int p1), (2, .int p2)]) hx hb dX5_odds_46 rfl hl (by decide) rfl (fun ls hl => ?_)
      refine lv_ldc2 hx hb C.2.2.2.1 (C.2.2.2.2.1 _ q567) dX5_odds_47 ?_
      refine lv_lstore (lv' := [(5, .long (64 : Int64)), (3, .long ((Int32.toInt64 (X 0 11 4)) * (Int32.toInt64 ((X 0 11 4) - (1 : Int32))))), (0, .ref (o 9 0)), (1, .int p1), (2, .int p2)]) hx hb dX5_odds_50 hl (by decide) rfl (fun ls hl => ?_)
      exact wX5_odds_b52 C hr hlk FU X p1 p2 (((Int32.toInt64 (X 0 11 4)) * (Int32.toInt64 ((X 0 11 4) - (1 : Int32))))) (64 : Int64) _ _ _ hm hW (lv_sub hl [3, 4, 1, 0] rfl)
    · rw [if_neg hc15] at hm
      exact wX5_odds_b19 C hr hlk X _ _ _ hm hW (lv_sub hl [0] rfl)
theorem kX5_odds : KM yX5_odds cX5_odds 7 (some .long) 2 := ⟨q564, q565, q67, q566, by decide +kernel, by decide +kernel, by decide +kernel⟩
def X5_seed (X : XS) (p1 : Int32) : Option (Int32 × XS) := (some (va_up X 0 (su (X 0) 11 10 p1))).bind fun s1 => some ((X 0 11 10), s1)
set_option maxHeartbeats 4000000 in
set_option maxRecDepth 100000 in
theorem c_X5_seed {l : Launch} {D : va_G} {cy cz : ClassId} {G : GT} {o : Nat → Nat → Nat} {X : XS} {p1 : Int32} {r : Int32} {Xr : XS} (hm : X5_seed X p1 = some (r, Xr)) : CtI l D cy cz G yX5_seed cX5_seed 3 (some .int) 0 0 [.ref (o 9 0), .int p1] (cPT o cy cz X) (cPT o cy cz Xr) r := by
  refine ct_i (own := "PumpTalk") (by decide) rfl (Nat.le_of_ble_eq_true rfl) ?_
  intro p e s m below meth c ls A C hr hlk hW hl
  have hx := C.1
  have hb := C.2.1
  have hl : lv_has ls 3 [(0, .ref (o 9 0)), (1, .int p1)] := hl
  unfold X5_seed at hm
  refine lv_aload_n hx hb dX5_seed_0 rfl (lv_at hl 0 rfl) ?_
  refine gP_square C hW q199 dX5_seed_1 ?_
  refine gSq_z C (wd_0 hW) q115 dX5_seed_4 ?_
  refine lv_istore_n (lv' := [(2, .int (X 0 11 10)), (0, .ref (o 9 0)), (1, .int p1)]) hx hb dX5_seed_7 rfl hl (by decide) rfl (fun ls hl => ?_)
  refine lv_aload_n hx hb dX5_seed_8 rfl (lv_at hl 1 rfl) ?_
  refine gP_square C hW q199 dX5_seed_9 ?_
  refine lv_iload_n hx hb dX5_seed_12 rfl (lv_at hl 2 rfl) ?_
  refine pP0_z C hW q115 dX5_seed_13 (fun H locs hW => ?_)
  obtain ⟨s1, e2, hm⟩ := mi_bind hm
  rw [Option.some.inj e2] at hW
  refine lv_iload_n hx hb dX5_seed_16 rfl (lv_at hl 0 rfl) ?_
  obtain ⟨rfl, rfl⟩ := Prod.mk.inj (Option.some.inj hm)
  exact en_i C hr hlk hW dX5_seed_17
theorem kX5_seed : KM yX5_seed cX5_seed 3 (some .int) 1 := ⟨q573, q574, q67, q575, by decide +kernel, by decide +kernel, by decide +kernel⟩
def X5_feed_b41 : Nat → XS → Int32 → Int32 → Option (Int32 × XS)
  | 0, _, _, _ => none
  | n + 1, X, x1, x3 => if x3 < (0 : Int32) then (some ((X 3 6 1), X)) else ((X2_append (X 3) ((((x1).toUInt32 >>> ((((8 : Int32) * x3)).toUInt32 &&& Int32.toUInt32 31)).toInt32) &&& (255 : Int32))).bind fun s3 => X5_feed_b41 n (va_up X 3 s3) x1 ((x3 + (-1 : Int32))))
set_option maxHeartbeats 4000000 in
set_option maxRecDepth 100000 in
theorem wX5_feed_b41 {p : Program} {l : Launch} {e : Env} {s : State} {m : MethodId} {below : List Frame} {meth : Method} {c : Code} {D : va_G} {cy cz : ClassId} {G : GT} {A : Nat → Prop} {args : Array Value} {o : Nat → Nat → Nat} {r : Int32} {Xr : XS} (C : Cx p s m args c cX5_feed 4 "PumpTalk" D cy cz G A) (hr : meth.sig.returnType = some .int) (hlk : meth.locks = false) : ∀ (n : Nat) (X : XS) (x1 : Int32) (x3 : Int32) (H : Heap) (locs : List Loc) (ls : Array Slot), X5_feed_b41 n X x1 x3 = some (r, Xr) → Wd D A s.heap H locs (cPT o cy cz X) → lv_has ls 4 [(0, .ref (o 9 0)), (1, .int x1), (3, .int x3)] → W p l e (rmz 1 22) s m args below meth c H locs 0 0 (MQ below (QI D cy cz A (cPT o cy cz Xr) r) args s 0 0 A) (F0 m 41 ls []) := by
  have hx := C.1
  have hb := C.2.1
  intro n
  induction n with
  | zero =>
    intro X x1 x3 H locs ls hm
    rw [X5_feed_b41] at hm
    cases hm
  | succ n ih =>
    intro X x1 x3 H locs ls hm hW hl
    rw [X5_feed_b41] at hm
    refine lv_iload_n hx hb dX5_feed_41 rfl (lv_at hl 2 rfl) ?_
    refine lv_if_lt (tgt := 68) hx hb dX5_feed_42 (by decide) (fun hc1 => ?_) (fun hc1 => ?_)
    · rw [if_pos hc1] at hm
      refine lv_aload_n hx hb dX5_feed_68 rfl (lv_at hl 0 rfl) ?_
      refine gP_reader C hW q203 dX5_feed_69 ?_
      refine gRd_length C (wd_3 hW) q148 dX5_feed_72 ?_
      obtain ⟨rfl, rfl⟩ := Prod.mk.inj (Option.some.inj hm)
      exact en_i C hr hlk hW dX5_feed_75
    · rw [if_neg hc1] at hm
      refine lv_aload_n hx hb dX5_feed_45 rfl (lv_at hl 0 rfl) ?_
      refine gP_reader C hW q203 dX5_feed_46 ?_
      refine lv_iload_n hx hb dX5_feed_49 rfl (lv_at hl 1 rfl) ?_
      refine lv_bipush (v := 8) hx hb dX5_feed_50 (by decide) ?_
      refine lv_iload_n hx hb dX5_feed_52 rfl (lv_at hl 2 rfl) ?_
      refine lv_imul hx hb dX5_feed_53 ?_
      refine lv_iushr hx hb dX5_feed_54 rfl ?_
      refine lv_sipush (v := 255) hx hb dX5_feed_55 (by decide) ?_
      refine lv_iand hx hb dX5_feed_58 ?_
      obtain ⟨s3, e2, hm⟩ := mi_bind hm
      refine cq3_v_s (As := [.int ((((x1).toUInt32 >>> ((((8 : Int32) * x3)).toUInt32 &&& Int32.toUInt32 31)).toInt32) &&& (255 : Int32))]) (rest := []) C hW (c_X2_append e2) kX2_append q580 rfl rfl rfl hl.1 ⟨Nat.le_of_ble_eq_true rfl, Nat.le_of_ble_eq_true rfl⟩ ⟨Nat.le_refl 0, Nat.le_refl 0⟩ (Nat.le_of_ble_eq_true rfl) dX5_feed_59 (fun H locs hW => ?_)
      refine lv_iinc (v := (x3 + (-1 : Int32))) (lv' := [(3, .int (x3 + (-1 : Int32))), (0, .ref (o 9 0)), (1, .int x1)]) hx hb dX5_feed_62 hl (k := 2) rfl (congrArg (fun z : Int32 => x3 + z) (by decide)) (by decide) rfl (fun ls hl => ?_)
      refine lv_goto (tgt := 41) hx hb dX5_feed_65 (by decide) ?_
      exact ih (va_up X 3 s3) x1 ((x3 + (-1 : Int32))) _ _ _ hm hW (lv_sub hl [1, 2, 0] rfl)
def X5_feed (X : XS) (p1 : Int32) (p2 : Int32) : Option (Int32 × XS) := (X5_isOutside p2 (1 : Int32) (4 : Int32)).bind fun v5 => if v5 = (0 : Int32) then (if ((X 3 6 1) + p2) ≤ (120 : Int32) then (X5_feed_b41 FU X p1 ((p2 - (1 : Int32)))) else ((X5_found X (-1000002 : Int32)).bind fun q9 => some (q9.1, q9.2))) else ((X5_found X (-1000001 : Int32)).bind fun q11 => some (q11.1, q11.2))
set_option maxHeartbeats 4000000 in
set_option maxRecDepth 100000 in
theorem c_X5_feed {l : Launch} {D : va_G} {cy cz : ClassId} {G : GT} {o : Nat → Nat → Nat} {X : XS} {p1 : Int32} {p2 : Int32} {r : Int32} {Xr : XS} (hm : X5_feed X p1 p2 = some (r, Xr)) : CtI l D cy cz G yX5_feed cX5_feed 4 (some .int) 1 22 [.ref (o 9 0), .int p1, .int p2] (cPT o cy cz X) (cPT o cy cz Xr) r := by
  refine ct_i (own := "PumpTalk") (by decide) rfl (Nat.le_of_ble_eq_true rfl) ?_
  intro p e s m below meth c ls A C hr hlk hW hl
  have hx := C.1
  have hb := C.2.1
  have hl : lv_has ls 4 [(0, .ref (o 9 0)), (1, .int p1), (2, .int p2)] := hl
  unfold X5_feed at hm
  refine lv_iload_n hx hb dX5_feed_0 rfl (lv_at hl 2 rfl) ?_
  refine lv_iconst (v := 1) hx hb dX5_feed_1 (by decide) ?_
  refine lv_iconst (v := 4) hx hb dX5_feed_2 (by decide) ?_
  obtain ⟨v5, e4, hm⟩ := mi_bind hm
  refine cS_i (As := [.int p2, .int (1 : Int32), .int (4 : Int32)]) (rest := []) C hW (c_X5_isOutside e4) kX5_isOutside q228 rfl rfl hl.1 ⟨Nat.le_of_ble_eq_true rfl, Nat.le_of_ble_eq_true rfl⟩ ⟨Nat.le_refl 0, Nat.le_refl 0⟩ (Nat.le_of_ble_eq_true rfl) dX5_feed_3 (fun H locs hW => ?_)
  refine lv_if_eq (tgt := 16) hx hb dX5_feed_6 (by decide) (fun hc6 => ?_) (fun hc6 => ?_)
  · rw [if_pos hc6] at hm
    refine lv_aload_n hx hb dX5_feed_16 rfl (lv_at hl 0 rfl) ?_
    refine gP_reader C hW q203 dX5_feed_17 ?_
    refine gRd_length C (wd_3 hW) q148 dX5_feed_20 ?_
    refine lv_iload_n hx hb dX5_feed_23 rfl (lv_at hl 2 rfl) ?_
    refine lv_iadd hx hb dX5_feed_24 ?_
    refine lv_bipush (v := 120) hx hb dX5_feed_25 (by decide) ?_
    refine lv_icmp_le (tgt := 37) hx hb dX5_feed_27 (by decide) (fun hc7 => ?_) (fun hc7 => ?_)
    · rw [if_pos hc7] at hm
      refine lv_iload_n hx hb dX5_feed_37 rfl (lv_at hl 2 rfl) ?_
      refine lv_iconst (v := 1) hx hb dX5_feed_38 (by decide) ?_
      refine lv_isub hx hb dX5_feed_39 ?_
      refine lv_istore_n (lv' := [(3, .int (p2 - (1 : Int32))), (0, .ref (o 9 0)), (1, .int p1), (2, .int p2)]) hx hb dX5_feed_40 rfl hl (by decide) rfl (fun ls hl => ?_)
      exact wX5_feed_b41 C hr hlk FU X p1 ((p2 - (1 : Int32))) _ _ _ hm hW (lv_sub hl [1, 2, 0] rfl)
    · rw [if_neg hc7] at hm
      refine lv_aload_n hx hb dX5_feed_30 rfl (lv_at hl 0 rfl) ?_
      refine lv_ldc hx hb C.2.2.2.1 (C.2.2.2.2.1 _ q240) dX5_feed_31 ?_
      obtain ⟨q9, e8, hm⟩ := mi_bind hm
      refine cs_i (q0 := 0) (As := [.int (-1000002 : Int32)]) (rest := []) C hW (c_X5_found e8) kX5_found q232 rfl rfl rfl rfl rfl hl.1 ⟨Nat.le_of_ble_eq_true rfl, Nat.le_of_ble_eq_true rfl⟩ ⟨Nat.le_refl 0, Nat.le_refl 0⟩ (Nat.le_of_ble_eq_true rfl) dX5_feed_33 (fun H locs hW => ?_)
      obtain ⟨rfl, rfl⟩ := Prod.mk.inj (Option.some.inj hm)
      exact en_i C hr hlk hW dX5_feed_36
  · rw [if_neg hc6] at hm
    refine lv_aload_n hx hb dX5_feed_9 rfl (lv_at hl 0 rfl) ?_
    refine lv_ldc hx hb C.2.2.2.1 (C.2.2.2.2.1 _ q231) dX5_feed_10 ?_
    obtain ⟨q11, e10, hm⟩ := mi_bind hm
    refine cs_i (q0 := 0) (As := [.int (-1000001 : Int32)]) (rest := []) C hW (c_X5_found e10) kX5_found q232 rfl rfl rfl rfl rfl hl.1 ⟨Nat.le_of_ble_eq_true rfl, Nat.le_of_ble_eq_true rfl⟩ ⟨Nat.le_refl 0, Nat.le_refl 0⟩ (Nat.le_of_ble_eq_true rfl) dX5_feed_12 (fun H locs hW => ?_)
    obtain ⟨rfl, rfl⟩ := Prod.mk.inj (Option.some.inj hm)
    exact en_i C hr hlk hW dX5_feed_15
theorem kX5_feed : KM yX5_feed cX5_feed 4 (some .int) 2 := ⟨q577, q578, q67, q579, by decide +kernel, by decide +kernel, by decide +kernel⟩
def X5_wipe (X : XS) : Option (Int32 × XS) := (some (va_up X 3 (su (X 3) 6 1 (0 : Int32)))).bind fun s1 => some ((X 3 6 1), s1)
set_option maxHeartbeats 4000000 in
set_option maxRecDepth 100000 in
theorem c_X5_wipe {l : Launch} {D : va_G} {cy cz : ClassId} {G : GT} {o : Nat → Nat → Nat} {X : XS} {r : Int32} {Xr : XS} (hm : X5_wipe X = some (r, Xr)) : CtI l D cy cz G yX5_wipe cX5_wipe 2 (some .int) 0 0 [.ref (o 9 0)] (cPT o cy cz X) (cPT o cy cz Xr) r := by
  refine ct_i (own := "PumpTalk") (by decide) rfl (Nat.le_of_ble_eq_true rfl) ?_
  intro p e s m below meth c ls A C hr hlk hW hl
  have hx := C.1
  have hb := C.2.1
  have hl : lv_has ls 2 [(0, .ref (o 9 0))] := hl
  unfold X5_wipe at hm
  refine lv_aload_n hx hb dX5_wipe_0 rfl (lv_at hl 0 rfl) ?_
  refine gP_reader C hW q203 dX5_wipe_1 ?_
  refine gRd_length C (wd_3 hW) q148 dX5_wipe_4 ?_
  refine lv_istore_n (lv' := [(1, .int (X 3 6 1)), (0, .ref (o 9 0))]) hx hb dX5_wipe_7 rfl hl (by decide) rfl (fun ls hl => ?_)
  refine lv_aload_n hx hb dX5_wipe_8 rfl (lv_at hl 1 rfl) ?_
  refine gP_reader C hW q203 dX5_wipe_9 ?_
  refine lv_iconst (v := 0) hx hb dX5_wipe_12 (by decide) ?_
  refine pP3_length C hW q148 dX5_wipe_13 (fun H locs hW => ?_)
  obtain ⟨s1, e2, hm⟩ := mi_bind hm
  rw [Option.some.inj e2] at hW
  refine lv_iload_n hx hb dX5_wipe_16 rfl (lv_at hl 0 rfl) ?_
  obtain ⟨rfl, rfl⟩ := Prod.mk.inj (Option.some.inj hm)
  exact en_i C hr hlk hW dX5_wipe_17
theorem kX5_wipe : KM yX5_wipe cX5_wipe 2 (some .int) 0 := ⟨q585, q586, q67, q587, by decide +kernel, by decide +kernel, by decide +kernel⟩
def X5_hold_b33 (X : XS) (x1 : Int32) (x2 : Int32) : Option (Int32 × XS) := ai x1 10 ((some (va_up X 0 (su (X 0) 3 (Int32.toNatClampNeg x1) x2))).bind fun s2 => some ((1 : Int32), s2))
set_option maxHeartbeats 4000000 in
set_option maxRecDepth 100000 in
theorem wX5_hold_b33 {p : Program} {l : Launch} {e : Env} {s : State} {m : MethodId} {below : List Frame} {meth : Method} {c : Code} {D : va_G} {cy cz : ClassId} {G : GT} {A : Nat → Prop} {args : Array Value} {o : Nat → Nat → Nat} {r : Int32} {Xr : XS} (C : Cx p s m args c cX5_hold 3 "PumpTalk" D cy cz G A) (hr : meth.sig.returnType = some .int) (hlk : meth.locks = false) : ∀ (X : XS) (x1 : Int32) (x2 : Int32) (H : Heap) (locs : List Loc) (ls : Array Slot), X5_hold_b33 X x1 x2 = some (r, Xr) → Wd D A s.heap H locs (cPT o cy cz X) → lv_has ls 3 [(0, .ref (o 9 0)), (1, .int x1), (2, .int x2)] → W p l e (rmz 1 22) s m args below meth c H locs 0 0 (MQ below (QI D cy cz A (cPT o cy cz Xr) r) args s 0 0 A) (F0 m 33 ls []) := by
  have hx := C.1
  have hb := C.2.1
  intro X x1 x2 H locs ls hm hW hl
  unfold X5_hold_b33 at hm
  refine lv_aload_n hx hb dX5_hold_33 rfl (lv_at hl 0 rfl) ?_
  refine gP_square C hW q199 dX5_hold_34 ?_
  refine gSq_spots C (wd_0 hW) q99 dX5_hold_37 ?_
  refine lv_iload_n hx hb dX5_hold_40 rfl (lv_at hl 1 rfl) ?_
  refine lv_iload_n hx hb dX5_hold_41 rfl (lv_at hl 2 rfl) ?_
  obtain ⟨hi1, hm⟩ := mi_ai hm
  refine tP0_spots C hW hi1 dX5_hold_42 (fun H locs hW => ?_)
  obtain ⟨s2, e3, hm⟩ := mi_bind hm
  rw [Option.some.inj e3] at hW
  refine lv_iconst (v := 1) hx hb dX5_hold_43 (by decide) ?_
  obtain ⟨rfl, rfl⟩ := Prod.mk.inj (Option.some.inj hm)
  exact en_i C hr hlk hW dX5_hold_44
def X5_hold_b26 (X : XS) : Option (Int32 × XS) := (X5_found X (-1000001 : Int32)).bind fun q5 => some (q5.1, q5.2)
set_option maxHeartbeats 4000000 in
set_option maxRecDepth 100000 in
theorem wX5_hold_b26 {p : Program} {l : Launch} {e : Env} {s : State} {m : MethodId} {below : List Frame} {meth : Method} {c : Code} {D : va_G} {cy cz : ClassId} {G : GT} {A : Nat → Prop} {args : Array Value} {o : Nat → Nat → Nat} {r : Int32} {Xr : XS} (C : Cx p s m args c cX5_hold 3 "PumpTalk" D cy cz G A) (hr : meth.sig.returnType = some .int) (hlk : meth.locks = false) : ∀ (X : XS) (H : Heap) (locs : List Loc) (ls : Array Slot), X5_hold_b26 X = some (r, Xr) → Wd D A s.heap H locs (cPT o cy cz X) → lv_has ls 3 [(0, .ref (o 9 0))] → W p l e (rmz 1 22) s m args below meth c H locs 0 0 (MQ below (QI D cy cz A (cPT o cy cz Xr) r) args s 0 0 A) (F0 m 26 ls []) := by
  have hx := C.1
  have hb := C.2.1
  intro X H locs ls hm hW hl
  unfold X5_hold_b26 at hm
  refine lv_aload_n hx hb dX5_hold_26 rfl (lv_at hl 0 rfl) ?_
  refine lv_ldc hx hb C.2.2.2.1 (C.2.2.2.2.1 _ q231) dX5_hold_27 ?_
  obtain ⟨q5, e4, hm⟩ := mi_bind hm
  refine cs_i (q0 := 0) (As := [.int (-1000001 : Int32)]) (rest := []) C hW (c_X5_found e4) kX5_found q232 rfl rfl rfl rfl rfl hl.1 ⟨Nat.le_of_ble_eq_true rfl, Nat.le_of_ble_eq_true rfl⟩ ⟨Nat.le_refl 0, Nat.le_refl 0⟩ (Nat.le_of_ble_eq_true rfl) dX5_hold_29 (fun H locs hW => ?_)
  obtain ⟨rfl, rfl⟩ := Prod.mk.inj (Option.some.inj hm)
  exact en_i C hr hlk hW dX5_hold_32
def X5_hold (X : XS) (p1 : Int32) (p2 : Int32) : Option (Int32 × XS) := (X5_isOutside p1 (0 : Int32) (9 : Int32)).bind fun v7 => if v7 = (0 : Int32) then (if p2 = (-1 : Int32) then (X5_hold_b33 X p1 p2) else ((X4_isThere (X 0) p2).bind fun v11 => if v11 = (0 : Int32) then (X5_hold_b26 X) else (X5_hold_b33 X p1 p2))) else (X5_hold_b26 X)
set_option maxHeartbeats 4000000 in
set_option maxRecDepth 100000 in
theorem c_X5_hold {l : Launch} {D : va_G} {cy cz : ClassId} {G : GT} {o : Nat → Nat → Nat} {X : XS} {p1 : Int32} {p2 : Int32} {r : Int32} {Xr : XS} (hm : X5_hold X p1 p2 = some (r, Xr)) : CtI l D cy cz G yX5_hold cX5_hold 3 (some .int) 1 22 [.ref (o 9 0), .int p1, .int p2] (cPT o cy cz X) (cPT o cy cz Xr) r := by
  refine ct_i (own := "PumpTalk") (by decide) rfl (Nat.le_of_ble_eq_true rfl) ?_
  intro p e s m below meth c ls A C hr hlk hW hl
  have hx := C.1
  have hb := C.2.1
  have hl : lv_has ls 3 [(0, .ref (o 9 0)), (1, .int p1), (2, .int p2)] := hl
  unfold X5_hold at hm
  refine lv_iload_n hx hb dX5_hold_0 rfl (lv_at hl 1 rfl) ?_
  refine lv_iconst (v := 0) hx hb dX5_hold_1 (by decide) ?_
  refine lv_bipush (v := 9) hx hb dX5_hold_2 (by decide) ?_
  obtain ⟨v7, e6, hm⟩ := mi_bind hm
  refine cS_i (As := [.int p1, .int (0 : Int32), .int (9 : Int32)]) (rest := []) C hW (c_X5_isOutside e6) kX5_isOutside q228 rfl rfl hl.1 ⟨Nat.le_of_ble_eq_true rfl, Nat.le_of_ble_eq_true rfl⟩ ⟨Nat.le_refl 0, Nat.le_refl 0⟩ (Nat.le_of_ble_eq_true rfl) dX5_hold_4 (fun H locs hW => ?_)
  refine lv_if_ne (tgt := 26) hx hb dX5_hold_7 (by decide) (fun hc8 => ?_) (fun hc8 => ?_)
  · rw [if_neg hc8] at hm
    exact wX5_hold_b26 C hr hlk X _ _ _ hm hW (lv_sub hl [0] rfl)
  · rw [if_pos hc8] at hm
    refine lv_iload_n hx hb dX5_hold_10 rfl (lv_at hl 2 rfl) ?_
    refine lv_iconst (v := -1) hx hb dX5_hold_11 (by decide) ?_
    refine lv_icmp_eq (tgt := 33) hx hb dX5_hold_12 (by decide) (fun hc9 => ?_) (fun hc9 => ?_)
    · rw [if_pos hc9] at hm
      exact wX5_hold_b33 C hr hlk X p1 p2 _ _ _ hm hW (lv_sub hl [0, 1, 2] rfl)
    · rw [if_neg hc9] at hm
      refine lv_aload_n hx hb dX5_hold_15 rfl (lv_at hl 0 rfl) ?_
      refine gP_square C hW q199 dX5_hold_16 ?_
      refine lv_iload_n hx hb dX5_hold_19 rfl (lv_at hl 2 rfl) ?_
      obtain ⟨v11, e10, hm⟩ := mi_bind hm
      refine cq0_i_p (As := [.int p2]) (rest := []) C hW (c_X4_isThere e10) kX4_isThere q253 rfl rfl rfl hl.1 ⟨Nat.le_of_ble_eq_true rfl, Nat.le_of_ble_eq_true rfl⟩ ⟨Nat.le_refl 0, Nat.le_refl 0⟩ (Nat.le_of_ble_eq_true rfl) dX5_hold_20 (fun H locs hW => ?_)
      refine lv_if_ne (tgt := 33) hx hb dX5_hold_23 (by decide) (fun hc12 => ?_) (fun hc12 => ?_)
      · rw [if_neg hc12] at hm
        exact wX5_hold_b33 C hr hlk X p1 p2 _ _ _ hm hW (lv_sub hl [0, 1, 2] rfl)
      · rw [if_pos hc12] at hm
        exact wX5_hold_b26 C hr hlk X _ _ _ hm hW (lv_sub hl [0] rfl)
theorem kX5_hold : KM yX5_hold cX5_hold 3 (some .int) 2 := ⟨q709, q710, q67, q711, by decide +kernel, by decide +kernel, by decide +kernel⟩
def X5_sheet_b36 (X : XS) (x1 : Int32) (x2 : Int32) (x3 : Int32) : Option (Int32 × XS) := if (0 : Int32) ≤ x3 then (if x3 ≤ (40 : Int32) then (ai x1 4 ((X3_renew (X (5 + (Int32.toNatClampNeg x1))) x2 x3).bind fun q5 => some (q5.1, va_up X (5 + (Int32.toNatClampNeg x1)) q5.2))) else ((X5_found X (-1000001 : Int32)).bind fun q7 => some (q7.1, q7.2))) else ((X5_found X (-1000007 : Int32)).bind fun q9 => some (q9.1, q9.2))
set_option maxHeartbeats 4000000 in
set_option maxRecDepth 100000 in
theorem wX5_sheet_b36 {p : Program} {l : Launch} {e : Env} {s : State} {m : MethodId} {below : List Frame} {meth : Method} {c : Code} {D : va_G} {cy cz : ClassId} {G : GT} {A : Nat → Prop} {args : Array Value} {o : Nat → Nat → Nat} {r : Int32} {Xr : XS} (C : Cx p s m args c cX5_sheet 4 "PumpTalk" D cy cz G A) (hr : meth.sig.returnType = some .int) (hlk : meth.locks = false) : ∀ (X : XS) (x1 : Int32) (x2 : Int32) (x3 : Int32) (H : Heap) (locs : List Loc) (ls : Array Slot), X5_sheet_b36 X x1 x2 x3 = some (r, Xr) → Wd D A s.heap H locs (cPT o cy cz X) → lv_has ls 4 [(0, .ref (o 9 0)), (1, .int x1), (2, .int x2), (3, .int x3)] → W p l e (rmz 2 42) s m args below meth c H locs 0 0 (MQ below (QI D cy cz A (cPT o cy cz Xr) r) args s 0 0 A) (F0 m 36 ls []) := by
  have hx := C.1
  have hb := C.2.1
  intro X x1 x2 x3 H locs ls hm hW hl
  unfold X5_sheet_b36 at hm
  refine lv_iload_n hx hb dX5_sheet_36 rfl (lv_at hl 3 rfl) ?_
  refine lv_if_ge (tgt := 47) hx hb dX5_sheet_37 (by decide) (fun hc1 => ?_) (fun hc1 => ?_)
  · rw [if_pos hc1] at hm
    refine lv_iload_n hx hb dX5_sheet_47 rfl (lv_at hl 3 rfl) ?_
    refine lv_bipush (v := 40) hx hb dX5_sheet_48 (by decide) ?_
    refine lv_icmp_le (tgt := 60) hx hb dX5_sheet_50 (by decide) (fun hc2 => ?_) (fun hc2 => ?_)
    · rw [if_pos hc2] at hm
      refine lv_aload_n hx hb dX5_sheet_60 rfl (lv_at hl 0 rfl) ?_
      refine gP_sheets C hW q205 dX5_sheet_61 ?_
      refine lv_iload_n hx hb dX5_sheet_64 rfl (lv_at hl 1 rfl) ?_
      obtain ⟨hi3, hm⟩ := mi_ai hm
      refine lP_sheets C hW hi3 dX5_sheet_65 ?_
      refine lv_iload_n hx hb dX5_sheet_66 rfl (lv_at hl 2 rfl) ?_
      refine lv_iload_n hx hb dX5_sheet_67 rfl (lv_at hl 3 rfl) ?_
      obtain ⟨q5, e4, hm⟩ := mi_bind hm
      refine csh_i_s (vp_lt hi3) (As := [.int x2, .int x3]) (rest := []) C hW (c_X3_renew e4) kX3_renew q727 rfl rfl rfl hl.1 ⟨Nat.le_of_ble_eq_true rfl, Nat.le_of_ble_eq_true rfl⟩ ⟨Nat.le_refl 0, Nat.le_refl 0⟩ (Nat.le_of_ble_eq_true rfl) dX5_sheet_68 (fun H locs hW => ?_)
      obtain ⟨rfl, rfl⟩ := Prod.mk.inj (Option.some.inj hm)
      exact en_i C hr hlk hW dX5_sheet_71
    · rw [if_neg hc2] at hm
      refine lv_aload_n hx hb dX5_sheet_53 rfl (lv_at hl 0 rfl) ?_
      refine lv_ldc hx hb C.2.2.2.1 (C.2.2.2.2.1 _ q231) dX5_sheet_54 ?_
      obtain ⟨q7, e6, hm⟩ := mi_bind hm
      refine cs_i (q0 := 0) (As := [.int (-1000001 : Int32)]) (rest := []) C hW (c_X5_found e6) kX5_found q232 rfl rfl rfl rfl rfl hl.1 ⟨Nat.le_of_ble_eq_true rfl, Nat.le_of_ble_eq_true rfl⟩ ⟨Nat.le_refl 0, Nat.le_refl 0⟩ (Nat.le_of_ble_eq_true rfl) dX5_sheet_56 (fun H locs hW => ?_)
      obtain ⟨rfl, rfl⟩ := Prod.mk.inj (Option.some.inj hm)
      exact en_i C hr hlk hW dX5_sheet_59
  · rw [if_neg hc1] at hm
    refine lv_aload_n hx hb dX5_sheet_40 rfl (lv_at hl 0 rfl) ?_
    refine lv_ldc hx hb C.2.2.2.1 (C.2.2.2.2.1 _ q726) dX5_sheet_41 ?_
    obtain ⟨q9, e8, hm⟩ := mi_bind hm
    refine cs_i (q0 := 0) (As := [.int (-1000007 : Int32)]) (rest := []) C hW (c_X5_found e8) kX5_found q232 rfl rfl rfl rfl rfl hl.1 ⟨Nat.le_of_ble_eq_true rfl, Nat.le_of_ble_eq_true rfl⟩ ⟨Nat.le_refl 0, Nat.le_refl 0⟩ (Nat.le_of_ble_eq_true rfl) dX5_sheet_43 (fun H locs hW => ?_)
    obtain ⟨rfl, rfl⟩ := Prod.mk.inj (Option.some.inj hm)
    exact en_i C hr hlk hW dX5_sheet_46
def X5_sheet_b29 (X : XS) : Option (Int32 × XS) := (X5_found X (-1000001 : Int32)).bind fun q11 => some (q11.1, q11.2)
set_option maxHeartbeats 4000000 in
set_option maxRecDepth 100000 in
theorem wX5_sheet_b29 {p : Program} {l : Launch} {e : Env} {s : State} {m : MethodId} {below : List Frame} {meth : Method} {c : Code} {D : va_G} {cy cz : ClassId} {G : GT} {A : Nat → Prop} {args : Array Value} {o : Nat → Nat → Nat} {r : Int32} {Xr : XS} (C : Cx p s m args c cX5_sheet 4 "PumpTalk" D cy cz G A) (hr : meth.sig.returnType = some .int) (hlk : meth.locks = false) : ∀ (X : XS) (H : Heap) (locs : List Loc) (ls : Array Slot), X5_sheet_b29 X = some (r, Xr) → Wd D A s.heap H locs (cPT o cy cz X) → lv_has ls 4 [(0, .ref (o 9 0))] → W p l e (rmz 2 42) s m args below meth c H locs 0 0 (MQ below (QI D cy cz A (cPT o cy cz Xr) r) args s 0 0 A) (F0 m 29 ls []) := by
  have hx := C.1
  have hb := C.2.1
  intro X H locs ls hm hW hl
  unfold X5_sheet_b29 at hm
  refine lv_aload_n hx hb dX5_sheet_29 rfl (lv_at hl 0 rfl) ?_
  refine lv_ldc hx hb C.2.2.2.1 (C.2.2.2.2.1 _ q231) dX5_sheet_30 ?_
  obtain ⟨q11, e10, hm⟩ := mi_bind hm
  refine cs_i (q0 := 0) (As := [.int (-1000001 : Int32)]) (rest := []) C hW (c_X5_found e10) kX5_found q232 rfl rfl rfl rfl rfl hl.1 ⟨Nat.le_of_ble_eq_true rfl, Nat.le_of_ble_eq_true rfl⟩ ⟨Nat.le_refl 0, Nat.le_refl 0⟩ (Nat.le_of_ble_eq_true rfl) dX5_sheet_32 (fun H locs hW => ?_)
  obtain ⟨rfl, rfl⟩ := Prod.mk.inj (Option.some.inj hm)
  exact en_i C hr hlk hW dX5_sheet_35
def X5_sheet (X : XS) (p1 : Int32) (p2 : Int32) (p3 : Int32) : Option (Int32 × XS) := (X5_isNoSheet p1).bind fun v13 => if v13 = (0 : Int32) then (if p2 = (0 : Int32) then (X5_sheet_b36 X p1 p2 p3) else (if p2 = (8 : Int32) then (X5_sheet_b36 X p1 p2 p3) else (if p2 = (16 : Int32) then (X5_sheet_b36 X p1 p2 p3) else (if p2 = (32 : Int32) then (X5_sheet_b36 X p1 p2 p3) else (X5_sheet_b29 X))))) else (X5_sheet_b29 X)
set_option maxHeartbeats 4000000 in
set_option maxRecDepth 100000 in
theorem c_X5_sheet {l : Launch} {D : va_G} {cy cz : ClassId} {G : GT} {o : Nat → Nat → Nat} {X : XS} {p1 : Int32} {p2 : Int32} {p3 : Int32} {r : Int32} {Xr : XS} (hm : X5_sheet X p1 p2 p3 = some (r, Xr)) : CtI l D cy cz G yX5_sheet cX5_sheet 4 (some .int) 2 42 [.ref (o 9 0), .int p1, .int p2, .int p3] (cPT o cy cz X) (cPT o cy cz Xr) r := by
  refine ct_i (own := "PumpTalk") (by decide) rfl (Nat.le_of_ble_eq_true rfl) ?_
  intro p e s m below meth c ls A C hr hlk hW hl
  have hx := C.1
  have hb := C.2.1
  have hl : lv_has ls 4 [(0, .ref (o 9 0)), (1, .int p1), (2, .int p2), (3, .int p3)] := hl
  unfold X5_sheet at hm
  refine lv_iload_n hx hb dX5_sheet_0 rfl (lv_at hl 1 rfl) ?_
  obtain ⟨v13, e12, hm⟩ := mi_bind hm
  refine cS_i (As := [.int p1]) (rest := []) C hW (c_X5_isNoSheet e12) kX5_isNoSheet q534 rfl rfl hl.1 ⟨Nat.le_of_ble_eq_true rfl, Nat.le_of_ble_eq_true rfl⟩ ⟨Nat.le_refl 0, Nat.le_refl 0⟩ (Nat.le_of_ble_eq_true rfl) dX5_sheet_1 (fun H locs hW => ?_)
  refine lv_if_ne (tgt := 29) hx hb dX5_sheet_4 (by decide) (fun hc14 => ?_) (fun hc14 => ?_)
  · rw [if_neg hc14] at hm
    exact wX5_sheet_b29 C hr hlk X _ _ _ hm hW (lv_sub hl [0] rfl)
  · rw [if_pos hc14] at hm
    refine lv_iload_n hx hb dX5_sheet_7 rfl (lv_at hl 2 rfl) ?_
    refine lv_if_eq (tgt := 36) hx hb dX5_sheet_8 (by decide) (fun hc15 => ?_) (fun hc15 => ?_)
    · rw [if_pos hc15] at hm
      exact wX5_sheet_b36 C hr hlk X p1 p2 p3 _ _ _ hm hW (lv_sub hl [0, 1, 2, 3] rfl)
    · rw [if_neg hc15] at hm
      refine lv_iload_n hx hb dX5_sheet_11 rfl (lv_at hl 2 rfl) ?_
      refine lv_bipush (v := 8) hx hb dX5_sheet_12 (by decide) ?_
      refine lv_icmp_eq (tgt := 36) hx hb dX5_sheet_14 (by decide) (fun hc16 => ?_) (fun hc16 => ?_)
      · rw [if_pos hc16] at hm
        exact wX5_sheet_b36 C hr hlk X p1 p2 p3 _ _ _ hm hW (lv_sub hl [0, 1, 2, 3] rfl)
      · rw [if_neg hc16] at hm
        refine lv_iload_n hx hb dX5_sheet_17 rfl (lv_at hl 2 rfl) ?_
        refine lv_bipush (v := 16) hx hb dX5_sheet_18 (by decide) ?_
        refine lv_icmp_eq (tgt := 36) hx hb dX5_sheet_20 (by decide) (fun hc17 => ?_) (fun hc17 => ?_)
        · rw [if_pos hc17] at hm
          exact wX5_sheet_b36 C hr hlk X p1 p2 p3 _ _ _ hm hW (lv_sub hl [0, 1, 2, 3] rfl)
        · rw [if_neg hc17] at hm
          refine lv_iload_n hx hb dX5_sheet_23 rfl (lv_at hl 2 rfl) ?_
          refine lv_bipush (v := 32) hx hb dX5_sheet_24 (by decide) ?_
          refine lv_icmp_eq (tgt := 36) hx hb dX5_sheet_26 (by decide) (fun hc18 => ?_) (fun hc18 => ?_)
          · rw [if_pos hc18] at hm
            exact wX5_sheet_b36 C hr hlk X p1 p2 p3 _ _ _ hm hW (lv_sub hl [0, 1, 2, 3] rfl)
          · rw [if_neg hc18] at hm
            exact wX5_sheet_b29 C hr hlk X _ _ _ hm hW (lv_sub hl [0] rfl)
theorem kX5_sheet : KM yX5_sheet cX5_sheet 4 (some .int) 3 := ⟨q723, q724, q67, q725, by decide +kernel, by decide +kernel, by decide +kernel⟩
def X5_write (X : XS) (p1 : Int32) (p2 : Int32) (p3 : Int32) : Option (Int32 × XS) := (X5_lackOfSheet X p1).bind fun v2 => if v2 = (0 : Int32) then (ai p1 4 ((X5_isOutside p2 (0 : Int32) ((X (5 + (Int32.toNatClampNeg p1)) 3 2) - (1 : Int32))).bind fun v6 => if v6 = (0 : Int32) then (ai p1 4 ((X3_put (X (5 + (Int32.toNatClampNeg p1))) p2 p3).bind fun s10 => some ((1 : Int32), va_up X (5 + (Int32.toNatClampNeg p1)) s10))) else ((X5_found X (-1000001 : Int32)).bind fun q12 => some (q12.1, q12.2)))) else ((X5_found X v2).bind fun q14 => some (q14.1, q14.2))
set_option maxHeartbeats 4000000 in
set_option maxRecDepth 100000 in
theorem c_X5_write {l : Launch} {D : va_G} {cy cz : ClassId} {G : GT} {o : Nat → Nat → Nat} {X : XS} {p1 : Int32} {p2 : Int32} {p3 : Int32} {r : Int32} {Xr : XS} (hm : X5_write X p1 p2 p3 = some (r, Xr)) : CtI l D cy cz G yX5_write cX5_write 5 (some .int) 3 63 [.ref (o 9 0), .int p1, .int p2, .int p3] (cPT o cy cz X) (cPT o cy cz Xr) r := by
  refine ct_i (own := "PumpTalk") (by decide) rfl (Nat.le_of_ble_eq_true rfl) ?_
  intro p e s m below meth c ls A C hr hlk hW hl
  have hx := C.1
  have hb := C.2.1
  have hl : lv_has ls 5 [(0, .ref (o 9 0)), (1, .int p1), (2, .int p2), (3, .int p3)] := hl
  unfold X5_write at hm
  refine lv_aload_n hx hb dX5_write_0 rfl (lv_at hl 0 rfl) ?_
  refine lv_iload_n hx hb dX5_write_1 rfl (lv_at hl 1 rfl) ?_
  obtain ⟨v2, e1, hm⟩ := mi_bind hm
  refine cs_i (q0 := 0) (As := [.int p1]) (rest := []) C hW (c_X5_lackOfSheet e1) kX5_lackOfSheet q530 rfl rfl rfl rfl rfl hl.1 ⟨Nat.le_of_ble_eq_true rfl, Nat.le_of_ble_eq_true rfl⟩ ⟨Nat.le_refl 0, Nat.le_refl 0⟩ (Nat.le_of_ble_eq_true rfl) dX5_write_2 (fun H locs hW => ?_)
  refine lv_istore (lv' := [(4, .int v2), (0, .ref (o 9 0)), (1, .int p1), (2, .int p2), (3, .int p3)]) hx hb dX5_write_5 hl (by decide) rfl (fun ls hl => ?_)
  refine lv_iload hx hb dX5_write_7 (lv_at hl 0 rfl) ?_
  refine lv_if_eq (tgt := 19) hx hb dX5_write_9 (by decide) (fun hc3 => ?_) (fun hc3 => ?_)
  · rw [if_pos hc3] at hm
    refine lv_iload_n hx hb dX5_write_19 rfl (lv_at hl 3 rfl) ?_
    refine lv_iconst (v := 0) hx hb dX5_write_20 (by decide) ?_
    refine lv_aload_n hx hb dX5_write_21 rfl (lv_at hl 1 rfl) ?_
    refine gP_sheets C hW q205 dX5_write_22 ?_
    refine lv_iload_n hx hb dX5_write_25 rfl (lv_at hl 2 rfl) ?_
    obtain ⟨hi4, hm⟩ := mi_ai hm
    refine lP_sheets C hW hi4 dX5_write_26 ?_
    refine gSh_size C (wd_sh hW (vp_lt hi4)) q191 dX5_write_27 ?_
    refine lv_iconst (v := 1) hx hb dX5_write_30 (by decide) ?_
    refine lv_isub hx hb dX5_write_31 ?_
    obtain ⟨v6, e5, hm⟩ := mi_bind hm
    refine cS_i (As := [.int p2, .int (0 : Int32), .int ((X (5 + (Int32.toNatClampNeg p1)) 3 2) - (1 : Int32))]) (rest := []) C hW (c_X5_isOutside e5) kX5_isOutside q228 rfl rfl hl.1 ⟨Nat.le_of_ble_eq_true rfl, Nat.le_of_ble_eq_true rfl⟩ ⟨Nat.le_refl 0, Nat.le_refl 0⟩ (Nat.le_of_ble_eq_true rfl) dX5_write_32 (fun H locs hW => ?_)
    refine lv_if_eq (tgt := 45) hx hb dX5_write_35 (by decide) (fun hc7 => ?_) (fun hc7 => ?_)
    · rw [if_pos hc7] at hm
      refine lv_aload_n hx hb dX5_write_45 rfl (lv_at hl 1 rfl) ?_
      refine gP_sheets C hW q205 dX5_write_46 ?_
      refine lv_iload_n hx hb dX5_write_49 rfl (lv_at hl 2 rfl) ?_
      obtain ⟨hi8, hm⟩ := mi_ai hm
      refine lP_sheets C hW hi8 dX5_write_50 ?_
      refine lv_iload_n hx hb dX5_write_51 rfl (lv_at hl 3 rfl) ?_
      refine lv_iload_n hx hb dX5_write_52 rfl (lv_at hl 4 rfl) ?_
      obtain ⟨s10, e9, hm⟩ := mi_bind hm
      refine csh_v_s (vp_lt hi8) (As := [.int p2, .int p3]) (rest := []) C hW (c_X3_put e9) kX3_put q735 rfl rfl rfl hl.1 ⟨Nat.le_of_ble_eq_true rfl, Nat.le_of_ble_eq_true rfl⟩ ⟨Nat.le_refl 0, Nat.le_refl 0⟩ (Nat.le_of_ble_eq_true rfl) dX5_write_53 (fun H locs hW => ?_)
      refine lv_iconst (v := 1) hx hb dX5_write_56 (by decide) ?_
      obtain ⟨rfl, rfl⟩ := Prod.mk.inj (Option.some.inj hm)
      exact en_i C hr hlk hW dX5_write_57
    · rw [if_neg hc7] at hm
      refine lv_aload_n hx hb dX5_write_38 rfl (lv_at hl 1 rfl) ?_
      refine lv_ldc hx hb C.2.2.2.1 (C.2.2.2.2.1 _ q231) dX5_write_39 ?_
      obtain ⟨q12, e11, hm⟩ := mi_bind hm
      refine cs_i (q0 := 0) (As := [.int (-1000001 : Int32)]) (rest := []) C hW (c_X5_found e11) kX5_found q232 rfl rfl rfl rfl rfl hl.1 ⟨Nat.le_of_ble_eq_true rfl, Nat.le_of_ble_eq_true rfl⟩ ⟨Nat.le_refl 0, Nat.le_refl 0⟩ (Nat.le_of_ble_eq_true rfl) dX5_write_41 (fun H locs hW => ?_)
      obtain ⟨rfl, rfl⟩ := Prod.mk.inj (Option.some.inj hm)
      exact en_i C hr hlk hW dX5_write_44
  · rw [if_neg hc3] at hm
    refine lv_aload_n hx hb dX5_write_12 rfl (lv_at hl 1 rfl) ?_
    refine lv_iload hx hb dX5_write_13 (lv_at hl 0 rfl) ?_
    obtain ⟨q14, e13, hm⟩ := mi_bind hm
    refine cs_i (q0 := 0) (As := [.int v2]) (rest := []) C hW (c_X5_found e13) kX5_found q232 rfl rfl rfl rfl rfl hl.1 ⟨Nat.le_of_ble_eq_true rfl, Nat.le_of_ble_eq_true rfl⟩ ⟨Nat.le_refl 0, Nat.le_refl 0⟩ (Nat.le_of_ble_eq_true rfl) dX5_write_15 (fun H locs hW => ?_)
    obtain ⟨rfl, rfl⟩ := Prod.mk.inj (Option.some.inj hm)
    exact en_i C hr hlk hW dX5_write_18
theorem kX5_write : KM yX5_write cX5_write 5 (some .int) 3 := ⟨q732, q733, q67, q734, by decide +kernel, by decide +kernel, by decide +kernel⟩
def X5_copy_b111 (X : XS) : Option (Int32 × XS) := (X5_found X (-1000001 : Int32)).bind fun q2 => some (q2.1, q2.2)
set_option maxHeartbeats 4000000 in
set_option maxRecDepth 100000 in
theorem wX5_copy_b111 {p : Program} {l : Launch} {e : Env} {s : State} {m : MethodId} {below : List Frame} {meth : Method} {c : Code} {D : va_G} {cy cz : ClassId} {G : GT} {A : Nat → Prop} {args : Array Value} {o : Nat → Nat → Nat} {r : Int32} {Xr : XS} (C : Cx p s m args c cX5_copy 6 "PumpTalk" D cy cz G A) (hr : meth.sig.returnType = some .int) (hlk : meth.locks = false) : ∀ (X : XS) (H : Heap) (locs : List Loc) (ls : Array Slot), X5_copy_b111 X = some (r, Xr) → Wd D A s.heap H locs (cPT o cy cz X) → lv_has ls 6 [(0, .ref (o 9 0))] → W p l e (rmz 2 60) s m args below meth c H locs 0 0 (MQ below (QI D cy cz A (cPT o cy cz Xr) r) args s 0 0 A) (F0 m 111 ls []) := by
  have hx := C.1
  have hb := C.2.1
  intro X H locs ls hm hW hl
  unfold X5_copy_b111 at hm
  refine lv_aload_n hx hb dX5_copy_111 rfl (lv_at hl 0 rfl) ?_
  refine lv_ldc hx hb C.2.2.2.1 (C.2.2.2.2.1 _ q231) dX5_copy_112 ?_
  obtain ⟨q2, e1, hm⟩ := mi_bind hm
  refine cs_i (q0 := 0) (As := [.int (-1000001 : Int32)]) (rest := []) C hW (c_X5_found e1) kX5_found q232 rfl rfl rfl rfl rfl hl.1 ⟨Nat.le_of_ble_eq_true rfl, Nat.le_of_ble_eq_true rfl⟩ ⟨Nat.le_refl 0, Nat.le_refl 0⟩ (Nat.le_of_ble_eq_true rfl) dX5_copy_114 (fun H locs hW => ?_)
  obtain ⟨rfl, rfl⟩ := Prod.mk.inj (Option.some.inj hm)
  exact en_i C hr hlk hW dX5_copy_117
def X5_copy_b45 (X : XS) : Option (Int32 × XS) := (X5_found X (-1000006 : Int32)).bind fun q4 => some (q4.1, q4.2)
set_option maxHeartbeats 4000000 in
set_option maxRecDepth 100000 in
theorem wX5_copy_b45 {p : Program} {l : Launch} {e : Env} {s : State} {m : MethodId} {below : List Frame} {meth : Method} {c : Code} {D : va_G} {cy cz : ClassId} {G : GT} {A : Nat → Prop} {args : Array Value} {o : Nat → Nat → Nat} {r : Int32} {Xr : XS} (C : Cx p s m args c cX5_copy 6 "PumpTalk" D cy cz G A) (hr : meth.sig.returnType = some .int) (hlk : meth.locks = false) : ∀ (X : XS) (H : Heap) (locs : List Loc) (ls : Array Slot), X5_copy_b45 X = some (r, Xr) → Wd D A s.heap H locs (cPT o cy cz X) → lv_has ls 6 [(0, .ref (o 9 0))] → W p l e (rmz 2 60) s m args below meth c H locs 0 0 (MQ below (QI D cy cz A (cPT o cy cz Xr) r) args s 0 0 A) (F0 m 45 ls []) := by
  have hx := C.1
  have hb := C.2.1
  intro X H locs ls hm hW hl
  unfold X5_copy_b45 at hm
  refine lv_aload_n hx hb dX5_copy_45 rfl (lv_at hl 0 rfl) ?_
  refine lv_ldc hx hb C.2.2.2.1 (C.2.2.2.2.1 _ q541) dX5_copy_46 ?_
  obtain ⟨q4, e3, hm⟩ := mi_bind hm
  refine cs_i (q0 := 0) (As := [.int (-1000006 : Int32)]) (rest := []) C hW (c_X5_found e3) kX5_found q232 rfl rfl rfl rfl rfl hl.1 ⟨Nat.le_of_ble_eq_true rfl, Nat.le_of_ble_eq_true rfl⟩ ⟨Nat.le_refl 0, Nat.le_refl 0⟩ (Nat.le_of_ble_eq_true rfl) dX5_copy_48 (fun H locs hW => ?_)
  obtain ⟨rfl, rfl⟩ := Prod.mk.inj (Option.some.inj hm)
  exact en_i C hr hlk hW dX5_copy_51
def X5_copy_b14 (X : XS) : Option (Int32 × XS) := (X5_found X (-1000001 : Int32)).bind fun q6 => some (q6.1, q6.2)
set_option maxHeartbeats 4000000 in
set_option maxRecDepth 100000 in
theorem wX5_copy_b14 {p : Program} {l : Launch} {e : Env} {s : State} {m : MethodId} {below : List Frame} {meth : Method} {c : Code} {D : va_G} {cy cz : ClassId} {G : GT} {A : Nat → Prop} {args : Array Value} {o : Nat → Nat → Nat} {r : Int32} {Xr : XS} (C : Cx p s m args c cX5_copy 6 "PumpTalk" D cy cz G A) (hr : meth.sig.returnType = some .int) (hlk : meth.locks = false) : ∀ (X : XS) (H : Heap) (locs : List Loc) (ls : Array Slot), X5_copy_b14 X = some (r, Xr) → Wd D A s.heap H locs (cPT o cy cz X) → lv_has ls 6 [(0, .ref (o 9 0))] → W p l e (rmz 2 60) s m args below meth c H locs 0 0 (MQ below (QI D cy cz A (cPT o cy cz Xr) r) args s 0 0 A) (F0 m 14 ls []) := by
  have hx := C.1
  have hb := C.2.1
  intro X H locs ls hm hW hl
  unfold X5_copy_b14 at hm
  refine lv_aload_n hx hb dX5_copy_14 rfl (lv_at hl 0 rfl) ?_
  refine lv_ldc hx hb C.2.2.2.1 (C.2.2.2.2.1 _ q231) dX5_copy_15 ?_
  obtain ⟨q6, e5, hm⟩ := mi_bind hm
  refine cs_i (q0 := 0) (As := [.int (-1000001 : Int32)]) (rest := []) C hW (c_X5_found e5) kX5_found q232 rfl rfl rfl rfl rfl hl.1 ⟨Nat.le_of_ble_eq_true rfl, Nat.le_of_ble_eq_true rfl⟩ ⟨Nat.le_refl 0, Nat.le_refl 0⟩ (Nat.le_of_ble_eq_true rfl) dX5_copy_17 (fun H locs hW => ?_)
  obtain ⟨rfl, rfl⟩ := Prod.mk.inj (Option.some.inj hm)
  exact en_i C hr hlk hW dX5_copy_20
def X5_copy (X : XS) (p1 : Int32) (p2 : Int32) (p3 : Int32) (p4 : Int32) (p5 : Int32) : Option (Int32 × XS) := (X5_isNoSheet p1).bind fun v8 => if v8 = (0 : Int32) then ((X5_isNoSheet p3).bind fun v11 => if v11 = (0 : Int32) then (ai p1 4 ((X3_isMissing (X (5 + (Int32.toNatClampNeg p1)))).bind fun v15 => if v15 = (0 : Int32) then (ai p3 4 ((X3_isMissing (X (5 + (Int32.toNatClampNeg p3)))).bind fun v19 => if v19 = (0 : Int32) then (ai p1 4 (ai p3 4 (if (X (5 + (Int32.toNatClampNeg p1)) 3 1) = (X (5 + (Int32.toNatClampNeg p3)) 3 1) then (ai p1 4 ((X3_hasRange (X (5 + (Int32.toNatClampNeg p1))) p2 p5).bind fun v26 => if v26 = (0 : Int32) then (X5_copy_b111 X) else (ai p3 4 ((X3_hasRange (X (5 + (Int32.toNatClampNeg p3))) p4 p5).bind fun v30 => if v30 = (0 : Int32) then (X5_copy_b111 X) else (ai p1 4 (ai p3 4 (cpk p2 p4 p5 ((some (va_up X (5 + (Int32.toNatClampNeg p3)) (sr (X (5 + (Int32.toNatClampNeg p3))) 0 (va_cpy (X (5 + (Int32.toNatClampNeg p1)) 0) (X (5 + (Int32.toNatClampNeg p3)) 0) (Int32.toNatClampNeg p2) (Int32.toNatClampNeg p4) (Int32.toNatClampNeg p5))))).bind fun s35 => some (p5, s35))))))))) else ((X5_found X (-1000003 : Int32)).bind fun q38 => some (q38.1, q38.2))))) else (X5_copy_b45 X))) else (X5_copy_b45 X))) else (X5_copy_b14 X)) else (X5_copy_b14 X)
set_option maxHeartbeats 4000000 in
set_option maxRecDepth 100000 in
theorem c_X5_copy {l : Launch} {D : va_G} {cy cz : ClassId} {G : GT} {o : Nat → Nat → Nat} {X : XS} {p1 : Int32} {p2 : Int32} {p3 : Int32} {p4 : Int32} {p5 : Int32} {r : Int32} {Xr : XS} (hm : X5_copy X p1 p2 p3 p4 p5 = some (r, Xr)) : CtI l D cy cz G yX5_copy cX5_copy 6 (some .int) 2 60 [.ref (o 9 0), .int p1, .int p2, .int p3, .int p4, .int p5] (cPT o cy cz X) (cPT o cy cz Xr) r := by
  refine ct_i (own := "PumpTalk") (by decide) rfl (Nat.le_of_ble_eq_true rfl) ?_
  intro p e s m below meth c ls A C hr hlk hW hl
  have hx := C.1
  have hb := C.2.1
  have hl : lv_has ls 6 [(0, .ref (o 9 0)), (1, .int p1), (2, .int p2), (3, .int p3), (4, .int p4), (5, .int p5)] := hl
  unfold X5_copy at hm
  refine lv_iload_n hx hb dX5_copy_0 rfl (lv_at hl 1 rfl) ?_
  obtain ⟨v8, e7, hm⟩ := mi_bind hm
  refine cS_i (As := [.int p1]) (rest := []) C hW (c_X5_isNoSheet e7) kX5_isNoSheet q534 rfl rfl hl.1 ⟨Nat.le_of_ble_eq_true rfl, Nat.le_of_ble_eq_true rfl⟩ ⟨Nat.le_refl 0, Nat.le_refl 0⟩ (Nat.le_of_ble_eq_true rfl) dX5_copy_1 (fun H locs hW => ?_)
  refine lv_if_ne (tgt := 14) hx hb dX5_copy_4 (by decide) (fun hc9 => ?_) (fun hc9 => ?_)
  · rw [if_neg hc9] at hm
    exact wX5_copy_b14 C hr hlk X _ _ _ hm hW (lv_sub hl [0] rfl)
  · rw [if_pos hc9] at hm
    refine lv_iload_n hx hb dX5_copy_7 rfl (lv_at hl 3 rfl) ?_
    obtain ⟨v11, e10, hm⟩ := mi_bind hm
    refine cS_i (As := [.int p3]) (rest := []) C hW (c_X5_isNoSheet e10) kX5_isNoSheet q534 rfl rfl hl.1 ⟨Nat.le_of_ble_eq_true rfl, Nat.le_of_ble_eq_true rfl⟩ ⟨Nat.le_refl 0, Nat.le_refl 0⟩ (Nat.le_of_ble_eq_true rfl) dX5_copy_8 (fun H locs hW => ?_)
    refine lv_if_eq (tgt := 21) hx hb dX5_copy_11 (by decide) (fun hc12 => ?_) (fun hc12 => ?_)
    · rw [if_pos hc12] at hm
      refine lv_aload_n hx hb dX5_copy_21 rfl (lv_at hl 0 rfl) ?_
      refine gP_sheets C hW q205 dX5_copy_22 ?_
      refine lv_iload_n hx hb dX5_copy_25 rfl (lv_at hl 1 rfl) ?_
      obtain ⟨hi13, hm⟩ := mi_ai hm
      refine lP_sheets C hW hi13 dX5_copy_26 ?_
      obtain ⟨v15, e14, hm⟩ := mi_bind hm
      refine csh_i_p (vp_lt hi13) (As := []) (rest := []) C hW (c_X3_isMissing e14) kX3_isMissing q537 rfl rfl rfl hl.1 ⟨Nat.le_of_ble_eq_true rfl, Nat.le_of_ble_eq_true rfl⟩ ⟨Nat.le_refl 0, Nat.le_refl 0⟩ (Nat.le_of_ble_eq_true rfl) dX5_copy_27 (fun H locs hW => ?_)
      refine lv_if_ne (tgt := 45) hx hb dX5_copy_30 (by decide) (fun hc16 => ?_) (fun hc16 => ?_)
      · rw [if_neg hc16] at hm
        exact wX5_copy_b45 C hr hlk X _ _ _ hm hW (lv_sub hl [0] rfl)
      · rw [if_pos hc16] at hm
        refine lv_aload_n hx hb dX5_copy_33 rfl (lv_at hl 0 rfl) ?_
        refine gP_sheets C hW q205 dX5_copy_34 ?_
        refine lv_iload_n hx hb dX5_copy_37 rfl (lv_at hl 3 rfl) ?_
        obtain ⟨hi17, hm⟩ := mi_ai hm
        refine lP_sheets C hW hi17 dX5_copy_38 ?_
        obtain ⟨v19, e18, hm⟩ := mi_bind hm
        refine csh_i_p (vp_lt hi17) (As := []) (rest := []) C hW (c_X3_isMissing e18) kX3_isMissing q537 rfl rfl rfl hl.1 ⟨Nat.le_of_ble_eq_true rfl, Nat.le_of_ble_eq_true rfl⟩ ⟨Nat.le_refl 0, Nat.le_refl 0⟩ (Nat.le_of_ble_eq_true rfl) dX5_copy_39 (fun H locs hW => ?_)
        refine lv_if_eq (tgt := 52) hx hb dX5_copy_42 (by decide) (fun hc20 => ?_) (fun hc20 => ?_)
        · rw [if_pos hc20] at hm
          refine lv_aload_n hx hb dX5_copy_52 rfl (lv_at hl 0 rfl) ?_
          refine gP_sheets C hW q205 dX5_copy_53 ?_
          refine lv_iload_n hx hb dX5_copy_56 rfl (lv_at hl 1 rfl) ?_
          obtain ⟨hi21, hm⟩ := mi_ai hm
          refine lP_sheets C hW hi21 dX5_copy_57 ?_
          refine gSh_bits C (wd_sh hW (vp_lt hi21)) q189 dX5_copy_58 ?_
          refine lv_aload_n hx hb dX5_copy_61 rfl (lv_at hl 0 rfl) ?_
          refine gP_sheets C hW q205 dX5_copy_62 ?_
          refine lv_iload_n hx hb dX5_copy_65 rfl (lv_at hl 3 rfl) ?_
          obtain ⟨hi22, hm⟩ := mi_ai hm
          refine lP_sheets C hW hi22 dX5_copy_66 ?_
          refine gSh_bits C (wd_sh hW (vp_lt hi22)) q189 dX5_copy_67 ?_
          refine lv_icmp_eq (tgt := 80) hx hb dX5_copy_70 (by decide) (fun hc23 => ?_) (fun hc23 => ?_)
          · rw [if_pos hc23] at hm
            refine lv_aload_n hx hb dX5_copy_80 rfl (lv_at hl 0 rfl) ?_
            refine gP_sheets C hW q205 dX5_copy_81 ?_
            refine lv_iload_n hx hb dX5_copy_84 rfl (lv_at hl 1 rfl) ?_
            obtain ⟨hi24, hm⟩ := mi_ai hm
            refine lP_sheets C hW hi24 dX5_copy_85 ?_
            refine lv_iload_n hx hb dX5_copy_86 rfl (lv_at hl 2 rfl) ?_
            refine lv_iload hx hb dX5_copy_87 (lv_at hl 5 rfl) ?_
            obtain ⟨v26, e25, hm⟩ := mi_bind hm
            refine csh_i_p (vp_lt hi24) (As := [.int p2, .int p5]) (rest := []) C hW (c_X3_hasRange e25) kX3_hasRange q743 rfl rfl rfl hl.1 ⟨Nat.le_of_ble_eq_true rfl, Nat.le_of_ble_eq_true rfl⟩ ⟨Nat.le_refl 0, Nat.le_refl 0⟩ (Nat.le_of_ble_eq_true rfl) dX5_copy_89 (fun H locs hW => ?_)
            refine lv_if_eq (tgt := 111) hx hb dX5_copy_92 (by decide) (fun hc27 => ?_) (fun hc27 => ?_)
            · rw [if_pos hc27] at hm
              exact wX5_copy_b111 C hr hlk X _ _ _ hm hW (lv_sub hl [0] rfl)
            · rw [if_neg hc27] at hm
              refine lv_aload_n hx hb dX5_copy_95 rfl (lv_at hl 0 rfl) ?_
              refine gP_sheets C hW q205 dX5_copy_96 ?_
              refine lv_iload_n hx hb dX5_copy_99 rfl (lv_at hl 3 rfl) ?_
              obtain ⟨hi28, hm⟩ := mi_ai hm
              refine lP_sheets C hW hi28 dX5_copy_100 ?_
              refine lv_iload hx hb dX5_copy_101 (lv_at hl 4 rfl) ?_
              refine lv_iload hx hb dX5_copy_103 (lv_at hl 5 rfl) ?_
              obtain ⟨v30, e29, hm⟩ := mi_bind hm
              refine csh_i_p (vp_lt hi28) (As := [.int p4, .int p5]) (rest := []) C hW (c_X3_hasRange e29) kX3_hasRange q743 rfl rfl rfl hl.1 ⟨Nat.le_of_ble_eq_true rfl, Nat.le_of_ble_eq_true rfl⟩ ⟨Nat.le_refl 0, Nat.le_refl 0⟩ (Nat.le_of_ble_eq_true rfl) dX5_copy_105 (fun H locs hW => ?_)
              refine lv_if_ne (tgt := 118) hx hb dX5_copy_108 (by decide) (fun hc31 => ?_) (fun hc31 => ?_)
              · rw [if_neg hc31] at hm
                refine lv_aload_n hx hb dX5_copy_118 rfl (lv_at hl 0 rfl) ?_
                refine gP_sheets C hW q205 dX5_copy_119 ?_
                refine lv_iload_n hx hb dX5_copy_122 rfl (lv_at hl 1 rfl) ?_
                obtain ⟨hi32, hm⟩ := mi_ai hm
                refine lP_sheets C hW hi32 dX5_copy_123 ?_
                refine gSh_numbers C (wd_sh hW (vp_lt hi32)) q187 dX5_copy_124 ?_
                refine lv_iload_n hx hb dX5_copy_127 rfl (lv_at hl 2 rfl) ?_
                refine lv_aload_n hx hb dX5_copy_128 rfl (lv_at hl 0 rfl) ?_
                refine gP_sheets C hW q205 dX5_copy_129 ?_
                refine lv_iload_n hx hb dX5_copy_132 rfl (lv_at hl 3 rfl) ?_
                obtain ⟨hi33, hm⟩ := mi_ai hm
                refine lP_sheets C hW hi33 dX5_copy_133 ?_
                refine gSh_numbers C (wd_sh hW (vp_lt hi33)) q187 dX5_copy_134 ?_
                refine lv_iload hx hb dX5_copy_137 (lv_at hl 4 rfl) ?_
                refine lv_iload hx hb dX5_copy_139 (lv_at hl 5 rfl) ?_
                obtain ⟨hk34, hm⟩ := mi_cp hm
                refine kP_copy (vp_lt hi32) (vp_lt hi33) C hW hl.1 hk34 q747 (Nat.le_of_ble_eq_true rfl) (Nat.le_of_ble_eq_true rfl) dX5_copy_141 (fun H locs hW => ?_)
                obtain ⟨s35, e36, hm⟩ := mi_bind hm
                rw [Option.some.inj e36] at hW
                refine lv_iload hx hb dX5_copy_144 (lv_at hl 5 rfl) ?_
                obtain ⟨rfl, rfl⟩ := Prod.mk.inj (Option.some.inj hm)
                exact en_i C hr hlk hW dX5_copy_146
              · rw [if_pos hc31] at hm
                exact wX5_copy_b111 C hr hlk X _ _ _ hm hW (lv_sub hl [0] rfl)
          · rw [if_neg hc23] at hm
            refine lv_aload_n hx hb dX5_copy_73 rfl (lv_at hl 0 rfl) ?_
            refine lv_ldc hx hb C.2.2.2.1 (C.2.2.2.2.1 _ q721) dX5_copy_74 ?_
            obtain ⟨q38, e37, hm⟩ := mi_bind hm
            refine cs_i (q0 := 0) (As := [.int (-1000003 : Int32)]) (rest := []) C hW (c_X5_found e37) kX5_found q232 rfl rfl rfl rfl rfl hl.1 ⟨Nat.le_of_ble_eq_true rfl, Nat.le_of_ble_eq_true rfl⟩ ⟨Nat.le_refl 0, Nat.le_refl 0⟩ (Nat.le_of_ble_eq_true rfl) dX5_copy_76 (fun H locs hW => ?_)
            obtain ⟨rfl, rfl⟩ := Prod.mk.inj (Option.some.inj hm)
            exact en_i C hr hlk hW dX5_copy_79
        · rw [if_neg hc20] at hm
          exact wX5_copy_b45 C hr hlk X _ _ _ hm hW (lv_sub hl [0] rfl)
    · rw [if_neg hc12] at hm
      exact wX5_copy_b14 C hr hlk X _ _ _ hm hW (lv_sub hl [0] rfl)
theorem kX5_copy : KM yX5_copy cX5_copy 6 (some .int) 5 := ⟨q740, q741, q67, q742, by decide +kernel, by decide +kernel, by decide +kernel⟩
def X5_load_b26 : Nat → XS → Nat → Int32 → Option (Int32 × XS)
  | 0, _, _, _ => none
  | n + 1, X, j3, x4 => if (X (5 + j3) 3 2) ≤ x4 then (some (x4, X)) else ((X4_isThere (X 0) x4).bind fun v3 => if v3 = (0 : Int32) then (some (x4, X)) else (ai x4 40 ((X5_isOutside (X (5 + j3) 0 (Int32.toNatClampNeg x4)) (-9 : Int32) (9 : Int32)).bind fun v7 => if v7 = (0 : Int32) then (ai x4 40 ((X4_setView (X 0) x4 (X 0 11 7) (X (5 + j3) 0 (Int32.toNatClampNeg x4))).bind fun s11 => X5_load_b26 n (va_up X 0 s11) j3 (x4 + (1 : Int32)))) else (some (x4, X)))))
set_option maxHeartbeats 4000000 in
set_option maxRecDepth 100000 in
theorem wX5_load_b26 {p : Program} {l : Launch} {e : Env} {s : State} {m : MethodId} {below : List Frame} {meth : Method} {c : Code} {D : va_G} {cy cz : ClassId} {G : GT} {A : Nat → Prop} {args : Array Value} {o : Nat → Nat → Nat} {r : Int32} {Xr : XS} (C : Cx p s m args c cX5_load 5 "PumpTalk" D cy cz G A) (hr : meth.sig.returnType = some .int) (hlk : meth.locks = false) : ∀ (n : Nat) (X : XS) (j3 : Nat) (x4 : Int32) (H : Heap) (locs : List Loc) (ls : Array Slot), j3 < 4 → X5_load_b26 n X j3 x4 = some (r, Xr) → Wd D A s.heap H locs (cPT o cy cz X) → lv_has ls 5 [(0, .ref (o 9 0)), (3, .ref (o (5 + j3) 0)), (4, .int x4)] → W p l e (rmz 3 63) s m args below meth c H locs 0 0 (MQ below (QI D cy cz A (cPT o cy cz Xr) r) args s 0 0 A) (F0 m 26 ls []) := by
  have hx := C.1
  have hb := C.2.1
  intro n
  induction n with
  | zero =>
    intro X j3 x4 H locs ls hj3 hm
    rw [X5_load_b26] at hm
    cases hm
  | succ n ih =>
    intro X j3 x4 H locs ls hj3 hm hW hl
    rw [X5_load_b26] at hm
    refine lv_iload hx hb dX5_load_26 (lv_at hl 2 rfl) ?_
    refine lv_aload_n hx hb dX5_load_28 rfl (lv_at hl 1 rfl) ?_
    refine gSh_size C (wd_sh hW hj3) q191 dX5_load_29 ?_
    refine lv_icmp_ge (tgt := 93) hx hb dX5_load_32 (by decide) (fun hc1 => ?_) (fun hc1 => ?_)
    · rw [if_pos hc1] at hm
      refine lv_iload hx hb dX5_load_93 (lv_at hl 2 rfl) ?_
      obtain ⟨rfl, rfl⟩ := Prod.mk.inj (Option.some.inj hm)
      exact en_i C hr hlk hW dX5_load_95
    · rw [if_neg hc1] at hm
      refine lv_aload_n hx hb dX5_load_35 rfl (lv_at hl 0 rfl) ?_
      refine gP_square C hW q199 dX5_load_36 ?_
      refine lv_iload hx hb dX5_load_39 (lv_at hl 2 rfl) ?_
      obtain ⟨v3, e2, hm⟩ := mi_bind hm
      refine cq0_i_p (As := [.int x4]) (rest := []) C hW (c_X4_isThere e2) kX4_isThere q253 rfl rfl rfl hl.1 ⟨Nat.le_of_ble_eq_true rfl, Nat.le_of_ble_eq_true rfl⟩ ⟨Nat.le_refl 0, Nat.le_refl 0⟩ (Nat.le_of_ble_eq_true rfl) dX5_load_41 (fun H locs hW => ?_)
      refine lv_if_eq (tgt := 93) hx hb dX5_load_44 (by decide) (fun hc4 => ?_) (fun hc4 => ?_)
      · rw [if_pos hc4] at hm
        refine lv_iload hx hb dX5_load_93 (lv_at hl 2 rfl) ?_
        obtain ⟨rfl, rfl⟩ := Prod.mk.inj (Option.some.inj hm)
        exact en_i C hr hlk hW dX5_load_95
      · rw [if_neg hc4] at hm
        refine lv_aload_n hx hb dX5_load_47 rfl (lv_at hl 1 rfl) ?_
        refine gSh_numbers C (wd_sh hW hj3) q187 dX5_load_48 ?_
        refine lv_iload hx hb dX5_load_51 (lv_at hl 2 rfl) ?_
        obtain ⟨hi5, hm⟩ := mi_ai hm
        refine lSh_numbers C (wd_sh hW hj3) hi5 dX5_load_53 ?_
        refine lv_bipush (v := -9) hx hb dX5_load_54 (by decide) ?_
        refine lv_bipush (v := 9) hx hb dX5_load_56 (by decide) ?_
        obtain ⟨v7, e6, hm⟩ := mi_bind hm
        refine cS_i (As := [.int (X (5 + j3) 0 (Int32.toNatClampNeg x4)), .int (-9 : Int32), .int (9 : Int32)]) (rest := []) C hW (c_X5_isOutside e6) kX5_isOutside q228 rfl rfl hl.1 ⟨Nat.le_of_ble_eq_true rfl, Nat.le_of_ble_eq_true rfl⟩ ⟨Nat.le_refl 0, Nat.le_refl 0⟩ (Nat.le_of_ble_eq_true rfl) dX5_load_58 (fun H locs hW => ?_)
        refine lv_if_ne (tgt := 93) hx hb dX5_load_61 (by decide) (fun hc8 => ?_) (fun hc8 => ?_)
        · rw [if_neg hc8] at hm
          refine lv_iload hx hb dX5_load_93 (lv_at hl 2 rfl) ?_
          obtain ⟨rfl, rfl⟩ := Prod.mk.inj (Option.some.inj hm)
          exact en_i C hr hlk hW dX5_load_95
        · rw [if_pos hc8] at hm
          refine lv_aload_n hx hb dX5_load_64 rfl (lv_at hl 0 rfl) ?_
          refine gP_square C hW q199 dX5_load_65 ?_
          refine lv_iload hx hb dX5_load_68 (lv_at hl 2 rfl) ?_
          refine lv_aload_n hx hb dX5_load_70 rfl (lv_at hl 0 rfl) ?_
          refine gP_square C hW q199 dX5_load_71 ?_
          refine gSq_topic C (wd_0 hW) q109 dX5_load_74 ?_
          refine lv_aload_n hx hb dX5_load_77 rfl (lv_at hl 1 rfl) ?_
          refine gSh_numbers C (wd_sh hW hj3) q187 dX5_load_78 ?_
          refine lv_iload hx hb dX5_load_81 (lv_at hl 2 rfl) ?_
          obtain ⟨hi9, hm⟩ := mi_ai hm
          refine lSh_numbers C (wd_sh hW hj3) hi9 dX5_load_83 ?_
          obtain ⟨s11, e10, hm⟩ := mi_bind hm
          refine cq0_v_s (As := [.int x4, .int (X 0 11 7), .int (X (5 + j3) 0 (Int32.toNatClampNeg x4))]) (rest := []) C hW (c_X4_setView e10) kX4_setView q752 rfl rfl rfl hl.1 ⟨Nat.le_of_ble_eq_true rfl, Nat.le_of_ble_eq_true rfl⟩ ⟨Nat.le_refl 0, Nat.le_refl 0⟩ (Nat.le_of_ble_eq_true rfl) dX5_load_84 (fun H locs hW => ?_)
          refine lv_iinc (v := (x4 + (1 : Int32))) (lv' := [(4, .int (x4 + (1 : Int32))), (0, .ref (o 9 0)), (3, .ref (o (5 + j3) 0))]) hx hb dX5_load_87 hl (k := 2) rfl (congrArg (fun z : Int32 => x4 + z) (by decide)) (by decide) rfl (fun ls hl => ?_)
          refine lv_goto (tgt := 26) hx hb dX5_load_90 (by decide) ?_
          exact ih (va_up X 0 s11) j3 (x4 + (1 : Int32)) _ _ _ hj3 hm hW (lv_sub hl [1, 2, 0] rfl)
def X5_load (X : XS) (p1 : Int32) : Option (Int32 × XS) := (X5_lackOfSheet X p1).bind fun v13 => if v13 = (0 : Int32) then (ai p1 4 (X5_load_b26 FU X (Int32.toNatClampNeg p1) (0 : Int32))) else ((X5_found X v13).bind fun q17 => some (q17.1, q17.2))
set_option maxHeartbeats 4000000 in
set_option maxRecDepth 100000 in
theorem c_X5_load {l : Launch} {D : va_G} {cy cz : ClassId} {G : GT} {o : Nat → Nat → Nat} {X : XS} {p1 : Int32} {r : Int32} {Xr : XS} (hm : X5_load X p1 = some (r, Xr)) : CtI l D cy cz G yX5_load cX5_load 5 (some .int) 3 63 [.ref (o 9 0), .int p1] (cPT o cy cz X) (cPT o cy cz Xr) r := by
  refine ct_i (own := "PumpTalk") (by decide) rfl (Nat.le_of_ble_eq_true rfl) ?_
  intro p e s m below meth c ls A C hr hlk hW hl
  have hx := C.1
  have hb := C.2.1
  have hl : lv_has ls 5 [(0, .ref (o 9 0)), (1, .int p1)] := hl
  unfold X5_load at hm
  refine lv_aload_n hx hb dX5_load_0 rfl (lv_at hl 0 rfl) ?_
  refine lv_iload_n hx hb dX5_load_1 rfl (lv_at hl 1 rfl) ?_
  obtain ⟨v13, e12, hm⟩ := mi_bind hm
  refine cs_i (q0 := 0) (As := [.int p1]) (rest := []) C hW (c_X5_lackOfSheet e12) kX5_lackOfSheet q530 rfl rfl rfl rfl rfl hl.1 ⟨Nat.le_of_ble_eq_true rfl, Nat.le_of_ble_eq_true rfl⟩ ⟨Nat.le_refl 0, Nat.le_refl 0⟩ (Nat.le_of_ble_eq_true rfl) dX5_load_2 (fun H locs hW => ?_)
  refine lv_istore_n (lv' := [(2, .int v13), (0, .ref (o 9 0)), (1, .int p1)]) hx hb dX5_load_5 rfl hl (by decide) rfl (fun ls hl => ?_)
  refine lv_iload_n hx hb dX5_load_6 rfl (lv_at hl 0 rfl) ?_
  refine lv_if_eq (tgt := 16) hx hb dX5_load_7 (by decide) (fun hc14 => ?_) (fun hc14 => ?_)
  · rw [if_pos hc14] at hm
    refine lv_aload_n hx hb dX5_load_16 rfl (lv_at hl 1 rfl) ?_
    refine gP_sheets C hW q205 dX5_load_17 ?_
    refine lv_iload_n hx hb dX5_load_20 rfl (lv_at hl 2 rfl) ?_
    obtain ⟨hi15, hm⟩ := mi_ai hm
    refine lP_sheets C hW hi15 dX5_load_21 ?_
    refine lv_astore_n (lv' := [(3, .ref (o (5 + Int32.toNatClampNeg p1) 0)), (2, .int v13), (0, .ref (o 9 0)), (1, .int p1)]) hx hb dX5_load_22 rfl hl (by decide) rfl (fun ls hl => ?_)
    refine lv_iconst (v := 0) hx hb dX5_load_23 (by decide) ?_
    refine lv_istore (lv' := [(4, .int (0 : Int32)), (3, .ref (o (5 + Int32.toNatClampNeg p1) 0)), (2, .int v13), (0, .ref (o 9 0)), (1, .int p1)]) hx hb dX5_load_24 hl (by decide) rfl (fun ls hl => ?_)
    exact wX5_load_b26 C hr hlk FU X (Int32.toNatClampNeg p1) (0 : Int32) _ _ _ (vp_lt hi15) hm hW (lv_sub hl [3, 1, 0] rfl)
  · rw [if_neg hc14] at hm
    refine lv_aload_n hx hb dX5_load_10 rfl (lv_at hl 1 rfl) ?_
    refine lv_iload_n hx hb dX5_load_11 rfl (lv_at hl 0 rfl) ?_
    obtain ⟨q17, e16, hm⟩ := mi_bind hm
    refine cs_i (q0 := 0) (As := [.int v13]) (rest := []) C hW (c_X5_found e16) kX5_found q232 rfl rfl rfl rfl rfl hl.1 ⟨Nat.le_of_ble_eq_true rfl, Nat.le_of_ble_eq_true rfl⟩ ⟨Nat.le_refl 0, Nat.le_refl 0⟩ (Nat.le_of_ble_eq_true rfl) dX5_load_12 (fun H locs hW => ?_)
    obtain ⟨rfl, rfl⟩ := Prod.mk.inj (Option.some.inj hm)
    exact en_i C hr hlk hW dX5_load_15
theorem kX5_load : KM yX5_load cX5_load 5 (some .int) 1 := ⟨q749, q750, q67, q751, by decide +kernel, by decide +kernel, by decide +kernel⟩
def X5_judge_b73 (X : XS) (x4 : Int32) : Option (Int32 × XS) := some (((1 : Int32) + x4), X)
set_option maxHeartbeats 4000000 in
set_option maxRecDepth 100000 in
theorem wX5_judge_b73 {p : Program} {l : Launch} {e : Env} {s : State} {m : MethodId} {below : List Frame} {meth : Method} {c : Code} {D : va_G} {cy cz : ClassId} {G : GT} {A : Nat → Prop} {args : Array Value} {o : Nat → Nat → Nat} {r : Int32} {Xr : XS} (C : Cx p s m args c cX5_judge 5 "PumpTalk" D cy cz G A) (hr : meth.sig.returnType = some .int) (hlk : meth.locks = false) : ∀ (X : XS) (x4 : Int32) (H : Heap) (locs : List Loc) (ls : Array Slot), X5_judge_b73 X x4 = some (r, Xr) → Wd D A s.heap H locs (cPT o cy cz X) → lv_has ls 5 [(4, .int x4)] → W p l e (rmz 3 63) s m args below meth c H locs 0 0 (MQ below (QI D cy cz A (cPT o cy cz Xr) r) args s 0 0 A) (F0 m 73 ls []) := by
  have hx := C.1
  have hb := C.2.1
  intro X x4 H locs ls hm hW hl
  unfold X5_judge_b73 at hm
  refine lv_iconst (v := 1) hx hb dX5_judge_73 (by decide) ?_
  refine lv_iload hx hb dX5_judge_74 (lv_at hl 0 rfl) ?_
  refine lv_iadd hx hb dX5_judge_76 ?_
  obtain ⟨rfl, rfl⟩ := Prod.mk.inj (Option.some.inj hm)
  exact en_i C hr hlk hW dX5_judge_77
def X5_judge_b26 : Nat → XS → Nat → Int32 → Option (Int32 × XS)
  | 0, _, _, _ => none
  | n + 1, X, j3, x4 => if (X (5 + j3) 3 2) ≤ x4 then (some ((0 : Int32), X)) else ((X4_isThere (X 0) x4).bind fun v3 => if v3 = (0 : Int32) then (X5_judge_b73 X x4) else ((X4_viewOn (X 0) x4 (X 0 11 7)).bind fun v6 => ai x4 40 (if v6 = (X (5 + j3) 0 (Int32.toNatClampNeg x4)) then (X5_judge_b26 n X j3 (x4 + (1 : Int32))) else (X5_judge_b73 X x4))))
set_option maxHeartbeats 4000000 in
set_option maxRecDepth 100000 in
theorem wX5_judge_b26 {p : Program} {l : Launch} {e : Env} {s : State} {m : MethodId} {below : List Frame} {meth : Method} {c : Code} {D : va_G} {cy cz : ClassId} {G : GT} {A : Nat → Prop} {args : Array Value} {o : Nat → Nat → Nat} {r : Int32} {Xr : XS} (C : Cx p s m args c cX5_judge 5 "PumpTalk" D cy cz G A) (hr : meth.sig.returnType = some .int) (hlk : meth.locks = false) : ∀ (n : Nat) (X : XS) (j3 : Nat) (x4 : Int32) (H : Heap) (locs : List Loc) (ls : Array Slot), j3 < 4 → X5_judge_b26 n X j3 x4 = some (r, Xr) → Wd D A s.heap H locs (cPT o cy cz X) → lv_has ls 5 [(0, .ref (o 9 0)), (3, .ref (o (5 + j3) 0)), (4, .int x4)] → W p l e (rmz 3 63) s m args below meth c H locs 0 0 (MQ below (QI D cy cz A (cPT o cy cz Xr) r) args s 0 0 A) (F0 m 26 ls []) := by
  have hx := C.1
  have hb := C.2.1
  intro n
  induction n with
  | zero =>
    intro X j3 x4 H locs ls hj3 hm
    rw [X5_judge_b26] at hm
    cases hm
  | succ n ih =>
    intro X j3 x4 H locs ls hj3 hm hW hl
    rw [X5_judge_b26] at hm
    refine lv_iload hx hb dX5_judge_26 (lv_at hl 2 rfl) ?_
    refine lv_aload_n hx hb dX5_judge_28 rfl (lv_at hl 1 rfl) ?_
    refine gSh_size C (wd_sh hW hj3) q191 dX5_judge_29 ?_
    refine lv_icmp_ge (tgt := 84) hx hb dX5_judge_32 (by decide) (fun hc1 => ?_) (fun hc1 => ?_)
    · rw [if_pos hc1] at hm
      refine lv_iconst (v := 0) hx hb dX5_judge_84 (by decide) ?_
      obtain ⟨rfl, rfl⟩ := Prod.mk.inj (Option.some.inj hm)
      exact en_i C hr hlk hW dX5_judge_85
    · rw [if_neg hc1] at hm
      refine lv_aload_n hx hb dX5_judge_35 rfl (lv_at hl 0 rfl) ?_
      refine gP_square C hW q199 dX5_judge_36 ?_
      refine lv_iload hx hb dX5_judge_39 (lv_at hl 2 rfl) ?_
      obtain ⟨v3, e2, hm⟩ := mi_bind hm
      refine cq0_i_p (As := [.int x4]) (rest := []) C hW (c_X4_isThere e2) kX4_isThere q253 rfl rfl rfl hl.1 ⟨Nat.le_of_ble_eq_true rfl, Nat.le_of_ble_eq_true rfl⟩ ⟨Nat.le_refl 0, Nat.le_refl 0⟩ (Nat.le_of_ble_eq_true rfl) dX5_judge_41 (fun H locs hW => ?_)
      refine lv_if_eq (tgt := 73) hx hb dX5_judge_44 (by decide) (fun hc4 => ?_) (fun hc4 => ?_)
      · rw [if_pos hc4] at hm
        exact wX5_judge_b73 C hr hlk X x4 _ _ _ hm hW (lv_sub hl [2] rfl)
      · rw [if_neg hc4] at hm
        refine lv_aload_n hx hb dX5_judge_47 rfl (lv_at hl 0 rfl) ?_
        refine gP_square C hW q199 dX5_judge_48 ?_
        refine lv_iload hx hb dX5_judge_51 (lv_at hl 2 rfl) ?_
        refine lv_aload_n hx hb dX5_judge_53 rfl (lv_at hl 0 rfl) ?_
        refine gP_square C hW q199 dX5_judge_54 ?_
        refine gSq_topic C (wd_0 hW) q109 dX5_judge_57 ?_
        obtain ⟨v6, e5, hm⟩ := mi_bind hm
        refine cq0_i_p (As := [.int x4, .int (X 0 11 7)]) (rest := []) C hW (c_X4_viewOn e5) kX4_viewOn q411 rfl rfl rfl hl.1 ⟨Nat.le_of_ble_eq_true rfl, Nat.le_of_ble_eq_true rfl⟩ ⟨Nat.le_refl 0, Nat.le_refl 0⟩ (Nat.le_of_ble_eq_true rfl) dX5_judge_60 (fun H locs hW => ?_)
        refine lv_aload_n hx hb dX5_judge_63 rfl (lv_at hl 1 rfl) ?_
        refine gSh_numbers C (wd_sh hW hj3) q187 dX5_judge_64 ?_
        refine lv_iload hx hb dX5_judge_67 (lv_at hl 2 rfl) ?_
        obtain ⟨hi7, hm⟩ := mi_ai hm
        refine lSh_numbers C (wd_sh hW hj3) hi7 dX5_judge_69 ?_
        refine lv_icmp_eq (tgt := 78) hx hb dX5_judge_70 (by decide) (fun hc8 => ?_) (fun hc8 => ?_)
        · rw [if_pos hc8] at hm
          refine lv_iinc (v := (x4 + (1 : Int32))) (lv' := [(4, .int (x4 + (1 : Int32))), (0, .ref (o 9 0)), (3, .ref (o (5 + j3) 0))]) hx hb dX5_judge_78 hl (k := 2) rfl (congrArg (fun z : Int32 => x4 + z) (by decide)) (by decide) rfl (fun ls hl => ?_)
          refine lv_goto (tgt := 26) hx hb dX5_judge_81 (by decide) ?_
          exact ih X j3 (x4 + (1 : Int32)) _ _ _ hj3 hm hW (lv_sub hl [1, 2, 0] rfl)
        · rw [if_neg hc8] at hm
          exact wX5_judge_b73 C hr hlk X x4 _ _ _ hm hW (lv_sub hl [2] rfl)
def X5_judge (X : XS) (p1 : Int32) : Option (Int32 × XS) := (X5_lackOfSheet X p1).bind fun v10 => if v10 = (0 : Int32) then (ai p1 4 (X5_judge_b26 FU X (Int32.toNatClampNeg p1) (0 : Int32))) else ((X5_found X v10).bind fun q14 => some (q14.1, q14.2))
set_option maxHeartbeats 4000000 in
set_option maxRecDepth 100000 in
theorem c_X5_judge {l : Launch} {D : va_G} {cy cz : ClassId} {G : GT} {o : Nat → Nat → Nat} {X : XS} {p1 : Int32} {r : Int32} {Xr : XS} (hm : X5_judge X p1 = some (r, Xr)) : CtI l D cy cz G yX5_judge cX5_judge 5 (some .int) 3 63 [.ref (o 9 0), .int p1] (cPT o cy cz X) (cPT o cy cz Xr) r := by
  refine ct_i (own := "PumpTalk") (by decide) rfl (Nat.le_of_ble_eq_true rfl) ?_
  intro p e s m below meth c ls A C hr hlk hW hl
  have hx := C.1
  have hb := C.2.1
  have hl : lv_has ls 5 [(0, .ref (o 9 0)), (1, .int p1)] := hl
  unfold X5_judge at hm
  refine lv_aload_n hx hb dX5_judge_0 rfl (lv_at hl 0 rfl) ?_
  refine lv_iload_n hx hb dX5_judge_1 rfl (lv_at hl 1 rfl) ?_
  obtain ⟨v10, e9, hm⟩ := mi_bind hm
  refine cs_i (q0 := 0) (As := [.int p1]) (rest := []) C hW (c_X5_lackOfSheet e9) kX5_lackOfSheet q530 rfl rfl rfl rfl rfl hl.1 ⟨Nat.le_of_ble_eq_true rfl, Nat.le_of_ble_eq_true rfl⟩ ⟨Nat.le_refl 0, Nat.le_refl 0⟩ (Nat.le_of_ble_eq_true rfl) dX5_judge_2 (fun H locs hW => ?_)
  refine lv_istore_n (lv' := [(2, .int v10), (0, .ref (o 9 0)), (1, .int p1)]) hx hb dX5_judge_5 rfl hl (by decide) rfl (fun ls hl => ?_)
  refine lv_iload_n hx hb dX5_judge_6 rfl (lv_at hl 0 rfl) ?_
  refine lv_if_eq (tgt := 16) hx hb dX5_judge_7 (by decide) (fun hc11 => ?_) (fun hc11 => ?_)
  · rw [if_pos hc11] at hm
    refine lv_aload_n hx hb dX5_judge_16 rfl (lv_at hl 1 rfl) ?_
    refine gP_sheets C hW q205 dX5_judge_17 ?_
    refine lv_iload_n hx hb dX5_judge_20 rfl (lv_at hl 2 rfl) ?_
    obtain ⟨hi12, hm⟩ := mi_ai hm
    refine lP_sheets C hW hi12 dX5_judge_21 ?_
    refine lv_astore_n (lv' := [(3, .ref (o (5 + Int32.toNatClampNeg p1) 0)), (2, .int v10), (0, .ref (o 9 0)), (1, .int p1)]) hx hb dX5_judge_22 rfl hl (by decide) rfl (fun ls hl => ?_)
    refine lv_iconst (v := 0) hx hb dX5_judge_23 (by decide) ?_
    refine lv_istore (lv' := [(4, .int (0 : Int32)), (3, .ref (o (5 + Int32.toNatClampNeg p1) 0)), (2, .int v10), (0, .ref (o 9 0)), (1, .int p1)]) hx hb dX5_judge_24 hl (by decide) rfl (fun ls hl => ?_)
    exact wX5_judge_b26 C hr hlk FU X (Int32.toNatClampNeg p1) (0 : Int32) _ _ _ (vp_lt hi12) hm hW (lv_sub hl [3, 1, 0] rfl)
  · rw [if_neg hc11] at hm
    refine lv_aload_n hx hb dX5_judge_10 rfl (lv_at hl 1 rfl) ?_
    refine lv_iload_n hx hb dX5_judge_11 rfl (lv_at hl 0 rfl) ?_
    obtain ⟨q14, e13, hm⟩ := mi_bind hm
    refine cs_i (q0 := 0) (As := [.int v10]) (rest := []) C hW (c_X5_found e13) kX5_found q232 rfl rfl rfl rfl rfl hl.1 ⟨Nat.le_of_ble_eq_true rfl, Nat.le_of_ble_eq_true rfl⟩ ⟨Nat.le_refl 0, Nat.le_refl 0⟩ (Nat.le_of_ble_eq_true rfl) dX5_judge_12 (fun H locs hW => ?_)
    obtain ⟨rfl, rfl⟩ := Prod.mk.inj (Option.some.inj hm)
    exact en_i C hr hlk hW dX5_judge_15
theorem kX5_judge : KM yX5_judge cX5_judge 5 (some .int) 1 := ⟨q754, q755, q67, q756, by decide +kernel, by decide +kernel, by decide +kernel⟩
def X5_image (X : XS) : Option (Int32 × XS) := (X4_takeOver (pr2 (X 2) (X 0))).bind fun s2 => (some (va_up (va_up X 2 (s2 0)) 9 (su ((va_up X 2 (s2 0)) 9) 8 3 (1 : Int32)))).bind fun s3 => some ((1 : Int32), s3)
set_option maxHeartbeats 4000000 in
set_option maxRecDepth 100000 in
theorem c_X5_image {l : Launch} {D : va_G} {cy cz : ClassId} {G : GT} {o : Nat → Nat → Nat} {X : XS} {r : Int32} {Xr : XS} (hm : X5_image X = some (r, Xr)) : CtI l D cy cz G yX5_image cX5_image 1 (some .int) 2 81 [.ref (o 9 0)] (cPT o cy cz X) (cPT o cy cz Xr) r := by
  refine ct_i (own := "PumpTalk") (by decide) rfl (Nat.le_of_ble_eq_true rfl) ?_
  intro p e s m below meth c ls A C hr hlk hW hl
  have hx := C.1
  have hb := C.2.1
  have hl : lv_has ls 1 [(0, .ref (o 9 0))] := hl
  unfold X5_image at hm
  refine lv_aload_n hx hb dX5_image_0 rfl (lv_at hl 0 rfl) ?_
  refine gP_kept C hW q201 dX5_image_1 ?_
  refine lv_aload_n hx hb dX5_image_4 rfl (lv_at hl 0 rfl) ?_
  refine gP_square C hW q199 dX5_image_5 ?_
  obtain ⟨s2, e1, hm⟩ := mi_bind hm
  refine cq20_v_s2 (As := [.ref (o 0 0)]) (rest := []) C hW (c_X4_takeOver_2 e1) kX4_takeOver q400 rfl rfl rfl hl.1 ⟨Nat.le_of_ble_eq_true rfl, Nat.le_of_ble_eq_true rfl⟩ ⟨Nat.le_refl 0, Nat.le_refl 0⟩ (Nat.le_of_ble_eq_true rfl) dX5_image_8 (fun H locs hW => ?_)
  refine lv_aload_n hx hb dX5_image_11 rfl (lv_at hl 0 rfl) ?_
  refine lv_iconst (v := 1) hx hb dX5_image_12 (by decide) ?_
  refine pP_isKept C hW rfl rfl q202 dX5_image_13 (fun H locs hW => ?_)
  obtain ⟨s3, e4, hm⟩ := mi_bind hm
  rw [Option.some.inj e4] at hW
  refine lv_iconst (v := 1) hx hb dX5_image_16 (by decide) ?_
  obtain ⟨rfl, rfl⟩ := Prod.mk.inj (Option.some.inj hm)
  exact en_i C hr hlk hW dX5_image_17
theorem kX5_image : KM yX5_image cX5_image 1 (some .int) 0 := ⟨q758, q759, q67, q760, by decide +kernel, by decide +kernel, by decide +kernel⟩
def X5_undo (X : XS) : Option (Int32 × XS) := if (X 9 8 3) = (0 : Int32) then ((X5_found X (-1000004 : Int32)).bind fun q5 => some (q5.1, q5.2)) else ((X4_takeOver (pr2 (X 0) (X 2))).bind fun s3 => some (((va_up X 0 (s3 0)) 0 11 5), va_up X 0 (s3 0)))
set_option maxHeartbeats 4000000 in
set_option maxRecDepth 100000 in
theorem c_X5_undo {l : Launch} {D : va_G} {cy cz : ClassId} {G : GT} {o : Nat → Nat → Nat} {X : XS} {r : Int32} {Xr : XS} (hm : X5_undo X = some (r, Xr)) : CtI l D cy cz G yX5_undo cX5_undo 1 (some .int) 2 81 [.ref (o 9 0)] (cPT o cy cz X) (cPT o cy cz Xr) r := by
  refine ct_i (own := "PumpTalk") (by decide) rfl (Nat.le_of_ble_eq_true rfl) ?_
  intro p e s m below meth c ls A C hr hlk hW hl
  have hx := C.1
  have hb := C.2.1
  have hl : lv_has ls 1 [(0, .ref (o 9 0))] := hl
  unfold X5_undo at hm
  refine lv_aload_n hx hb dX5_undo_0 rfl (lv_at hl 0 rfl) ?_
  refine gP_isKept C hW q202 dX5_undo_1 ?_
  refine lv_if_ne (tgt := 14) hx hb dX5_undo_4 (by decide) (fun hc1 => ?_) (fun hc1 => ?_)
  · rw [if_neg hc1] at hm
    refine lv_aload_n hx hb dX5_undo_14 rfl (lv_at hl 0 rfl) ?_
    refine gP_square C hW q199 dX5_undo_15 ?_
    refine lv_aload_n hx hb dX5_undo_18 rfl (lv_at hl 0 rfl) ?_
    refine gP_kept C hW q201 dX5_undo_19 ?_
    obtain ⟨s3, e2, hm⟩ := mi_bind hm
    refine cq02_v_s0 (As := [.ref (o 2 0)]) (rest := []) C hW (c_X4_takeOver_2 e2) kX4_takeOver q400 rfl rfl rfl hl.1 ⟨Nat.le_of_ble_eq_true rfl, Nat.le_of_ble_eq_true rfl⟩ ⟨Nat.le_refl 0, Nat.le_refl 0⟩ (Nat.le_of_ble_eq_true rfl) dX5_undo_22 (fun H locs hW => ?_)
    refine lv_aload_n hx hb dX5_undo_25 rfl (lv_at hl 0 rfl) ?_
    refine gP_square C hW q199 dX5_undo_26 ?_
    refine gSq_minute C (wd_0 hW) q104 dX5_undo_29 ?_
    obtain ⟨rfl, rfl⟩ := Prod.mk.inj (Option.some.inj hm)
    exact en_i C hr hlk hW dX5_undo_32
  · rw [if_pos hc1] at hm
    refine lv_aload_n hx hb dX5_undo_7 rfl (lv_at hl 0 rfl) ?_
    refine lv_ldc hx hb C.2.2.2.1 (C.2.2.2.2.1 _ q417) dX5_undo_8 ?_
    obtain ⟨q5, e4, hm⟩ := mi_bind hm
    refine cs_i (q0 := 0) (As := [.int (-1000004 : Int32)]) (rest := []) C hW (c_X5_found e4) kX5_found q232 rfl rfl rfl rfl rfl hl.1 ⟨Nat.le_of_ble_eq_true rfl, Nat.le_of_ble_eq_true rfl⟩ ⟨Nat.le_refl 0, Nat.le_refl 0⟩ (Nat.le_of_ble_eq_true rfl) dX5_undo_10 (fun H locs hW => ?_)
    obtain ⟨rfl, rfl⟩ := Prod.mk.inj (Option.some.inj hm)
    exact en_i C hr hlk hW dX5_undo_13
theorem kX5_undo : KM yX5_undo cX5_undo 1 (some .int) 0 := ⟨q762, q763, q67, q764, by decide +kernel, by decide +kernel, by decide +kernel⟩
def X5_tear_b12 (X : XS) (y0 : Int32) : Option (Int32 × XS) := (some (va_up X 9 (su (X 9) 8 3 (0 : Int32)))).bind fun s1 => some (y0, s1)
set_option maxHeartbeats 4000000 in
set_option maxRecDepth 100000 in
theorem wX5_tear_b12 {p : Program} {l : Launch} {e : Env} {s : State} {m : MethodId} {below : List Frame} {meth : Method} {c : Code} {D : va_G} {cy cz : ClassId} {G : GT} {A : Nat → Prop} {args : Array Value} {o : Nat → Nat → Nat} {r : Int32} {Xr : XS} (C : Cx p s m args c cX5_tear 2 "PumpTalk" D cy cz G A) (hr : meth.sig.returnType = some .int) (hlk : meth.locks = false) : ∀ (X : XS) (y0 : Int32) (H : Heap) (locs : List Loc) (ls : Array Slot), X5_tear_b12 X y0 = some (r, Xr) → Wd D A s.heap H locs (cPT o cy cz X) → lv_has ls 2 [(0, .ref (o 9 0))] → W p l e (rmz 0 0) s m args below meth c H locs 0 0 (MQ below (QI D cy cz A (cPT o cy cz Xr) r) args s 0 0 A) (F0 m 12 ls [.int y0]) := by
  have hx := C.1
  have hb := C.2.1
  intro X y0 H locs ls hm hW hl
  unfold X5_tear_b12 at hm
  refine lv_istore_n (lv' := [(1, .int y0), (0, .ref (o 9 0))]) hx hb dX5_tear_12 rfl hl (by decide) rfl (fun ls hl => ?_)
  refine lv_aload_n hx hb dX5_tear_13 rfl (lv_at hl 1 rfl) ?_
  refine lv_iconst (v := 0) hx hb dX5_tear_14 (by decide) ?_
  refine pP_isKept C hW rfl rfl q202 dX5_tear_15 (fun H locs hW => ?_)
  obtain ⟨s1, e2, hm⟩ := mi_bind hm
  rw [Option.some.inj e2] at hW
  refine lv_iload_n hx hb dX5_tear_18 rfl (lv_at hl 0 rfl) ?_
  obtain ⟨rfl, rfl⟩ := Prod.mk.inj (Option.some.inj hm)
  exact en_i C hr hlk hW dX5_tear_19
def X5_tear (X : XS) : Option (Int32 × XS) := if (X 9 8 3) = (0 : Int32) then (X5_tear_b12 X (0 : Int32)) else (X5_tear_b12 X (1 : Int32))
set_option maxHeartbeats 4000000 in
set_option maxRecDepth 100000 in
theorem c_X5_tear {l : Launch} {D : va_G} {cy cz : ClassId} {G : GT} {o : Nat → Nat → Nat} {X : XS} {r : Int32} {Xr : XS} (hm : X5_tear X = some (r, Xr)) : CtI l D cy cz G yX5_tear cX5_tear 2 (some .int) 0 0 [.ref (o 9 0)] (cPT o cy cz X) (cPT o cy cz Xr) r := by
  refine ct_i (own := "PumpTalk") (by decide) rfl (Nat.le_of_ble_eq_true rfl) ?_
  intro p e s m below meth c ls A C hr hlk hW hl
  have hx := C.1
  have hb := C.2.1
  have hl : lv_has ls 2 [(0, .ref (o 9 0))] := hl
  unfold X5_tear at hm
  refine lv_aload_n hx hb dX5_tear_0 rfl (lv_at hl 0 rfl) ?_
  refine gP_isKept C hW q202 dX5_tear_1 ?_
  refine lv_if_eq (tgt := 11) hx hb dX5_tear_4 (by decide) (fun hc3 => ?_) (fun hc3 => ?_)
  · rw [if_pos hc3] at hm
    refine lv_iconst (v := 0) hx hb dX5_tear_11 (by decide) ?_
    exact wX5_tear_b12 C hr hlk X (0 : Int32) _ _ _ hm hW (lv_sub hl [0] rfl)
  · rw [if_neg hc3] at hm
    refine lv_iconst (v := 1) hx hb dX5_tear_7 (by decide) ?_
    refine lv_goto (tgt := 12) hx hb dX5_tear_8 (by decide) ?_
    exact wX5_tear_b12 C hr hlk X (1 : Int32) _ _ _ hm hW (lv_sub hl [0] rfl)
theorem kX5_tear : KM yX5_tear cX5_tear 2 (some .int) 0 := ⟨q766, q767, q67, q768, by decide +kernel, by decide +kernel, by decide +kernel⟩
def X5_count (X : XS) (p1 : Int32) : Option (Int32 × XS) := if p1 = (0 : Int32) then (some ((X 0 11 5), X)) else (if p1 = (1 : Int32) then (some ((X 0 11 4), X)) else (if p1 = (2 : Int32) then (some ((X 0 11 7), X)) else (if p1 = (3 : Int32) then (some ((X 0 11 6), X)) else (if p1 = (4 : Int32) then ((X4_allVoices (X 0)).bind fun v7 => some (v7, X)) else (if p1 = (5 : Int32) then (some ((X 3 6 1), X)) else (if p1 = (6 : Int32) then (some ((X 0 11 10), X)) else (if p1 = (7 : Int32) then ((X4_fullSpots (X 0)).bind fun v12 => some (v12, X)) else ((X5_found X (-1000001 : Int32)).bind fun q14 => some (q14.1, q14.2)))))))))
set_option maxHeartbeats 4000000 in
set_option maxRecDepth 100000 in
theorem c_X5_count {l : Launch} {D : va_G} {cy cz : ClassId} {G : GT} {o : Nat → Nat → Nat} {X : XS} {p1 : Int32} {r : Int32} {Xr : XS} (hm : X5_count X p1 = some (r, Xr)) : CtI l D cy cz G yX5_count cX5_count 2 (some .int) 1 22 [.ref (o 9 0), .int p1] (cPT o cy cz X) (cPT o cy cz Xr) r := by
  refine ct_i (own := "PumpTalk") (by decide) rfl (Nat.le_of_ble_eq_true rfl) ?_
  intro p e s m below meth c ls A C hr hlk hW hl
  have hx := C.1
  have hb := C.2.1
  have hl : lv_has ls 2 [(0, .ref (o 9 0)), (1, .int p1)] := hl
  unfold X5_count at hm
  refine lv_iload_n hx hb dX5_count_0 rfl (lv_at hl 1 rfl) ?_
  by_cases ht1 : p1 = (0 : Int32)
  · rw [if_pos ht1] at hm
    refine lv_tableIn (tgt := 48) (off := 47) hx hb dX5_count_1 (by rw [ht1]; decide) (by rw [ht1]; decide) (by rw [ht1]; rfl) (by decide) ?_
    refine lv_aload_n hx hb dX5_count_48 rfl (lv_at hl 0 rfl) ?_
    refine gP_square C hW q199 dX5_count_49 ?_
    refine gSq_minute C (wd_0 hW) q104 dX5_count_52 ?_
    obtain ⟨rfl, rfl⟩ := Prod.mk.inj (Option.some.inj hm)
    exact en_i C hr hlk hW dX5_count_55
  · rw [if_neg ht1] at hm
    by_cases ht2 : p1 = (1 : Int32)
    · rw [if_pos ht2] at hm
      refine lv_tableIn (tgt := 56) (off := 55) hx hb dX5_count_1 (by rw [ht2]; decide) (by rw [ht2]; decide) (by rw [ht2]; rfl) (by decide) ?_
      refine lv_aload_n hx hb dX5_count_56 rfl (lv_at hl 0 rfl) ?_
      refine gP_square C hW q199 dX5_count_57 ?_
      refine gSq_people C (wd_0 hW) q102 dX5_count_60 ?_
      obtain ⟨rfl, rfl⟩ := Prod.mk.inj (Option.some.inj hm)
      exact en_i C hr hlk hW dX5_count_63
    · rw [if_neg ht2] at hm
      by_cases ht3 : p1 = (2 : Int32)
      · rw [if_pos ht3] at hm
        refine lv_tableIn (tgt := 64) (off := 63) hx hb dX5_count_1 (by rw [ht3]; decide) (by rw [ht3]; decide) (by rw [ht3]; rfl) (by decide) ?_
        refine lv_aload_n hx hb dX5_count_64 rfl (lv_at hl 0 rfl) ?_
        refine gP_square C hW q199 dX5_count_65 ?_
        refine gSq_topic C (wd_0 hW) q109 dX5_count_68 ?_
        obtain ⟨rfl, rfl⟩ := Prod.mk.inj (Option.some.inj hm)
        exact en_i C hr hlk hW dX5_count_71
      · rw [if_neg ht3] at hm
        by_cases ht4 : p1 = (3 : Int32)
        · rw [if_pos ht4] at hm
          refine lv_tableIn (tgt := 72) (off := 71) hx hb dX5_count_1 (by rw [ht4]; decide) (by rw [ht4]; decide) (by rw [ht4]; rfl) (by decide) ?_
          refine lv_aload_n hx hb dX5_count_72 rfl (lv_at hl 0 rfl) ?_
          refine gP_square C hW q199 dX5_count_73 ?_
          refine gSq_water C (wd_0 hW) q106 dX5_count_76 ?_
          obtain ⟨rfl, rfl⟩ := Prod.mk.inj (Option.some.inj hm)
          exact en_i C hr hlk hW dX5_count_79
        · rw [if_neg ht4] at hm
          by_cases ht5 : p1 = (4 : Int32)
          · rw [if_pos ht5] at hm
            refine lv_tableIn (tgt := 80) (off := 79) hx hb dX5_count_1 (by rw [ht5]; decide) (by rw [ht5]; decide) (by rw [ht5]; rfl) (by decide) ?_
            refine lv_aload_n hx hb dX5_count_80 rfl (lv_at hl 0 rfl) ?_
            refine gP_square C hW q199 dX5_count_81 ?_
            obtain ⟨v7, e6, hm⟩ := mi_bind hm
            refine cq0_i_p (As := []) (rest := []) C hW (c_X4_allVoices e6) kX4_allVoices q392 rfl rfl rfl hl.1 ⟨Nat.le_of_ble_eq_true rfl, Nat.le_of_ble_eq_true rfl⟩ ⟨Nat.le_refl 0, Nat.le_refl 0⟩ (Nat.le_of_ble_eq_true rfl) dX5_count_84 (fun H locs hW => ?_)
            obtain ⟨rfl, rfl⟩ := Prod.mk.inj (Option.some.inj hm)
            exact en_i C hr hlk hW dX5_count_87
          · rw [if_neg ht5] at hm
            by_cases ht8 : p1 = (5 : Int32)
            · rw [if_pos ht8] at hm
              refine lv_tableIn (tgt := 88) (off := 87) hx hb dX5_count_1 (by rw [ht8]; decide) (by rw [ht8]; decide) (by rw [ht8]; rfl) (by decide) ?_
              refine lv_aload_n hx hb dX5_count_88 rfl (lv_at hl 0 rfl) ?_
              refine gP_reader C hW q203 dX5_count_89 ?_
              refine gRd_length C (wd_3 hW) q148 dX5_count_92 ?_
              obtain ⟨rfl, rfl⟩ := Prod.mk.inj (Option.some.inj hm)
              exact en_i C hr hlk hW dX5_count_95
            · rw [if_neg ht8] at hm
              by_cases ht9 : p1 = (6 : Int32)
              · rw [if_pos ht9] at hm
                refine lv_tableIn (tgt := 96) (off := 95) hx hb dX5_count_1 (by rw [ht9]; decide) (by rw [ht9]; decide) (by rw [ht9]; rfl) (by decide) ?_
                refine lv_aload_n hx hb dX5_count_96 rfl (lv_at hl 0 rfl) ?_
                refine gP_square C hW q199 dX5_count_97 ?_
                refine gSq_z C (wd_0 hW) q115 dX5_count_100 ?_
                obtain ⟨rfl, rfl⟩ := Prod.mk.inj (Option.some.inj hm)
                exact en_i C hr hlk hW dX5_count_103
              · rw [if_neg ht9] at hm
                by_cases ht10 : p1 = (7 : Int32)
                · rw [if_pos ht10] at hm
                  refine lv_tableIn (tgt := 104) (off := 103) hx hb dX5_count_1 (by rw [ht10]; decide) (by rw [ht10]; decide) (by rw [ht10]; rfl) (by decide) ?_
                  refine lv_aload_n hx hb dX5_count_104 rfl (lv_at hl 0 rfl) ?_
                  refine gP_square C hW q199 dX5_count_105 ?_
                  obtain ⟨v12, e11, hm⟩ := mi_bind hm
                  refine cq0_i_p (As := []) (rest := []) C hW (c_X4_fullSpots e11) kX4_fullSpots q773 rfl rfl rfl hl.1 ⟨Nat.le_of_ble_eq_true rfl, Nat.le_of_ble_eq_true rfl⟩ ⟨Nat.le_refl 0, Nat.le_refl 0⟩ (Nat.le_of_ble_eq_true rfl) dX5_count_108 (fun H locs hW => ?_)
                  obtain ⟨rfl, rfl⟩ := Prod.mk.inj (Option.some.inj hm)
                  exact en_i C hr hlk hW dX5_count_111
                · rw [if_neg ht10] at hm
                  refine lv_tableOut (tgt := 112) hx hb dX5_count_1 (by have ht := tab_out (x := p1) 0 8 (by decide) (fun k hk => by rcases (show k = 0 ∨ k = 1 ∨ k = 2 ∨ k = 3 ∨ k = 4 ∨ k = 5 ∨ k = 6 ∨ k = 7 by omega) with rfl | rfl | rfl | rfl | rfl | rfl | rfl | rfl <;> first | exact ht1 | exact ht2 | exact ht3 | exact ht4 | exact ht5 | exact ht8 | exact ht9 | exact ht10); omega) (by decide) ?_
                  refine lv_aload_n hx hb dX5_count_112 rfl (lv_at hl 0 rfl) ?_
                  refine lv_ldc hx hb C.2.2.2.1 (C.2.2.2.2.1 _ q231) dX5_count_113 ?_
                  obtain ⟨q14, e13, hm⟩ := mi_bind hm
                  refine cs_i (q0 := 0) (As := [.int (-1000001 : Int32)]) (rest := []) C hW (c_X5_found e13) kX5_found q232 rfl rfl rfl rfl rfl hl.1 ⟨Nat.le_of_ble_eq_true rfl, Nat.le_of_ble_eq_true rfl⟩ ⟨Nat.le_refl 0, Nat.le_refl 0⟩ (Nat.le_of_ble_eq_true rfl) dX5_count_115 (fun H locs hW => ?_)
                  obtain ⟨rfl, rfl⟩ := Prod.mk.inj (Option.some.inj hm)
                  exact en_i C hr hlk hW dX5_count_118
theorem kX5_count : KM yX5_count cX5_count 2 (some .int) 1 := ⟨q770, q771, q67, q772, by decide +kernel, by decide +kernel, by decide +kernel⟩
def X5_status_b32 : Nat → XS → Int32 → Int32 → Option (Int32 × XS)
  | 0, _, _, _ => none
  | n + 1, X, x2, x3 => if (7 : Int32) ≤ x3 then (some (x2, X)) else (ai x3 7 (X5_status_b32 n X ((x2 + (X 9 7 (Int32.toNatClampNeg x3)))) ((x3 + (1 : Int32)))))
set_option maxHeartbeats 4000000 in
set_option maxRecDepth 100000 in
theorem wX5_status_b32 {p : Program} {l : Launch} {e : Env} {s : State} {m : MethodId} {below : List Frame} {meth : Method} {c : Code} {D : va_G} {cy cz : ClassId} {G : GT} {A : Nat → Prop} {args : Array Value} {o : Nat → Nat → Nat} {r : Int32} {Xr : XS} (C : Cx p s m args c cX5_status 4 "PumpTalk" D cy cz G A) (hr : meth.sig.returnType = some .int) (hlk : meth.locks = false) : ∀ (n : Nat) (X : XS) (x2 : Int32) (x3 : Int32) (H : Heap) (locs : List Loc) (ls : Array Slot), X5_status_b32 n X x2 x3 = some (r, Xr) → Wd D A s.heap H locs (cPT o cy cz X) → lv_has ls 4 [(0, .ref (o 9 0)), (2, .int x2), (3, .int x3)] → W p l e (rmz 1 22) s m args below meth c H locs 0 0 (MQ below (QI D cy cz A (cPT o cy cz Xr) r) args s 0 0 A) (F0 m 32 ls []) := by
  have hx := C.1
  have hb := C.2.1
  intro n
  induction n with
  | zero =>
    intro X x2 x3 H locs ls hm
    rw [X5_status_b32] at hm
    cases hm
  | succ n ih =>
    intro X x2 x3 H locs ls hm hW hl
    rw [X5_status_b32] at hm
    refine lv_iload_n hx hb dX5_status_32 rfl (lv_at hl 2 rfl) ?_
    refine lv_bipush (v := 7) hx hb dX5_status_33 (by decide) ?_
    refine lv_icmp_ge (tgt := 53) hx hb dX5_status_35 (by decide) (fun hc1 => ?_) (fun hc1 => ?_)
    · rw [if_pos hc1] at hm
      refine lv_iload_n hx hb dX5_status_53 rfl (lv_at hl 1 rfl) ?_
      obtain ⟨rfl, rfl⟩ := Prod.mk.inj (Option.some.inj hm)
      exact en_i C hr hlk hW dX5_status_54
    · rw [if_neg hc1] at hm
      refine lv_iload_n hx hb dX5_status_38 rfl (lv_at hl 1 rfl) ?_
      refine lv_aload_n hx hb dX5_status_39 rfl (lv_at hl 0 rfl) ?_
      refine gP_tally C hW q206 dX5_status_40 ?_
      refine lv_iload_n hx hb dX5_status_43 rfl (lv_at hl 2 rfl) ?_
      obtain ⟨hi2, hm⟩ := mi_ai hm
      refine lP_tally C hW hi2 dX5_status_44 ?_
      refine lv_iadd hx hb dX5_status_45 ?_
      refine lv_istore_n (lv' := [(2, .int (x2 + (X 9 7 (Int32.toNatClampNeg x3)))), (0, .ref (o 9 0)), (3, .int x3)]) hx hb dX5_status_46 rfl hl (by decide) rfl (fun ls hl => ?_)
      refine lv_iinc (v := (x3 + (1 : Int32))) (lv' := [(3, .int (x3 + (1 : Int32))), (2, .int (x2 + (X 9 7 (Int32.toNatClampNeg x3)))), (0, .ref (o 9 0))]) hx hb dX5_status_47 hl (k := 2) rfl (congrArg (fun z : Int32 => x3 + z) (by decide)) (by decide) rfl (fun ls hl => ?_)
      refine lv_goto (tgt := 32) hx hb dX5_status_50 (by decide) ?_
      exact ih X ((x2 + (X 9 7 (Int32.toNatClampNeg x3)))) ((x3 + (1 : Int32))) _ _ _ hm hW (lv_sub hl [2, 1, 0] rfl)
def X5_status (X : XS) (p1 : Int32) : Option (Int32 × XS) := (X5_isOutside p1 (-1 : Int32) (6 : Int32)).bind fun v4 => if v4 = (0 : Int32) then (if p1 < (0 : Int32) then (X5_status_b32 FU X (0 : Int32) (0 : Int32)) else (ai p1 7 (some ((X 9 7 (Int32.toNatClampNeg p1)), X)))) else ((X5_found X (-1000001 : Int32)).bind fun q9 => some (q9.1, q9.2))
set_option maxHeartbeats 4000000 in
set_option maxRecDepth 100000 in
theorem c_X5_status {l : Launch} {D : va_G} {cy cz : ClassId} {G : GT} {o : Nat → Nat → Nat} {X : XS} {p1 : Int32} {r : Int32} {Xr : XS} (hm : X5_status X p1 = some (r, Xr)) : CtI l D cy cz G yX5_status cX5_status 4 (some .int) 1 22 [.ref (o 9 0), .int p1] (cPT o cy cz X) (cPT o cy cz Xr) r := by
  refine ct_i (own := "PumpTalk") (by decide) rfl (Nat.le_of_ble_eq_true rfl) ?_
  intro p e s m below meth c ls A C hr hlk hW hl
  have hx := C.1
  have hb := C.2.1
  have hl : lv_has ls 4 [(0, .ref (o 9 0)), (1, .int p1)] := hl
  unfold X5_status at hm
  refine lv_iload_n hx hb dX5_status_0 rfl (lv_at hl 1 rfl) ?_
  refine lv_iconst (v := -1) hx hb dX5_status_1 (by decide) ?_
  refine lv_bipush (v := 6) hx hb dX5_status_2 (by decide) ?_
  obtain ⟨v4, e3, hm⟩ := mi_bind hm
  refine cS_i (As := [.int p1, .int (-1 : Int32), .int (6 : Int32)]) (rest := []) C hW (c_X5_isOutside e3) kX5_isOutside q228 rfl rfl hl.1 ⟨Nat.le_of_ble_eq_true rfl, Nat.le_of_ble_eq_true rfl⟩ ⟨Nat.le_refl 0, Nat.le_refl 0⟩ (Nat.le_of_ble_eq_true rfl) dX5_status_4 (fun H locs hW => ?_)
  refine lv_if_eq (tgt := 17) hx hb dX5_status_7 (by decide) (fun hc5 => ?_) (fun hc5 => ?_)
  · rw [if_pos hc5] at hm
    refine lv_iload_n hx hb dX5_status_17 rfl (lv_at hl 1 rfl) ?_
    refine lv_if_lt (tgt := 28) hx hb dX5_status_18 (by decide) (fun hc6 => ?_) (fun hc6 => ?_)
    · rw [if_pos hc6] at hm
      refine lv_iconst (v := 0) hx hb dX5_status_28 (by decide) ?_
      refine lv_istore_n (lv' := [(2, .int (0 : Int32)), (0, .ref (o 9 0)), (1, .int p1)]) hx hb dX5_status_29 rfl hl (by decide) rfl (fun ls hl => ?_)
      refine lv_iconst (v := 0) hx hb dX5_status_30 (by decide) ?_
      refine lv_istore_n (lv' := [(3, .int (0 : Int32)), (2, .int (0 : Int32)), (0, .ref (o 9 0)), (1, .int p1)]) hx hb dX5_status_31 rfl hl (by decide) rfl (fun ls hl => ?_)
      exact wX5_status_b32 C hr hlk FU X (0 : Int32) (0 : Int32) _ _ _ hm hW (lv_sub hl [2, 1, 0] rfl)
    · rw [if_neg hc6] at hm
      refine lv_aload_n hx hb dX5_status_21 rfl (lv_at hl 0 rfl) ?_
      refine gP_tally C hW q206 dX5_status_22 ?_
      refine lv_iload_n hx hb dX5_status_25 rfl (lv_at hl 1 rfl) ?_
      obtain ⟨hi7, hm⟩ := mi_ai hm
      refine lP_tally C hW hi7 dX5_status_26 ?_
      obtain ⟨rfl, rfl⟩ := Prod.mk.inj (Option.some.inj hm)
      exact en_i C hr hlk hW dX5_status_27
  · rw [if_neg hc5] at hm
    refine lv_aload_n hx hb dX5_status_10 rfl (lv_at hl 0 rfl) ?_
    refine lv_ldc hx hb C.2.2.2.1 (C.2.2.2.2.1 _ q231) dX5_status_11 ?_
    obtain ⟨q9, e8, hm⟩ := mi_bind hm
    refine cs_i (q0 := 0) (As := [.int (-1000001 : Int32)]) (rest := []) C hW (c_X5_found e8) kX5_found q232 rfl rfl rfl rfl rfl hl.1 ⟨Nat.le_of_ble_eq_true rfl, Nat.le_of_ble_eq_true rfl⟩ ⟨Nat.le_refl 0, Nat.le_refl 0⟩ (Nat.le_of_ble_eq_true rfl) dX5_status_13 (fun H locs hW => ?_)
    obtain ⟨rfl, rfl⟩ := Prod.mk.inj (Option.some.inj hm)
    exact en_i C hr hlk hW dX5_status_16
theorem kX5_status : KM yX5_status cX5_status 4 (some .int) 1 := ⟨q778, q779, q67, q780, by decide +kernel, by decide +kernel, by decide +kernel⟩
