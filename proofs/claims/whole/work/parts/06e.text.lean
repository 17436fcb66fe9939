section TXT
variable {p : Program} {l : Launch} {e : Env} {s : State} {m : MethodId} {below : List Frame} {meth : Method} {c : Code} {cc : ByteArray} {D : va_G} {cy cz : ClassId} {G : GT} {A : Nat → Prop} {H : Heap} {locs : List Loc} {ls : Array Slot} {args : Array Value} {R : Room} {nL pc : Nat} {own : String} {w w' wc wc' wr : va_W} {rest : List Value} {Q : State → Prop} {cells slots : Nat}
variable {z : ZT}
theorem en_t {ty : FieldType} {r : Int32} (C : Cx p s m args c cc nL own D cy cz G A) (hr : meth.sig.returnType = some ty) (hlk : meth.locks = false) (hz : narrow ty (.int r) = .int r) (hW : Wd D A s.heap H locs w) (hdg : decode cc pc = .ok (.ireturn, 1)) : W p l e R s m args below meth c H locs 0 0 (MQ below (QI D cy cz A w r) args s 0 0 A) (F0 m pc ls [.int r]) :=
  W.zret (v := r) C.1 C.2.1 hr hz (fun t ht hw => ⟨⟨r, (), rfl, rfl, by rw [ht]; exact hW.1, va_K.moved hw.alike C.2.2.2.2.2.1, hW.2.1⟩, hW.2.2.F ht⟩) hW.2.2.2.2 hdg hlk
theorem cT_i {kx : Nat} {y : MethodName} {bytes : ByteArray} {maxL fr lo k index : Nat} {rt : Option FieldType} {As : List Value} {r : Int32} {st0 : List Value} (C : Cx p s m args c cc nL own D cy cz G A) (hW : Wd D A s.heap H locs w)
    (hM : CtI l D cy cz G y bytes maxL rt fr lo (.ref (z.2.1 kx) :: As) [] [] r) (hkx : kx < 11) (hg : GH G z) (hyc : y.cls = "java/lang/String") (hq : KM y bytes maxL rt k) (hlk : Cond.methodLink own index y ∈ TB) (hst : st0 = (As.reverse ++ .ref (z.2.1 kx) :: rest)) (hk : As.length = k) (hls : ls.size = nL) (hR : fr + 1 ≤ R.frames ∧ 8 + (maxL + 11) + lo ≤ R.locals) (hcs : cells ≤ R.cells ∧ slots ≤ R.slots) (hrm : (rest.map fun v => v.category).sum ≤ 8) (hdg : decode cc pc = .ok (.invokevirtual index, 3))
    (kk : ∀ (H1 : Heap) (locs1 : List Loc), Wd D A s.heap H1 locs1 w → W p l e R s m args below meth c H1 locs1 cells slots Q (F0 m (pc + 3) ls (.int r :: rest))) : W p l e R s m args below meth c H locs cells slots Q (F0 m pc ls st0) := by
  subst hst
  have hA := C.2.2.2.2.2.2.2
  have hG := C.2.2.2.2.2.2.1
  have hF : ∀ q, va_A [] H.size q → A q := fun q h => by
    rcases h with ⟨k, e, h⟩ | h
    · simp at h
    · exact hA q (Nat.le_trans hW.2.2.1 h)
  obtain ⟨hP, hD, hS⟩ := hW
  obtain ⟨hx, hb, hml, hown, hts, hK, -, -⟩ := C
  refine va_calli (va_runV (C := y.cls) (As := As) (rest := rest) ⟨hx, hb, hml, hown, hts⟩ (hM H.size) (cwV k hts (gi_V hq hlk rfl) rfl rfl rfl ⟨rfl, hq.2.2.2.2.1, hq.2.2.2.2.2.1, hq.2.2.2.2.2.2⟩ hR) ⟨pw_blind, by rw [hyc]; exact vk_recv (hg A s s.heap hG.2).2.2.1 hkx hS, fun U hU hw => ⟨rfl, by rw [hU], by rw [hU]; exact (fun k q h => by simp at h), va_K.moved hw.alike hK, ⟨fun i j p q h => by simp at h, fun k q h => by simp at h⟩, hG.1, g_at hG hS hF hU hw⟩⟩ rfl hk hls rfl (lv_room hrm) hdg ⟨hcs.1, hcs.2⟩) hS (fun q _ h => hF q h) hF (fun r1 u t H1 locs1 ht hvm hw hB hz1 hk1 hS1 => ?_)
  subst hw
  exact kk H1 locs1 ⟨fun j q hj => (hP j q hj).kept (hk1 q.1 (hP j q hj).lt (fun h => by
    rcases h with ⟨k2, e2, h2⟩ | h2
    · simp at h2
    · exact absurd (hP j q hj).lt (Nat.not_lt.mpr h2))), hD, hS1⟩
abbrev QR (D : va_G) (cy cz : ClassId) (A : Nat → Prop) (w : va_W) (ad : Nat) : Array Value → State → Outcome → State → Prop := va_Qr (fun (_ : Unit) => True) (fun _ a t => a = ad ∧ Bw D cy cz A w t) A
def CtR (l : Launch) (D : va_G) (cy cz : ClassId) (G : GT) (y : MethodName) (cc : ByteArray) (n : Nat) (rt : Option FieldType) (fr lo : Nat) (av : List Value) (w w' : va_W) (r : Nat) : Prop := ∀ sz, Met l y (wz y cc n rt) (rmz fr lo) (Pw D cy cz G av w sz) (QR D cy cz (va_A w sz) w' r) 0 0 (va_A w sz)
theorem ct_r {l : Launch} {D : va_G} {cy cz : ClassId} {G : GT} {cc : ByteArray} {y : MethodName} {n fr lo : Nat} {rt : Option FieldType} {av : List Value} {w w' : va_W} {r : Nat} {own : String} (hy : plainName y.cls = true) (ho : y.cls = own) (hn : (lg_sl av).length ≤ n)
    (body : ∀ (p : Program) (e : Env) (s : State) (m : MethodId) (below : List Frame) (meth : Method) (c : Code) (ls : Array Slot) (A : Nat → Prop), Cx p s m av.toArray c cc n own D cy cz G A → meth.sig.returnType = rt → meth.locks = false → Wd D A s.heap s.heap [] w → lv_has ls n (lv_args 0 av) → W p l e (rmz fr lo) s m av.toArray below meth c s.heap [] 0 0 (MQ below (QR D cy cz A w' r) av.toArray s 0 0 A) (F0 m 0 ls [])) : CtR l D cy cz G y cc n rt fr lo av w w' r := by
  intro sz
  refine Met.ofW (cc := cc) (maxL := n) (ret := rt) hy rfl ?_
  intro p e s m args below meth c s₁ B hml hv
  obtain ⟨rfl, hsz, hP, hK, hD0, hO, hG⟩ := hv
  subst hsz
  have hts := atoms_spec (ws := wz y cc n rt) B.pre
  have hown : s.vm.findClass own = some m.cls := ho ▸ findClass_of_methodNamed B.named
  rw [lg_entry_eq]
  exact body p e s m below meth c _ _ ⟨B.exec, B.bytes, hml, hown, fun w h => hts w (List.mem_cons_of_mem _ h), hK, ⟨hO, hG⟩, fun q h => Or.inr h⟩ B.returns B.notSynchronized ⟨hP, hD0.self, va_S.rf⟩ (lv_entry av hn)
theorem cS_r {y : MethodName} {bytes : ByteArray} {maxL fr lo k index : Nat} {rt : Option FieldType} {As : List Value} {r : Nat} {st0 : List Value} (C : Cx p s m args c cc nL own D cy cz G A) (hW : Wd D A s.heap H locs w)
    (hM : CtR l D cy cz G y bytes maxL rt fr lo As [] [] r) (hq : KS y bytes maxL rt k) (hlk : Cond.methodLink own index y ∈ TB) (hst : st0 = (As.reverse ++ rest)) (hk : As.length = k) (hls : ls.size = nL) (hR : fr + 1 ≤ R.frames ∧ 8 + (maxL + 11) + lo ≤ R.locals) (hcs : cells ≤ R.cells ∧ slots ≤ R.slots) (hrm : (rest.map fun v => v.category).sum ≤ 8) (hdg : decode cc pc = .ok (.invokestatic index, 3))
    (kk : ∀ (H1 : Heap) (locs1 : List Loc), Wd D A s.heap H1 locs1 w → W p l e R s m args below meth c H1 locs1 cells slots Q (F0 m (pc + 3) ls (.ref r :: rest))) : W p l e R s m args below meth c H locs cells slots Q (F0 m pc ls st0) := by
  subst hst
  have hA := C.2.2.2.2.2.2.2
  have hG := C.2.2.2.2.2.2.1
  have hF : ∀ q, va_A [] H.size q → A q := fun q h => by
    rcases h with ⟨k, e, h⟩ | h
    · simp at h
    · exact hA q (Nat.le_trans hW.2.2.1 h)
  obtain ⟨hP, hD, hS⟩ := hW
  obtain ⟨hx, hb, hml, hown, hts, hK, -, -⟩ := C
  refine va_callr (va_runS (As := As) (rest := rest) ⟨hx, hb, hml, hown, hts⟩ (hM H.size) (va_cwS k hts (gi_S hq hlk) rfl rfl rfl ⟨hq.2.2.2.1, hq.2.2.2.2.1, hq.2.2.2.2.2⟩ hR) ⟨pw_blind, fun U hU hw => ⟨rfl, by rw [hU], by rw [hU]; exact (fun k q h => by simp at h), va_K.moved hw.alike hK, ⟨fun i j p q h => by simp at h, fun k q h => by simp at h⟩, hG.1, g_at hG hS hF hU hw⟩⟩ rfl hk hls rfl (lv_room hrm) hdg ⟨hcs.1, hcs.2⟩) hS (fun q _ h => hF q h) hF (fun u r1 t H1 locs1 ht hvm hw hB hz1 hk1 hS1 => ?_)
  obtain ⟨he, hB⟩ := hB
  subst he
  exact kk H1 locs1 ⟨fun j q hj => (hP j q hj).kept (hk1 q.1 (hP j q hj).lt (fun h => by
    rcases h with ⟨k2, e2, h2⟩ | h2
    · simp at h2
    · exact absurd (hP j q hj).lt (Nat.not_lt.mpr h2))), hD, hS1⟩
theorem en_r {r : Nat} {tn : String} (C : Cx p s m args c cc nL own D cy cz G A) (hr : meth.sig.returnType = some (.object tn)) (hlk : meth.locks = false) (hW : Wd D A s.heap H locs w) (hdg : decode cc pc = .ok (.areturn, 1)) : W p l e R s m args below meth c H locs 0 0 (MQ below (QR D cy cz A w r) args s 0 0 A) (F0 m pc ls [.ref r]) :=
  W.aret C.1 C.2.1 hr (Or.inl ⟨tn, rfl⟩) (Or.inr ⟨r, rfl⟩) (fun t ht hw => ⟨⟨(), r, rfl, trivial, rfl, by rw [ht]; exact hW.1, va_K.moved hw.alike C.2.2.2.2.2.1, hW.2.1⟩, hW.2.2.F ht⟩) hW.2.2.2.2 hdg hlk
end TXT
theorem kJ0_coder_7d493 : KM yJ0_coder_7d493 cJ0_coder_7d493 1 (some .byte) 0 := ⟨q631, q632, q77, q633, by decide +kernel, by decide +kernel, by decide +kernel⟩
theorem kJ0_length_8abf5 : KM yJ0_length_8abf5 cJ0_length_8abf5 1 (some .int) 0 := ⟨q627, q628, q77, q629, by decide +kernel, by decide +kernel, by decide +kernel⟩
theorem kJ0_isLatin1_aae02 : KM yJ0_isLatin1_aae02 cJ0_isLatin1_aae02 1 (some .boolean) 0 := ⟨q641, q642, q77, q643, by decide +kernel, by decide +kernel, by decide +kernel⟩
theorem kJ0_charAt_5068e : KM yJ0_charAt_5068e cJ0_charAt_5068e 2 (some .char) 1 := ⟨q637, q638, q77, q639, by decide +kernel, by decide +kernel, by decide +kernel⟩
theorem kJ1_charAt_3b067 : KS yJ1_charAt_3b067 cJ1_charAt_3b067 2 (some .char) 2 := ⟨q645, q78, q646, by decide +kernel, by decide +kernel, by decide +kernel⟩
theorem kJ0_checkIndex_df160 : KS yJ0_checkIndex_df160 cJ0_checkIndex_df160 2 none 2 := ⟨q648, q77, q649, by decide +kernel, by decide +kernel, by decide +kernel⟩
theorem kJ3_checkIndex_8e157 : KS yJ3_checkIndex_8e157 cJ3_checkIndex_8e157 3 (some .int) 3 := ⟨q653, q79, q654, by decide +kernel, by decide +kernel, by decide +kernel⟩
theorem kX0_nameOf : KS yX0_nameOf cX0_nameOf 1 (some (.object "java/lang/String")) 1 := ⟨q613, q73, q614, by decide +kernel, by decide +kernel, by decide +kernel⟩
set_option maxHeartbeats 4000000 in
set_option maxRecDepth 100000 in
theorem c_J0_coder {l : Launch} {D : va_G} {cy cz : ClassId} {G : GT} {z : ZT} {k : Nat} (hg : GH G z) (hk : k < 11) : CtI l D cy cz G yJ0_coder_7d493 cJ0_coder_7d493 1 (some .byte) 0 0 [.ref (z.2.1 k)] ([] : va_W) ([] : va_W) 0 := by
  refine ct_i (own := "java/lang/String") (by decide) rfl (Nat.le_of_ble_eq_true rfl) ?_
  intro p e s m below meth c ls A C hr hlk hW hl
  have hx := C.1
  have hb := C.2.1
  have hF := hg A s s.heap C.2.2.2.2.2.2.1.2
  have hl : lv_has ls 1 [(0, .ref (z.2.1 k))] := hl
  refine va_gets hx hb hF.2.2.2.2.1 hW.2.2 C.2.2.2.1 (C.2.2.2.2.1 _ q634) (fun _ h9 => h9) dJ0_coder_7d493_0 ?_
  refine lv_if_eq (tgt := 13) hx hb dJ0_coder_7d493_3 (by decide) (fun h => absurd h (by decide)) (fun _ => ?_)
  refine lv_aload_n hx hb dJ0_coder_7d493_6 rfl (lv_at hl 0 rfl) ?_
  refine vk_getf hx hb (hF.2.2.1.1 k hk).2.1 hW.2.2 C.2.2.2.1 (C.2.2.2.2.1 _ q1295) (fun _ h9 => h9) dJ0_coder_7d493_7 ?_
  refine lv_goto (tgt := 14) hx hb dJ0_coder_7d493_10 (by decide) ?_
  exact en_t C hr hlk rfl hW dJ0_coder_7d493_14
set_option maxHeartbeats 4000000 in
set_option maxRecDepth 100000 in
theorem c_J0_length {l : Launch} {D : va_G} {cy cz : ClassId} {G : GT} {z : ZT} {k : Nat} (hg : GH G z) (hk : k < 11) : CtI l D cy cz G yJ0_length_8abf5 cJ0_length_8abf5 1 (some .int) 1 20 [.ref (z.2.1 k)] ([] : va_W) ([] : va_W) (nI (strL.getD k 0)) := by
  have e : nI (strL.getD k 0) >>> ((0 : Int32) &&& 31) = nI (strL.getD k 0) := sb_shr0 _
  rw [← e]
  refine ct_i (own := "java/lang/String") (by decide) rfl (Nat.le_of_ble_eq_true rfl) ?_
  intro p e s m below meth c ls A C hr hlk hW hl
  have hx := C.1
  have hb := C.2.1
  have hF := hg A s s.heap C.2.2.2.2.2.2.1.2
  have hl : lv_has ls 1 [(0, .ref (z.2.1 k))] := hl
  refine lv_aload_n hx hb dJ0_length_8abf5_0 rfl (lv_at hl 0 rfl) ?_
  refine vk_getf hx hb (hF.2.2.1.1 k hk).2.2.1 hW.2.2 C.2.2.2.1 (C.2.2.2.2.1 _ q1294) (fun _ h9 => h9) dJ0_length_8abf5_1 ?_
  refine va_tlen hx hb (hF.2.2.1.1 k hk).2.2.2 hW.2.2 (v := nI (strL.getD k 0)) rfl dJ0_length_8abf5_4 ?_
  refine lv_aload_n hx hb dJ0_length_8abf5_5 rfl (lv_at hl 0 rfl) ?_
  refine cT_i (As := []) (rest := [.int (nI (strL.getD k 0))]) C hW (c_J0_coder hg hk) hk hg rfl kJ0_coder_7d493 q630 rfl rfl hl.1 ⟨Nat.le_of_ble_eq_true rfl, Nat.le_of_ble_eq_true rfl⟩ ⟨Nat.le_refl 0, Nat.le_refl 0⟩ (Nat.le_of_ble_eq_true rfl) dJ0_length_8abf5_6 (fun H locs hW => ?_)
  refine lv_ishr hx hb dJ0_length_8abf5_9 ?_
  exact en_i C hr hlk hW dJ0_length_8abf5_10
set_option maxHeartbeats 4000000 in
set_option maxRecDepth 100000 in
theorem c_J0_isLatin1 {l : Launch} {D : va_G} {cy cz : ClassId} {G : GT} {z : ZT} {k : Nat} (hg : GH G z) (hk : k < 11) : CtI l D cy cz G yJ0_isLatin1_aae02 cJ0_isLatin1_aae02 1 (some .boolean) 0 0 [.ref (z.2.1 k)] ([] : va_W) ([] : va_W) 1 := by
  refine ct_i (own := "java/lang/String") (by decide) rfl (Nat.le_of_ble_eq_true rfl) ?_
  intro p e s m below meth c ls A C hr hlk hW hl
  have hx := C.1
  have hb := C.2.1
  have hF := hg A s s.heap C.2.2.2.2.2.2.1.2
  have hl : lv_has ls 1 [(0, .ref (z.2.1 k))] := hl
  refine va_gets hx hb hF.2.2.2.2.1 hW.2.2 C.2.2.2.1 (C.2.2.2.2.1 _ q634) (fun _ h9 => h9) dJ0_isLatin1_aae02_0 ?_
  refine lv_if_eq (tgt := 17) hx hb dJ0_isLatin1_aae02_3 (by decide) (fun h => absurd h (by decide)) (fun _ => ?_)
  refine lv_aload_n hx hb dJ0_isLatin1_aae02_6 rfl (lv_at hl 0 rfl) ?_
  refine vk_getf hx hb (hF.2.2.1.1 k hk).2.1 hW.2.2 C.2.2.2.1 (C.2.2.2.2.1 _ q1295) (fun _ h9 => h9) dJ0_isLatin1_aae02_7 ?_
  refine lv_if_ne (tgt := 17) hx hb dJ0_isLatin1_aae02_10 (by decide) (fun h => absurd rfl h) (fun _ => ?_)
  refine lv_iconst (v := 1) hx hb dJ0_isLatin1_aae02_13 (by decide) ?_
  refine lv_goto (tgt := 18) hx hb dJ0_isLatin1_aae02_14 (by decide) ?_
  exact en_t C hr hlk rfl hW dJ0_isLatin1_aae02_18
set_option maxHeartbeats 4000000 in
set_option maxRecDepth 100000 in
theorem c_J3_checkIndex_n {l : Launch} {D : va_G} {cy cz : ClassId} {G : GT} {i n : Int32} (h0 : ¬ i < 0) (h1 : i < n) : CtI l D cy cz G yJ3_checkIndex_8e157 cJ3_checkIndex_8e157 3 (some .int) 0 0 [.int i, .int n, .null] ([] : va_W) ([] : va_W) i := by
  refine ct_i (own := "jdk/internal/util/Preconditions") (by decide) rfl (Nat.le_of_ble_eq_true rfl) ?_
  intro p e s m below meth c ls A C hr hlk hW hl
  have hx := C.1
  have hb := C.2.1
  have hl : lv_has ls 3 [(0, .int i), (1, .int n), (2, .null)] := hl
  refine lv_iload_n hx hb dJ3_checkIndex_8e157_0 rfl (lv_at hl 0 rfl) ?_
  refine lv_if_lt (tgt := 9) hx hb dJ3_checkIndex_8e157_1 (by decide) (fun h => absurd h h0) (fun _ => ?_)
  refine lv_iload_n hx hb dJ3_checkIndex_8e157_4 rfl (lv_at hl 0 rfl) ?_
  refine lv_iload_n hx hb dJ3_checkIndex_8e157_5 rfl (lv_at hl 1 rfl) ?_
  refine lv_icmp_lt (tgt := 16) hx hb dJ3_checkIndex_8e157_6 (by decide) (fun _ => ?_) (fun h => absurd h1 h)
  refine lv_iload_n hx hb dJ3_checkIndex_8e157_16 rfl (lv_at hl 0 rfl) ?_
  exact en_i C hr hlk hW dJ3_checkIndex_8e157_17
set_option maxHeartbeats 4000000 in
set_option maxRecDepth 100000 in
theorem c_J3_checkIndex_r {l : Launch} {D : va_G} {cy cz : ClassId} {G : GT} {t : Nat} {i n : Int32} (h0 : ¬ i < 0) (h1 : i < n) : CtI l D cy cz G yJ3_checkIndex_8e157 cJ3_checkIndex_8e157 3 (some .int) 0 0 [.int i, .int n, .ref t] ([] : va_W) ([] : va_W) i := by
  refine ct_i (own := "jdk/internal/util/Preconditions") (by decide) rfl (Nat.le_of_ble_eq_true rfl) ?_
  intro p e s m below meth c ls A C hr hlk hW hl
  have hx := C.1
  have hb := C.2.1
  have hl : lv_has ls 3 [(0, .int i), (1, .int n), (2, .ref t)] := hl
  refine lv_iload_n hx hb dJ3_checkIndex_8e157_0 rfl (lv_at hl 0 rfl) ?_
  refine lv_if_lt (tgt := 9) hx hb dJ3_checkIndex_8e157_1 (by decide) (fun h => absurd h h0) (fun _ => ?_)
  refine lv_iload_n hx hb dJ3_checkIndex_8e157_4 rfl (lv_at hl 0 rfl) ?_
  refine lv_iload_n hx hb dJ3_checkIndex_8e157_5 rfl (lv_at hl 1 rfl) ?_
  refine lv_icmp_lt (tgt := 16) hx hb dJ3_checkIndex_8e157_6 (by decide) (fun _ => ?_) (fun h => absurd h1 h)
  refine lv_iload_n hx hb dJ3_checkIndex_8e157_16 rfl (lv_at hl 0 rfl) ?_
  exact en_i C hr hlk hW dJ3_checkIndex_8e157_17
set_option maxHeartbeats 4000000 in
set_option maxRecDepth 100000 in
theorem c_J0_checkIndex {l : Launch} {D : va_G} {cy cz : ClassId} {G : GT} {z : ZT} {i n : Int32} (hg : GH G z) (h0 : ¬ i < 0) (h1 : i < n) : CtV l D cy cz G yJ0_checkIndex_df160 cJ0_checkIndex_df160 2 none 1 22 [.int i, .int n] ([] : va_W) ([] : va_W) () := by
  refine ct_v (own := "java/lang/String") (by decide) rfl (Nat.le_of_ble_eq_true rfl) ?_
  intro p e s m below meth c ls A C hr hlk hW hl
  have hx := C.1
  have hb := C.2.1
  have hF := hg A s s.heap C.2.2.2.2.2.2.1.2
  have hl : lv_has ls 2 [(0, .int i), (1, .int n)] := hl
  refine lv_iload_n hx hb dJ0_checkIndex_df160_0 rfl (lv_at hl 0 rfl) ?_
  refine lv_iload_n hx hb dJ0_checkIndex_df160_1 rfl (lv_at hl 1 rfl) ?_
  rcases hF.2.2.2.2.2 with hz | ⟨t, hz⟩
  · refine va_gets (v := .null) hx hb hz hW.2.2 C.2.2.2.1 (C.2.2.2.2.1 _ q650) (fun _ h9 => h9) dJ0_checkIndex_df160_2 ?_
    refine cS_i (As := [.int i, .int n, .null]) (rest := []) C hW (c_J3_checkIndex_n h0 h1) kJ3_checkIndex_8e157 q652 rfl rfl hl.1 ⟨Nat.le_of_ble_eq_true rfl, Nat.le_of_ble_eq_true rfl⟩ ⟨Nat.le_refl 0, Nat.le_refl 0⟩ (Nat.le_of_ble_eq_true rfl) dJ0_checkIndex_df160_5 (fun H locs hW => ?_)
    refine lv_pop hx hb dJ0_checkIndex_df160_8 rfl ?_
    exact en_v C hr hlk hW dJ0_checkIndex_df160_9
  · refine va_gets (v := .ref t) hx hb hz hW.2.2 C.2.2.2.1 (C.2.2.2.2.1 _ q650) (fun _ h9 => h9) dJ0_checkIndex_df160_2 ?_
    refine cS_i (As := [.int i, .int n, .ref t]) (rest := []) C hW (c_J3_checkIndex_r h0 h1) kJ3_checkIndex_8e157 q652 rfl rfl hl.1 ⟨Nat.le_of_ble_eq_true rfl, Nat.le_of_ble_eq_true rfl⟩ ⟨Nat.le_refl 0, Nat.le_refl 0⟩ (Nat.le_of_ble_eq_true rfl) dJ0_checkIndex_df160_5 (fun H locs hW => ?_)
    refine lv_pop hx hb dJ0_checkIndex_df160_8 rfl ?_
    exact en_v C hr hlk hW dJ0_checkIndex_df160_9
/-- a text's byte at a place, as charAt tells it -/
def chs (k : Nat) (i : Int32) : Int32 := ((((strB.getD k []).getD i.toNatClampNeg 0) &&& 255).toUInt32 % 65536).toInt32
theorem strL_lt (k : Nat) (hk : k < 11) : strL.getD k 0 < 100 := by
  rcases (show k = 0 ∨ k = 1 ∨ k = 2 ∨ k = 3 ∨ k = 4 ∨ k = 5 ∨ k = 6 ∨ k = 7 ∨ k = 8 ∨ k = 9 ∨ k = 10 by omega) with rfl | rfl | rfl | rfl | rfl | rfl | rfl | rfl | rfl | rfl | rfl <;> decide
theorem str_in {k : Nat} {i : Int32} (hk : k < 11) (hi : vp_in i (strL.getD k 0)) : ¬ i < 0 ∧ i < nI (strL.getD k 0) := by
  have h1 := strL_lt k hk
  obtain ⟨j, hj, rfl⟩ := vp_in_of hi (by omega)
  exact ⟨nI_pos (by omega), nI_lt hj (by omega)⟩
set_option maxHeartbeats 4000000 in
set_option maxRecDepth 100000 in
theorem c_J1_charAt {l : Launch} {D : va_G} {cy cz : ClassId} {G : GT} {z : ZT} {k : Nat} {i : Int32} (hg : GH G z) (hk : k < 11) (hi : vp_in i (strL.getD k 0)) : CtI l D cy cz G yJ1_charAt_3b067 cJ1_charAt_3b067 2 (some .char) 2 43 [.ref (z.2.2 k), .int i] ([] : va_W) ([] : va_W) (chs k i) := by
  unfold chs
  refine ct_i (own := "java/lang/StringLatin1") (by decide) rfl (Nat.le_of_ble_eq_true rfl) ?_
  intro p e s m below meth c ls A C hr hlk hW hl
  have hx := C.1
  have hb := C.2.1
  have hF := hg A s s.heap C.2.2.2.2.2.2.1.2
  have hl : lv_has ls 2 [(0, .ref (z.2.2 k)), (1, .int i)] := hl
  have hT := (hF.2.2.1.1 k hk).2.2.2
  have hs := str_in hk hi
  refine lv_iload_n hx hb dJ1_charAt_3b067_0 rfl (lv_at hl 1 rfl) ?_
  refine lv_aload_n hx hb dJ1_charAt_3b067_1 rfl (lv_at hl 0 rfl) ?_
  refine va_tlen hx hb hT hW.2.2 (v := nI (strL.getD k 0)) rfl dJ1_charAt_3b067_2 ?_
  refine cS_v (As := [.int i, .int (nI (strL.getD k 0))]) (rest := []) C hW (c_J0_checkIndex hg hs.1 hs.2) kJ0_checkIndex_df160 q647 rfl rfl hl.1 ⟨Nat.le_of_ble_eq_true rfl, Nat.le_of_ble_eq_true rfl⟩ ⟨Nat.le_refl 0, Nat.le_refl 0⟩ (Nat.le_of_ble_eq_true rfl) dJ1_charAt_3b067_3 (fun H locs hW => ?_)
  refine lv_aload_n hx hb dJ1_charAt_3b067_6 rfl (lv_at hl 0 rfl) ?_
  refine lv_iload_n hx hb dJ1_charAt_3b067_7 rfl (lv_at hl 1 rfl) ?_
  refine va_tb hx hb hT hW.2.2 hi rfl dJ1_charAt_3b067_8 ?_
  refine lv_sipush (v := 255) hx hb dJ1_charAt_3b067_9 (by decide) ?_
  refine lv_iand hx hb dJ1_charAt_3b067_12 ?_
  refine lv_i2c hx hb dJ1_charAt_3b067_13 rfl ?_
  exact en_t C hr hlk (pk_nc _) hW dJ1_charAt_3b067_14
set_option maxHeartbeats 4000000 in
set_option maxRecDepth 100000 in
theorem c_J0_charAt {l : Launch} {D : va_G} {cy cz : ClassId} {G : GT} {z : ZT} {k : Nat} {i : Int32} (hg : GH G z) (hk : k < 11) (hi : vp_in i (strL.getD k 0)) : CtI l D cy cz G yJ0_charAt_5068e cJ0_charAt_5068e 2 (some .char) 3 64 [.ref (z.2.1 k), .int i] ([] : va_W) ([] : va_W) (chs k i) := by
  refine ct_i (own := "java/lang/String") (by decide) rfl (Nat.le_of_ble_eq_true rfl) ?_
  intro p e s m below meth c ls A C hr hlk hW hl
  have hx := C.1
  have hb := C.2.1
  have hF := hg A s s.heap C.2.2.2.2.2.2.1.2
  have hl : lv_has ls 2 [(0, .ref (z.2.1 k)), (1, .int i)] := hl
  refine lv_aload_n hx hb dJ0_charAt_5068e_0 rfl (lv_at hl 0 rfl) ?_
  refine cT_i (As := []) (rest := []) C hW (c_J0_isLatin1 hg hk) hk hg rfl kJ0_isLatin1_aae02 q640 rfl rfl hl.1 ⟨Nat.le_of_ble_eq_true rfl, Nat.le_of_ble_eq_true rfl⟩ ⟨Nat.le_refl 0, Nat.le_refl 0⟩ (Nat.le_of_ble_eq_true rfl) dJ0_charAt_5068e_1 (fun H locs hW => ?_)
  refine lv_if_eq (tgt := 16) hx hb dJ0_charAt_5068e_4 (by decide) (fun h => absurd h (by decide)) (fun _ => ?_)
  refine lv_aload_n hx hb dJ0_charAt_5068e_7 rfl (lv_at hl 0 rfl) ?_
  refine vk_getf hx hb (hF.2.2.1.1 k hk).2.2.1 hW.2.2 C.2.2.2.1 (C.2.2.2.2.1 _ q1294) (fun _ h9 => h9) dJ0_charAt_5068e_8 ?_
  refine lv_iload_n hx hb dJ0_charAt_5068e_11 rfl (lv_at hl 1 rfl) ?_
  refine cS_i (As := [.ref (z.2.2 k), .int i]) (rest := []) C hW (c_J1_charAt hg hk hi) kJ1_charAt_3b067 q644 rfl rfl hl.1 ⟨Nat.le_of_ble_eq_true rfl, Nat.le_of_ble_eq_true rfl⟩ ⟨Nat.le_refl 0, Nat.le_refl 0⟩ (Nat.le_of_ble_eq_true rfl) dJ0_charAt_5068e_12 (fun H locs hW => ?_)
  exact en_t C hr hlk (pk_nc _) hW dJ0_charAt_5068e_15
def nmi (p1 : Int32) : Nat := if p1 = 1 then 0 else if p1 = 2 then 1 else if p1 = 3 then 2 else if p1 = 4 then 3 else if p1 = 5 then 4 else if p1 = 6 then 5 else 6
theorem nmi_lt (p1 : Int32) : nmi p1 < 11 := by
  unfold nmi
  repeat' split
  all_goals omega
set_option maxHeartbeats 4000000 in
set_option maxRecDepth 100000 in
theorem c_X0_nameOf {l : Launch} {D : va_G} {cy cz : ClassId} {G : GT} {z : ZT} {p1 : Int32} (hg : GH G z) : CtR l D cy cz G yX0_nameOf cX0_nameOf 1 (some (.object "java/lang/String")) 0 0 [.int p1] ([] : va_W) ([] : va_W) (z.2.1 (nmi p1)) := by
  refine ct_r (own := "PumpTalk$Kinds") (by decide) rfl (Nat.le_of_ble_eq_true rfl) ?_
  intro p e s m below meth c ls A C hr hlk hW hl
  have hx := C.1
  have hb := C.2.1
  have hF := hg A s s.heap C.2.2.2.2.2.2.1.2
  have hl : lv_has ls 1 [(0, .int p1)] := hl
  unfold nmi
  refine lv_iload_n hx hb dX0_nameOf_0 rfl (lv_at hl 0 rfl) ?_
  by_cases ht1 : p1 = (1 : Int32)
  · rw [if_pos ht1]
    refine lv_tableIn (tgt := 40) (off := 39) hx hb dX0_nameOf_1 (by rw [ht1]; decide) (by rw [ht1]; decide) (by rw [ht1]; rfl) (by decide) ?_
    refine va_ldcS hx hb C.2.2.2.1 (hF.2.2.2.1.1) dX0_nameOf_40 ?_
    exact en_r C hr hlk hW dX0_nameOf_42
  · rw [if_neg ht1]
    by_cases ht2 : p1 = (2 : Int32)
    · rw [if_pos ht2]
      refine lv_tableIn (tgt := 43) (off := 42) hx hb dX0_nameOf_1 (by rw [ht2]; decide) (by rw [ht2]; decide) (by rw [ht2]; rfl) (by decide) ?_
      refine va_ldcS hx hb C.2.2.2.1 (hF.2.2.2.1.2.1) dX0_nameOf_43 ?_
      exact en_r C hr hlk hW dX0_nameOf_45
    · rw [if_neg ht2]
      by_cases ht3 : p1 = (3 : Int32)
      · rw [if_pos ht3]
        refine lv_tableIn (tgt := 46) (off := 45) hx hb dX0_nameOf_1 (by rw [ht3]; decide) (by rw [ht3]; decide) (by rw [ht3]; rfl) (by decide) ?_
        refine va_ldcS hx hb C.2.2.2.1 (hF.2.2.2.1.2.2.1) dX0_nameOf_46 ?_
        exact en_r C hr hlk hW dX0_nameOf_48
      · rw [if_neg ht3]
        by_cases ht4 : p1 = (4 : Int32)
        · rw [if_pos ht4]
          refine lv_tableIn (tgt := 49) (off := 48) hx hb dX0_nameOf_1 (by rw [ht4]; decide) (by rw [ht4]; decide) (by rw [ht4]; rfl) (by decide) ?_
          refine va_ldcS hx hb C.2.2.2.1 (hF.2.2.2.1.2.2.2.1) dX0_nameOf_49 ?_
          exact en_r C hr hlk hW dX0_nameOf_51
        · rw [if_neg ht4]
          by_cases ht5 : p1 = (5 : Int32)
          · rw [if_pos ht5]
            refine lv_tableIn (tgt := 52) (off := 51) hx hb dX0_nameOf_1 (by rw [ht5]; decide) (by rw [ht5]; decide) (by rw [ht5]; rfl) (by decide) ?_
            refine va_ldcS hx hb C.2.2.2.1 (hF.2.2.2.1.2.2.2.2.1) dX0_nameOf_52 ?_
            exact en_r C hr hlk hW dX0_nameOf_54
          · rw [if_neg ht5]
            by_cases ht6 : p1 = (6 : Int32)
            · rw [if_pos ht6]
              refine lv_tableIn (tgt := 55) (off := 54) hx hb dX0_nameOf_1 (by rw [ht6]; decide) (by rw [ht6]; decide) (by rw [ht6]; rfl) (by decide) ?_
              refine va_ldcS hx hb C.2.2.2.1 (hF.2.2.2.1.2.2.2.2.2.1) dX0_nameOf_55 ?_
              exact en_r C hr hlk hW dX0_nameOf_57
            · rw [if_neg ht6]
              refine lv_tableOut (tgt := 58) hx hb dX0_nameOf_1 (by have ht := tab_out (x := p1) 1 6 (by decide) (fun k hk => by rcases (show k = 0 ∨ k = 1 ∨ k = 2 ∨ k = 3 ∨ k = 4 ∨ k = 5 by omega) with rfl | rfl | rfl | rfl | rfl | rfl <;> first | exact ht1 | exact ht2 | exact ht3 | exact ht4 | exact ht5 | exact ht6); omega) (by decide) ?_
              refine va_ldcS hx hb C.2.2.2.1 (hF.2.2.2.1.2.2.2.2.2.2.1) dX0_nameOf_58 ?_
              exact en_r C hr hlk hW dX0_nameOf_60
