/-! the base: states as tables of ints, a method's context, its world, contracts that tell world and answer outright, calls by them -/
abbrev MS : Type := Nat → Nat → Int32
def su (σ : MS) (k j : Nat) (v : Int32) : MS := va_up σ k (upd (σ k) j v)
def sr (σ : MS) (k : Nat) (f : Nat → Int32) : MS := va_up σ k f
/-- facts of what lies outside a method's own cells: kept where nothing outside is written -/
abbrev GT : Type := (Nat → Prop) → State → Heap → Prop
def GOk (G : GT) : Prop := (∀ (A : Nat → Prop) (u U : State) (H : Heap), u.WarmedH U.vm → G A u H → G A U H) ∧ (∀ (A : Nat → Prop) (U : State) (H H1 : Heap), (∀ a : Nat, a < H.size → ¬ A a → H1[a]? = H[a]?) → G A U H → G A U H1) ∧ (∀ (A B : Nat → Prop) (U : State) (H : Heap), (∀ q, B q → A q) → G A U H → G B U H)
abbrev tyz (cy cz : ClassId) : List (ClassId × FieldType) := [(cy, .int), (cz, .object "PumpTalk$Sheet")]
abbrev Cx (p : Program) (s : State) (m : MethodId) (args : Array Value) (c : Code) (cc : ByteArray) (nL : Nat) (own : String) (D : va_G) (cy cz : ClassId) (G : GT) (A : Nat → Prop) : Prop :=
  p.tables.exec = Jvm.exec ∧ c.code = cc ∧ c.maxLocals = nL ∧ s.vm.findClass own = some m.cls ∧ (∀ w ∈ TB, w.before args s = true) ∧ va_K D vwCl (tyz cy cz) s ∧ (GOk G ∧ G A s s.heap) ∧ (∀ q, s.heap.size ≤ q → A q)
def Wd (D : va_G) (A : Nat → Prop) (H0 H : Heap) (locs : List Loc) (w : va_W) : Prop := va_P D vwCl w H ∧ va_D A w ∧ va_S A H0 H locs
abbrev wz (y : MethodName) (cc : ByteArray) (n : Nat) (rt : Option FieldType) : List Cond := .code y cc n rt :: TB
abbrev rmz (fr lo : Nat) : Room := { frames := fr, cells := 0, slots := 0, locals := lo }
def Pw (D : va_G) (cy cz : ClassId) (G : GT) (av : List Value) (w : va_W) (sz : Nat) : Array Value → State → Prop := va_Pc av (fun U => U.heap.size = sz ∧ va_P D vwCl w U.heap ∧ va_K D vwCl (tyz cy cz) U ∧ va_D (fun _ => True) w ∧ GOk G ∧ G (va_A w sz) U U.heap)
def Bw (D : va_G) (cy cz : ClassId) (A : Nat → Prop) (w : va_W) (t : State) : Prop := va_P D vwCl w t.heap ∧ va_K D vwCl (tyz cy cz) t ∧ va_D A w
abbrev QI (D : va_G) (cy cz : ClassId) (A : Nat → Prop) (w : va_W) (r : Int32) : Array Value → State → Outcome → State → Prop := va_Qi (fun r' (_ : Unit) => r' = r) (fun _ t => Bw D cy cz A w t) A
abbrev QL (D : va_G) (cy cz : ClassId) (A : Nat → Prop) (w : va_W) (r : Int64) : Array Value → State → Outcome → State → Prop := va_Ql (fun r' (_ : Unit) => r' = r) (fun _ t => Bw D cy cz A w t) A
abbrev QV (D : va_G) (cy cz : ClassId) (A : Nat → Prop) (w : va_W) (_ : Unit) : Array Value → State → Outcome → State → Prop := va_Qv (fun (_ : Unit) => True) (fun _ t => Bw D cy cz A w t) A
def CtI (l : Launch) (D : va_G) (cy cz : ClassId) (G : GT) (y : MethodName) (cc : ByteArray) (n : Nat) (rt : Option FieldType) (fr lo : Nat) (av : List Value) (w w' : va_W) (r : Int32) : Prop := ∀ sz, Met l y (wz y cc n rt) (rmz fr lo) (Pw D cy cz G av w sz) (QI D cy cz (va_A w sz) w' r) 0 0 (va_A w sz)
def CtL (l : Launch) (D : va_G) (cy cz : ClassId) (G : GT) (y : MethodName) (cc : ByteArray) (n : Nat) (rt : Option FieldType) (fr lo : Nat) (av : List Value) (w w' : va_W) (r : Int64) : Prop := ∀ sz, Met l y (wz y cc n rt) (rmz fr lo) (Pw D cy cz G av w sz) (QL D cy cz (va_A w sz) w' r) 0 0 (va_A w sz)
def CtV (l : Launch) (D : va_G) (cy cz : ClassId) (G : GT) (y : MethodName) (cc : ByteArray) (n : Nat) (rt : Option FieldType) (fr lo : Nat) (av : List Value) (w w' : va_W) (r : Unit) : Prop := ∀ sz, Met l y (wz y cc n rt) (rmz fr lo) (Pw D cy cz G av w sz) (QV D cy cz (va_A w sz) w' r) 0 0 (va_A w sz)
/-- what a callee's words must be, of an instance's method and of a static one -/
abbrev KM (y : MethodName) (cc : ByteArray) (n : Nat) (rt : Option FieldType) (k : Nat) : Prop := Cond.instanceMethod y ∈ TB ∧ Cond.selects y.cls y y ∈ TB ∧ Cond.initialized y.cls ∈ TB ∧ Cond.code y cc n rt ∈ TB ∧ y.cls ≠ "java/lang/invoke/MethodHandle" ∧ y.cls ≠ "java/lang/invoke/VarHandle" ∧ (parseMethodDescriptor y.desc).map (fun d => d.parameters.length) = some k
abbrev KS (y : MethodName) (cc : ByteArray) (n : Nat) (rt : Option FieldType) (k : Nat) : Prop := Cond.static y ∈ TB ∧ Cond.initialized y.cls ∈ TB ∧ Cond.code y cc n rt ∈ TB ∧ y.cls ≠ "java/lang/invoke/MethodHandle" ∧ y.cls ≠ "java/lang/invoke/VarHandle" ∧ (parseMethodDescriptor y.desc).map (fun d => d.parameters.length) = some k
theorem gi_V {own C : String} {idx n k : Nat} {y : MethodName} {cc : ByteArray} {rt : Option FieldType} (h : KM y cc n rt k) (hl : Cond.methodLink own idx y ∈ TB) (hC : C = y.cls) : GoodIn TB (wsV own idx C y (wz y cc n rt)) := by
  subst hC
  intro w hw
  have hm : w ∈ TB := by
    rcases List.mem_append.mp hw with h1 | h1
    · simp only [List.mem_cons, List.not_mem_nil, or_false] at h1
      rcases h1 with rfl | rfl | rfl | rfl
      · exact hl
      · exact h.1
      · exact h.2.1
      · exact h.2.2.1
    · rcases List.mem_cons.mp h1 with rfl | h1
      · exact h.2.2.2.1
      · exact h1
  exact ⟨hm, tb_good hm⟩
theorem gi_S {own : String} {idx n k : Nat} {y : MethodName} {cc : ByteArray} {rt : Option FieldType} (h : KS y cc n rt k) (hl : Cond.methodLink own idx y ∈ TB) : GoodIn TB (va_wsS own idx y (wz y cc n rt)) := by
  intro w hw
  have hm : w ∈ TB := by
    rcases List.mem_append.mp hw with h1 | h1
    · simp only [List.mem_cons, List.not_mem_nil, or_false] at h1
      rcases h1 with rfl | rfl | rfl
      · exact hl
      · exact h.1
      · exact h.2.1
    · rcases List.mem_cons.mp h1 with rfl | h1
      · exact h.2.2.1
      · exact h1
  exact ⟨hm, tb_good hm⟩
theorem gi_0 {n : Nat} {y : MethodName} {cc : ByteArray} {rt : Option FieldType} (h : Cond.code y cc n rt ∈ TB) : GoodIn TB (wz y cc n rt) := by
  intro w hw
  have hm : w ∈ TB := by
    rcases List.mem_cons.mp hw with rfl | h1
    · exact h
    · exact h1
  exact ⟨hm, tb_good hm⟩
theorem wd_free {D : va_G} {A : Nat → Prop} {H0 H : Heap} {locs : List Loc} {w : va_W} (h : Wd D A H0 H locs w) (hA : ∀ q, H0.size ≤ q → A q) : ∀ q, va_A w H.size q → A q := by
  intro q hq
  rcases hq with ⟨k, e, h1⟩ | h1
  · exact h.2.1.2 k (q, e) h1
  · exact hA q (Nat.le_trans h.2.2.1 h1)
theorem pw_blind {D : va_G} {cy cz : ClassId} {G : GT} {av : List Value} {w : va_W} {sz : Nat} : FrameBlind (Pw D cy cz G av w sz) := fun a U g mk q => by
  obtain ⟨q0, q1, qP, qK, qD, qO, qG⟩ := q
  exact ⟨q0, q1, qP, va_K.moved (u := U) (U := U.calling g mk a) (Vm.Alike.refl U.vm) qK, qD, qO, qO.1 _ U (U.calling g mk a) _ (State.WarmedH.refl U) qG⟩
/-- what lies outside, at a call -/
theorem g_at {G : GT} {A B : Nat → Prop} {s U : State} {H : Heap} {locs : List Loc} (hG : GOk G ∧ G A s s.heap) (hS : va_S A s.heap H locs) (hF : ∀ q, B q → A q) (hU : U.heap = H) (hvm : s.WarmedH U.vm) : G B U U.heap := by
  rw [hU]
  exact hG.1.1 _ s U _ hvm (hG.1.2.2 A B s H hF (hG.1.2.1 A s s.heap H (fun a h1 h2 => hS.2.1 a h1 h2) hG.2))
theorem va_psub {D : va_G} {cl : List vw_C} {ws ws' : va_W} {H : Heap} (h : va_P D cl ws H) (is : List Nat) (hs : is.map (fun i => ws[i]?) = ws'.map some) : va_P D cl ws' H := by
  intro k q hq
  have h1 : (is.map (fun i => ws[i]?))[k]? = some (some q) := by rw [hs, List.getElem?_map, hq]; rfl
  rw [List.getElem?_map] at h1
  cases hi : is[k]? with
  | none => rw [hi] at h1; cases h1
  | some i => rw [hi] at h1; exact h i q (Option.some.inj h1)
theorem va_dsub {A : Nat → Prop} {ws ws' : va_W} (h : va_D A ws) (is : List Nat) (hs : is.map (fun i => ws[i]?) = ws'.map some) (hn : va_nd is = true) : va_D (fun _ => True) ws' := (h.sub is hn hs).weaken (fun _ _ _ _ => trivial)
theorem ct_i {l : Launch} {D : va_G} {cy cz : ClassId} {G : GT} {cc : ByteArray} {y : MethodName} {n fr lo : Nat} {rt : Option FieldType} {av : List Value} {w w' : va_W} {r : Int32} {own : String} (hy : plainName y.cls = true) (ho : y.cls = own) (hn : (lg_sl av).length ≤ n)
    (body : ∀ (p : Program) (e : Env) (s : State) (m : MethodId) (below : List Frame) (meth : Method) (c : Code) (ls : Array Slot) (A : Nat → Prop), Cx p s m av.toArray c cc n own D cy cz G A → meth.sig.returnType = rt → meth.locks = false → Wd D A s.heap s.heap [] w → lv_has ls n (lv_args 0 av) → W p l e (rmz fr lo) s m av.toArray below meth c s.heap [] 0 0 (MQ below (QI D cy cz A w' r) av.toArray s 0 0 A) (F0 m 0 ls [])) : CtI l D cy cz G y cc n rt fr lo av w w' r := by
  intro sz
  refine Met.ofW (cc := cc) (maxL := n) (ret := rt) hy rfl ?_
  intro p e s m args below meth c s₁ B hml hv
  obtain ⟨rfl, hsz, hP, hK, hD0, hO, hG⟩ := hv
  subst hsz
  have hts := atoms_spec (ws := wz y cc n rt) B.pre
  have hown : s.vm.findClass own = some m.cls := ho ▸ findClass_of_methodNamed B.named
  rw [lg_entry_eq]
  exact body p e s m below meth c _ _ ⟨B.exec, B.bytes, hml, hown, fun w h => hts w (List.mem_cons_of_mem _ h), hK, ⟨hO, hG⟩, fun q h => Or.inr h⟩ B.returns B.notSynchronized ⟨hP, hD0.self, va_S.rf⟩ (lv_entry av hn)
theorem ct_l {l : Launch} {D : va_G} {cy cz : ClassId} {G : GT} {cc : ByteArray} {y : MethodName} {n fr lo : Nat} {rt : Option FieldType} {av : List Value} {w w' : va_W} {r : Int64} {own : String} (hy : plainName y.cls = true) (ho : y.cls = own) (hn : (lg_sl av).length ≤ n)
    (body : ∀ (p : Program) (e : Env) (s : State) (m : MethodId) (below : List Frame) (meth : Method) (c : Code) (ls : Array Slot) (A : Nat → Prop), Cx p s m av.toArray c cc n own D cy cz G A → meth.sig.returnType = rt → meth.locks = false → Wd D A s.heap s.heap [] w → lv_has ls n (lv_args 0 av) → W p l e (rmz fr lo) s m av.toArray below meth c s.heap [] 0 0 (MQ below (QL D cy cz A w' r) av.toArray s 0 0 A) (F0 m 0 ls [])) : CtL l D cy cz G y cc n rt fr lo av w w' r := by
  intro sz
  refine Met.ofW (cc := cc) (maxL := n) (ret := rt) hy rfl ?_
  intro p e s m args below meth c s₁ B hml hv
  obtain ⟨rfl, hsz, hP, hK, hD0, hO, hG⟩ := hv
  subst hsz
  have hts := atoms_spec (ws := wz y cc n rt) B.pre
  have hown : s.vm.findClass own = some m.cls := ho ▸ findClass_of_methodNamed B.named
  rw [lg_entry_eq]
  exact body p e s m below meth c _ _ ⟨B.exec, B.bytes, hml, hown, fun w h => hts w (List.mem_cons_of_mem _ h), hK, ⟨hO, hG⟩, fun q h => Or.inr h⟩ B.returns B.notSynchronized ⟨hP, hD0.self, va_S.rf⟩ (lv_entry av hn)
theorem ct_v {l : Launch} {D : va_G} {cy cz : ClassId} {G : GT} {cc : ByteArray} {y : MethodName} {n fr lo : Nat} {rt : Option FieldType} {av : List Value} {w w' : va_W} {r : Unit} {own : String} (hy : plainName y.cls = true) (ho : y.cls = own) (hn : (lg_sl av).length ≤ n)
    (body : ∀ (p : Program) (e : Env) (s : State) (m : MethodId) (below : List Frame) (meth : Method) (c : Code) (ls : Array Slot) (A : Nat → Prop), Cx p s m av.toArray c cc n own D cy cz G A → meth.sig.returnType = rt → meth.locks = false → Wd D A s.heap s.heap [] w → lv_has ls n (lv_args 0 av) → W p l e (rmz fr lo) s m av.toArray below meth c s.heap [] 0 0 (MQ below (QV D cy cz A w' r) av.toArray s 0 0 A) (F0 m 0 ls [])) : CtV l D cy cz G y cc n rt fr lo av w w' r := by
  intro sz
  refine Met.ofW (cc := cc) (maxL := n) (ret := rt) hy rfl ?_
  intro p e s m args below meth c s₁ B hml hv
  obtain ⟨rfl, hsz, hP, hK, hD0, hO, hG⟩ := hv
  subst hsz
  have hts := atoms_spec (ws := wz y cc n rt) B.pre
  have hown : s.vm.findClass own = some m.cls := ho ▸ findClass_of_methodNamed B.named
  rw [lg_entry_eq]
  exact body p e s m below meth c _ _ ⟨B.exec, B.bytes, hml, hown, fun w h => hts w (List.mem_cons_of_mem _ h), hK, ⟨hO, hG⟩, fun q h => Or.inr h⟩ B.returns B.notSynchronized ⟨hP, hD0.self, va_S.rf⟩ (lv_entry av hn)
section BASE
variable {p : Program} {l : Launch} {e : Env} {s : State} {m : MethodId} {below : List Frame} {meth : Method} {c : Code} {cc : ByteArray} {D : va_G} {cy cz : ClassId} {G : GT} {A : Nat → Prop} {H : Heap} {locs : List Loc} {ls : Array Slot} {args : Array Value} {R : Room} {nL pc : Nat} {own : String} {w w' wc wc' wr : va_W} {rest : List Value} {Q : State → Prop} {cells slots : Nat}
theorem en_i {r : Int32} (C : Cx p s m args c cc nL own D cy cz G A) (hr : meth.sig.returnType = some .int) (hlk : meth.locks = false) (hW : Wd D A s.heap H locs w) (hdg : decode cc pc = .ok (.ireturn, 1)) : W p l e R s m args below meth c H locs 0 0 (MQ below (QI D cy cz A w r) args s 0 0 A) (F0 m pc ls [.int r]) :=
  W.iret (v := r) C.1 C.2.1 hr (fun t ht hw => ⟨⟨r, (), rfl, rfl, by rw [ht]; exact hW.1, va_K.moved hw.alike C.2.2.2.2.2.1, hW.2.1⟩, hW.2.2.F ht⟩) hW.2.2.2.2 hdg hlk
theorem en_z {r : Int32} (C : Cx p s m args c cc nL own D cy cz G A) (hr : meth.sig.returnType = some .boolean) (hlk : meth.locks = false) (hz : narrow .boolean (.int r) = .int r) (hW : Wd D A s.heap H locs w) (hdg : decode cc pc = .ok (.ireturn, 1)) : W p l e R s m args below meth c H locs 0 0 (MQ below (QI D cy cz A w r) args s 0 0 A) (F0 m pc ls [.int r]) :=
  W.zret (v := r) C.1 C.2.1 hr hz (fun t ht hw => ⟨⟨r, (), rfl, rfl, by rw [ht]; exact hW.1, va_K.moved hw.alike C.2.2.2.2.2.1, hW.2.1⟩, hW.2.2.F ht⟩) hW.2.2.2.2 hdg hlk
theorem en_l {r : Int64} (C : Cx p s m args c cc nL own D cy cz G A) (hr : meth.sig.returnType = some .long) (hlk : meth.locks = false) (hW : Wd D A s.heap H locs w) (hdg : decode cc pc = .ok (.lreturn, 1)) : W p l e R s m args below meth c H locs 0 0 (MQ below (QL D cy cz A w r) args s 0 0 A) (F0 m pc ls [.long r]) :=
  W.lret (v := r) C.1 C.2.1 hr (fun t ht hw => ⟨⟨r, (), rfl, rfl, by rw [ht]; exact hW.1, va_K.moved hw.alike C.2.2.2.2.2.1, hW.2.1⟩, hW.2.2.F ht⟩) hW.2.2.2.2 hdg hlk
theorem en_v {r : Unit} (C : Cx p s m args c cc nL own D cy cz G A) (hr : meth.sig.returnType = none) (hlk : meth.locks = false) (hW : Wd D A s.heap H locs w) (hdg : decode cc pc = .ok (.return_, 1)) : W p l e R s m args below meth c H locs 0 0 (MQ below (QV D cy cz A w r) args s 0 0 A) (F0 m pc ls []) :=
  W.vret C.1 C.2.1 hr (fun t ht hw => ⟨⟨(), rfl, trivial, by rw [ht]; exact hW.1, va_K.moved hw.alike C.2.2.2.2.2.1, hW.2.1⟩, hW.2.2.F ht⟩) hW.2.2.2.2 hdg hlk
theorem cs_i {y : MethodName} {bytes : ByteArray} {maxL fr lo k index ci q0 : Nat} {rt : Option FieldType} {b : Nat} {As fs : List Value} {q : vw_C} {r : Int32} {st0 : List Value} (C : Cx p s m args c cc nL own D cy cz G A) (hW : Wd D A s.heap H locs w)
    (hM : CtI l D cy cz G y bytes maxL rt fr lo (.ref b :: As) w w' r) (hq : KM y bytes maxL rt k) (hlk : Cond.methodLink own index y ∈ TB) (he : w[q0]? = some (b, .inr (ci, fs))) (hc : vwCl[ci]? = some q) (hqc : q.1 = y.cls) (hst : st0 = (As.reverse ++ .ref b :: rest)) (hk : As.length = k) (hls : ls.size = nL) (hR : fr + 1 ≤ R.frames ∧ 8 + (maxL + 11) + lo ≤ R.locals) (hcs : cells ≤ R.cells ∧ slots ≤ R.slots) (hrm : (rest.map fun v => v.category).sum ≤ 8) (hdg : decode cc pc = .ok (.invokevirtual index, 3))
    (kk : ∀ (H1 : Heap) (locs1 : List Loc), Wd D A s.heap H1 locs1 w' → W p l e R s m args below meth c H1 locs1 cells slots Q (F0 m (pc + 3) ls (.int r :: rest))) : W p l e R s m args below meth c H locs cells slots Q (F0 m pc ls st0) := by
  subst hst
  have hA := C.2.2.2.2.2.2.2
  have hG := C.2.2.2.2.2.2.1
  have hF := wd_free hW hA
  obtain ⟨hP, hD, hS⟩ := hW
  obtain ⟨hx, hb, hml, hown, hts, hK, -, -⟩ := C
  refine va_calli (va_runV (C := y.cls) (As := As) (rest := rest) ⟨hx, hb, hml, hown, hts⟩ (hM H.size) (cwV k hts (gi_V hq hlk rfl) rfl rfl rfl ⟨rfl, hq.2.2.2.2.1, hq.2.2.2.2.2.1, hq.2.2.2.2.2.2⟩ hR) ⟨pw_blind, by rw [← hqc]; exact va_recv hK hP hc he, fun U hU hw => ⟨rfl, by rw [hU], by rw [hU]; exact hP, va_K.moved hw.alike hK, hD.weaken (fun _ _ _ _ => trivial), hG.1, g_at hG hS hF hU hw⟩⟩ rfl hk hls rfl (lv_room hrm) hdg ⟨hcs.1, hcs.2⟩) hS (fun q _ h => hF q h) hF (fun r1 u t H1 locs1 ht hvm hw hB hz1 hk1 hS1 => ?_)
  subst hw
  exact kk H1 locs1 ⟨by rw [← ht]; exact hB.1, hB.2.2.weaken (fun _ _ _ h => hF _ h), hS1⟩
theorem cp_i {y : MethodName} {bytes : ByteArray} {maxL fr lo k index ci q0 : Nat} {rt : Option FieldType} {b : Nat} {As fs : List Value} {q : vw_C} {r : Int32} {st0 : List Value} (C : Cx p s m args c cc nL own D cy cz G A) (hW : Wd D A s.heap H locs w)
    (hM : CtI l D cy cz G y bytes maxL rt fr lo (.ref b :: As) wc wc' r) (hq : KM y bytes maxL rt k) (hlk : Cond.methodLink own index y ∈ TB) (isC isR pm : List Nat) (hC : isC.map (fun i => w[i]?) = wc.map some) (hRr : isR.map (fun i => w[i]?) = wr.map some) (hn : va_nd isR = true) (hdis : ∀ i ∈ isR, i ∉ isC) (hpm : pm.map (fun i => (wr ++ wc')[i]?) = w'.map some) (hpn : va_nd pm = true) (hcn : va_nd isC = true) (he : wc[q0]? = some (b, .inr (ci, fs))) (hc : vwCl[ci]? = some q) (hqc : q.1 = y.cls) (hst : st0 = (As.reverse ++ .ref b :: rest)) (hk : As.length = k) (hls : ls.size = nL) (hR : fr + 1 ≤ R.frames ∧ 8 + (maxL + 11) + lo ≤ R.locals) (hcs : cells ≤ R.cells ∧ slots ≤ R.slots) (hrm : (rest.map fun v => v.category).sum ≤ 8) (hdg : decode cc pc = .ok (.invokevirtual index, 3))
    (kk : ∀ (H1 : Heap) (locs1 : List Loc), Wd D A s.heap H1 locs1 w' → W p l e R s m args below meth c H1 locs1 cells slots Q (F0 m (pc + 3) ls (.int r :: rest))) : W p l e R s m args below meth c H locs cells slots Q (F0 m pc ls st0) := by
  subst hst
  have hA := C.2.2.2.2.2.2.2
  have hG := C.2.2.2.2.2.2.1
  have hF := va_free (wc := wc) hW.2.1 hW.2.2 hA isC hC
  obtain ⟨hP, hD, hS⟩ := hW
  obtain ⟨hx, hb, hml, hown, hts, hK, -, -⟩ := C
  have hPc : va_P D vwCl wc H := va_psub hP isC hC
  have hDc : va_D (fun _ => True) wc := va_dsub hD isC hC hcn
  refine va_calli (va_runV (C := y.cls) (As := As) (rest := rest) ⟨hx, hb, hml, hown, hts⟩ (hM H.size) (cwV k hts (gi_V hq hlk rfl) rfl rfl rfl ⟨rfl, hq.2.2.2.2.1, hq.2.2.2.2.2.1, hq.2.2.2.2.2.2⟩ hR) ⟨pw_blind, by rw [← hqc]; exact va_recv hK hPc hc he, fun U hU hw => ⟨rfl, by rw [hU], by rw [hU]; exact hPc, va_K.moved hw.alike hK, hDc, hG.1, g_at hG hS hF hU hw⟩⟩ rfl hk hls rfl (lv_room hrm) hdg ⟨hcs.1, hcs.2⟩) hS (fun q _ h => hF q h) hF (fun r1 u t H1 locs1 ht hvm hw hB hz1 hk1 hS1 => ?_)
  subst hw
  have hP1 : va_P D vwCl wc' H1 := by rw [← ht]; exact hB.1
  obtain ⟨hP2, hD2⟩ := va_join (wr := wr) (w1 := wc') hP hD isC isR hC hRr hn hdis hk1 hF hP1 hB.2.2
  exact kk H1 locs1 ⟨va_psub hP2 pm hpm, hD2.sub pm hpn hpm, hS1⟩
theorem cS_i {y : MethodName} {bytes : ByteArray} {maxL fr lo k index : Nat} {rt : Option FieldType} {As : List Value} {r : Int32} {st0 : List Value} (C : Cx p s m args c cc nL own D cy cz G A) (hW : Wd D A s.heap H locs w)
    (hM : CtI l D cy cz G y bytes maxL rt fr lo As [] [] r) (hq : KS y bytes maxL rt k) (hlk : Cond.methodLink own index y ∈ TB) (hst : st0 = (As.reverse ++ rest)) (hk : As.length = k) (hls : ls.size = nL) (hR : fr + 1 ≤ R.frames ∧ 8 + (maxL + 11) + lo ≤ R.locals) (hcs : cells ≤ R.cells ∧ slots ≤ R.slots) (hrm : (rest.map fun v => v.category).sum ≤ 8) (hdg : decode cc pc = .ok (.invokestatic index, 3))
    (kk : ∀ (H1 : Heap) (locs1 : List Loc), Wd D A s.heap H1 locs1 w → W p l e R s m args below meth c H1 locs1 cells slots Q (F0 m (pc + 3) ls (.int r :: rest))) : W p l e R s m args below meth c H locs cells slots Q (F0 m pc ls st0) := by
  subst hst
  have hA := C.2.2.2.2.2.2.2
  have hG := C.2.2.2.2.2.2.1
  have hF : ∀ q, va_A [] H.size q → A q := fun q h => by
    rcases h with ⟨k, e, h⟩ | h
    · simp at h
    · exact hA q (Nat.le_trans hW.2.2.1 h)
  obtain ⟨hP, hD, hS⟩ := hW
  obtain ⟨hx, hb, hml, hown, hts, hK, -, -⟩ := C
  refine va_calli (va_runS (As := As) (rest := rest) ⟨hx, hb, hml, hown, hts⟩ (hM H.size) (va_cwS k hts (gi_S hq hlk) rfl rfl rfl ⟨hq.2.2.2.1, hq.2.2.2.2.1, hq.2.2.2.2.2⟩ hR) ⟨pw_blind, fun U hU hw => ⟨rfl, by rw [hU], by rw [hU]; exact (fun k q h => by simp at h), va_K.moved hw.alike hK, ⟨fun i j p q h => by simp at h, fun k q h => by simp at h⟩, hG.1, g_at hG hS hF hU hw⟩⟩ rfl hk hls rfl (lv_room hrm) hdg ⟨hcs.1, hcs.2⟩) hS (fun q _ h => hF q h) hF (fun r1 u t H1 locs1 ht hvm hw hB hz1 hk1 hS1 => ?_)
  subst hw
  exact kk H1 locs1 ⟨fun j q hj => (hP j q hj).kept (hk1 q.1 (hP j q hj).lt (fun h => by
    rcases h with ⟨k2, e2, h2⟩ | h2
    · simp at h2
    · exact absurd (hP j q hj).lt (Nat.not_lt.mpr h2))), hD, hS1⟩
theorem cs_l {y : MethodName} {bytes : ByteArray} {maxL fr lo k index ci q0 : Nat} {rt : Option FieldType} {b : Nat} {As fs : List Value} {q : vw_C} {r : Int64} {st0 : List Value} (C : Cx p s m args c cc nL own D cy cz G A) (hW : Wd D A s.heap H locs w)
    (hM : CtL l D cy cz G y bytes maxL rt fr lo (.ref b :: As) w w' r) (hq : KM y bytes maxL rt k) (hlk : Cond.methodLink own index y ∈ TB) (he : w[q0]? = some (b, .inr (ci, fs))) (hc : vwCl[ci]? = some q) (hqc : q.1 = y.cls) (hst : st0 = (As.reverse ++ .ref b :: rest)) (hk : As.length = k) (hls : ls.size = nL) (hR : fr + 1 ≤ R.frames ∧ 8 + (maxL + 11) + lo ≤ R.locals) (hcs : cells ≤ R.cells ∧ slots ≤ R.slots) (hrm : (rest.map fun v => v.category).sum ≤ 8) (hdg : decode cc pc = .ok (.invokevirtual index, 3))
    (kk : ∀ (H1 : Heap) (locs1 : List Loc), Wd D A s.heap H1 locs1 w' → W p l e R s m args below meth c H1 locs1 cells slots Q (F0 m (pc + 3) ls (.long r :: rest))) : W p l e R s m args below meth c H locs cells slots Q (F0 m pc ls st0) := by
  subst hst
  have hA := C.2.2.2.2.2.2.2
  have hG := C.2.2.2.2.2.2.1
  have hF := wd_free hW hA
  obtain ⟨hP, hD, hS⟩ := hW
  obtain ⟨hx, hb, hml, hown, hts, hK, -, -⟩ := C
  refine va_calll (va_runV (C := y.cls) (As := As) (rest := rest) ⟨hx, hb, hml, hown, hts⟩ (hM H.size) (cwV k hts (gi_V hq hlk rfl) rfl rfl rfl ⟨rfl, hq.2.2.2.2.1, hq.2.2.2.2.2.1, hq.2.2.2.2.2.2⟩ hR) ⟨pw_blind, by rw [← hqc]; exact va_recv hK hP hc he, fun U hU hw => ⟨rfl, by rw [hU], by rw [hU]; exact hP, va_K.moved hw.alike hK, hD.weaken (fun _ _ _ _ => trivial), hG.1, g_at hG hS hF hU hw⟩⟩ rfl hk hls rfl (lv_room hrm) hdg ⟨hcs.1, hcs.2⟩) hS (fun q _ h => hF q h) hF (fun r1 u t H1 locs1 ht hvm hw hB hz1 hk1 hS1 => ?_)
  subst hw
  exact kk H1 locs1 ⟨by rw [← ht]; exact hB.1, hB.2.2.weaken (fun _ _ _ h => hF _ h), hS1⟩
theorem cp_l {y : MethodName} {bytes : ByteArray} {maxL fr lo k index ci q0 : Nat} {rt : Option FieldType} {b : Nat} {As fs : List Value} {q : vw_C} {r : Int64} {st0 : List Value} (C : Cx p s m args c cc nL own D cy cz G A) (hW : Wd D A s.heap H locs w)
    (hM : CtL l D cy cz G y bytes maxL rt fr lo (.ref b :: As) wc wc' r) (hq : KM y bytes maxL rt k) (hlk : Cond.methodLink own index y ∈ TB) (isC isR pm : List Nat) (hC : isC.map (fun i => w[i]?) = wc.map some) (hRr : isR.map (fun i => w[i]?) = wr.map some) (hn : va_nd isR = true) (hdis : ∀ i ∈ isR, i ∉ isC) (hpm : pm.map (fun i => (wr ++ wc')[i]?) = w'.map some) (hpn : va_nd pm = true) (hcn : va_nd isC = true) (he : wc[q0]? = some (b, .inr (ci, fs))) (hc : vwCl[ci]? = some q) (hqc : q.1 = y.cls) (hst : st0 = (As.reverse ++ .ref b :: rest)) (hk : As.length = k) (hls : ls.size = nL) (hR : fr + 1 ≤ R.frames ∧ 8 + (maxL + 11) + lo ≤ R.locals) (hcs : cells ≤ R.cells ∧ slots ≤ R.slots) (hrm : (rest.map fun v => v.category).sum ≤ 8) (hdg : decode cc pc = .ok (.invokevirtual index, 3))
    (kk : ∀ (H1 : Heap) (locs1 : List Loc), Wd D A s.heap H1 locs1 w' → W p l e R s m args below meth c H1 locs1 cells slots Q (F0 m (pc + 3) ls (.long r :: rest))) : W p l e R s m args below meth c H locs cells slots Q (F0 m pc ls st0) := by
  subst hst
  have hA := C.2.2.2.2.2.2.2
  have hG := C.2.2.2.2.2.2.1
  have hF := va_free (wc := wc) hW.2.1 hW.2.2 hA isC hC
  obtain ⟨hP, hD, hS⟩ := hW
  obtain ⟨hx, hb, hml, hown, hts, hK, -, -⟩ := C
  have hPc : va_P D vwCl wc H := va_psub hP isC hC
  have hDc : va_D (fun _ => True) wc := va_dsub hD isC hC hcn
  refine va_calll (va_runV (C := y.cls) (As := As) (rest := rest) ⟨hx, hb, hml, hown, hts⟩ (hM H.size) (cwV k hts (gi_V hq hlk rfl) rfl rfl rfl ⟨rfl, hq.2.2.2.2.1, hq.2.2.2.2.2.1, hq.2.2.2.2.2.2⟩ hR) ⟨pw_blind, by rw [← hqc]; exact va_recv hK hPc hc he, fun U hU hw => ⟨rfl, by rw [hU], by rw [hU]; exact hPc, va_K.moved hw.alike hK, hDc, hG.1, g_at hG hS hF hU hw⟩⟩ rfl hk hls rfl (lv_room hrm) hdg ⟨hcs.1, hcs.2⟩) hS (fun q _ h => hF q h) hF (fun r1 u t H1 locs1 ht hvm hw hB hz1 hk1 hS1 => ?_)
  subst hw
  have hP1 : va_P D vwCl wc' H1 := by rw [← ht]; exact hB.1
  obtain ⟨hP2, hD2⟩ := va_join (wr := wr) (w1 := wc') hP hD isC isR hC hRr hn hdis hk1 hF hP1 hB.2.2
  exact kk H1 locs1 ⟨va_psub hP2 pm hpm, hD2.sub pm hpn hpm, hS1⟩
theorem cS_l {y : MethodName} {bytes : ByteArray} {maxL fr lo k index : Nat} {rt : Option FieldType} {As : List Value} {r : Int64} {st0 : List Value} (C : Cx p s m args c cc nL own D cy cz G A) (hW : Wd D A s.heap H locs w)
    (hM : CtL l D cy cz G y bytes maxL rt fr lo As [] [] r) (hq : KS y bytes maxL rt k) (hlk : Cond.methodLink own index y ∈ TB) (hst : st0 = (As.reverse ++ rest)) (hk : As.length = k) (hls : ls.size = nL) (hR : fr + 1 ≤ R.frames ∧ 8 + (maxL + 11) + lo ≤ R.locals) (hcs : cells ≤ R.cells ∧ slots ≤ R.slots) (hrm : (rest.map fun v => v.category).sum ≤ 8) (hdg : decode cc pc = .ok (.invokestatic index, 3))
    (kk : ∀ (H1 : Heap) (locs1 : List Loc), Wd D A s.heap H1 locs1 w → W p l e R s m args below meth c H1 locs1 cells slots Q (F0 m (pc + 3) ls (.long r :: rest))) : W p l e R s m args below meth c H locs cells slots Q (F0 m pc ls st0) := by
  subst hst
  have hA := C.2.2.2.2.2.2.2
  have hG := C.2.2.2.2.2.2.1
  have hF : ∀ q, va_A [] H.size q → A q := fun q h => by
    rcases h with ⟨k, e, h⟩ | h
    · simp at h
    · exact hA q (Nat.le_trans hW.2.2.1 h)
  obtain ⟨hP, hD, hS⟩ := hW
  obtain ⟨hx, hb, hml, hown, hts, hK, -, -⟩ := C
  refine va_calll (va_runS (As := As) (rest := rest) ⟨hx, hb, hml, hown, hts⟩ (hM H.size) (va_cwS k hts (gi_S hq hlk) rfl rfl rfl ⟨hq.2.2.2.1, hq.2.2.2.2.1, hq.2.2.2.2.2⟩ hR) ⟨pw_blind, fun U hU hw => ⟨rfl, by rw [hU], by rw [hU]; exact (fun k q h => by simp at h), va_K.moved hw.alike hK, ⟨fun i j p q h => by simp at h, fun k q h => by simp at h⟩, hG.1, g_at hG hS hF hU hw⟩⟩ rfl hk hls rfl (lv_room hrm) hdg ⟨hcs.1, hcs.2⟩) hS (fun q _ h => hF q h) hF (fun r1 u t H1 locs1 ht hvm hw hB hz1 hk1 hS1 => ?_)
  subst hw
  exact kk H1 locs1 ⟨fun j q hj => (hP j q hj).kept (hk1 q.1 (hP j q hj).lt (fun h => by
    rcases h with ⟨k2, e2, h2⟩ | h2
    · simp at h2
    · exact absurd (hP j q hj).lt (Nat.not_lt.mpr h2))), hD, hS1⟩
theorem cs_v {y : MethodName} {bytes : ByteArray} {maxL fr lo k index ci q0 : Nat} {rt : Option FieldType} {b : Nat} {As fs : List Value} {q : vw_C} {r : Unit} {st0 : List Value} (C : Cx p s m args c cc nL own D cy cz G A) (hW : Wd D A s.heap H locs w)
    (hM : CtV l D cy cz G y bytes maxL rt fr lo (.ref b :: As) w w' r) (hq : KM y bytes maxL rt k) (hlk : Cond.methodLink own index y ∈ TB) (he : w[q0]? = some (b, .inr (ci, fs))) (hc : vwCl[ci]? = some q) (hqc : q.1 = y.cls) (hst : st0 = (As.reverse ++ .ref b :: rest)) (hk : As.length = k) (hls : ls.size = nL) (hR : fr + 1 ≤ R.frames ∧ 8 + (maxL + 11) + lo ≤ R.locals) (hcs : cells ≤ R.cells ∧ slots ≤ R.slots) (hrm : (rest.map fun v => v.category).sum ≤ 8) (hdg : decode cc pc = .ok (.invokevirtual index, 3))
    (kk : ∀ (H1 : Heap) (locs1 : List Loc), Wd D A s.heap H1 locs1 w' → W p l e R s m args below meth c H1 locs1 cells slots Q (F0 m (pc + 3) ls (rest))) : W p l e R s m args below meth c H locs cells slots Q (F0 m pc ls st0) := by
  subst hst
  have hA := C.2.2.2.2.2.2.2
  have hG := C.2.2.2.2.2.2.1
  have hF := wd_free hW hA
  obtain ⟨hP, hD, hS⟩ := hW
  obtain ⟨hx, hb, hml, hown, hts, hK, -, -⟩ := C
  refine va_callv (va_runV (C := y.cls) (As := As) (rest := rest) ⟨hx, hb, hml, hown, hts⟩ (hM H.size) (cwV k hts (gi_V hq hlk rfl) rfl rfl rfl ⟨rfl, hq.2.2.2.2.1, hq.2.2.2.2.2.1, hq.2.2.2.2.2.2⟩ hR) ⟨pw_blind, by rw [← hqc]; exact va_recv hK hP hc he, fun U hU hw => ⟨rfl, by rw [hU], by rw [hU]; exact hP, va_K.moved hw.alike hK, hD.weaken (fun _ _ _ _ => trivial), hG.1, g_at hG hS hF hU hw⟩⟩ rfl hk hls rfl (lv_room hrm) hdg ⟨hcs.1, hcs.2⟩) hS (fun q _ h => hF q h) hF (fun u t H1 locs1 ht hvm hw hB hz1 hk1 hS1 => ?_)
  exact kk H1 locs1 ⟨by rw [← ht]; exact hB.1, hB.2.2.weaken (fun _ _ _ h => hF _ h), hS1⟩
theorem cp_v {y : MethodName} {bytes : ByteArray} {maxL fr lo k index ci q0 : Nat} {rt : Option FieldType} {b : Nat} {As fs : List Value} {q : vw_C} {r : Unit} {st0 : List Value} (C : Cx p s m args c cc nL own D cy cz G A) (hW : Wd D A s.heap H locs w)
    (hM : CtV l D cy cz G y bytes maxL rt fr lo (.ref b :: As) wc wc' r) (hq : KM y bytes maxL rt k) (hlk : Cond.methodLink own index y ∈ TB) (isC isR pm : List Nat) (hC : isC.map (fun i => w[i]?) = wc.map some) (hRr : isR.map (fun i => w[i]?) = wr.map some) (hn : va_nd isR = true) (hdis : ∀ i ∈ isR, i ∉ isC) (hpm : pm.map (fun i => (wr ++ wc')[i]?) = w'.map some) (hpn : va_nd pm = true) (hcn : va_nd isC = true) (he : wc[q0]? = some (b, .inr (ci, fs))) (hc : vwCl[ci]? = some q) (hqc : q.1 = y.cls) (hst : st0 = (As.reverse ++ .ref b :: rest)) (hk : As.length = k) (hls : ls.size = nL) (hR : fr + 1 ≤ R.frames ∧ 8 + (maxL + 11) + lo ≤ R.locals) (hcs : cells ≤ R.cells ∧ slots ≤ R.slots) (hrm : (rest.map fun v => v.category).sum ≤ 8) (hdg : decode cc pc = .ok (.invokevirtual index, 3))
    (kk : ∀ (H1 : Heap) (locs1 : List Loc), Wd D A s.heap H1 locs1 w' → W p l e R s m args below meth c H1 locs1 cells slots Q (F0 m (pc + 3) ls (rest))) : W p l e R s m args below meth c H locs cells slots Q (F0 m pc ls st0) := by
  subst hst
  have hA := C.2.2.2.2.2.2.2
  have hG := C.2.2.2.2.2.2.1
  have hF := va_free (wc := wc) hW.2.1 hW.2.2 hA isC hC
  obtain ⟨hP, hD, hS⟩ := hW
  obtain ⟨hx, hb, hml, hown, hts, hK, -, -⟩ := C
  have hPc : va_P D vwCl wc H := va_psub hP isC hC
  have hDc : va_D (fun _ => True) wc := va_dsub hD isC hC hcn
  refine va_callv (va_runV (C := y.cls) (As := As) (rest := rest) ⟨hx, hb, hml, hown, hts⟩ (hM H.size) (cwV k hts (gi_V hq hlk rfl) rfl rfl rfl ⟨rfl, hq.2.2.2.2.1, hq.2.2.2.2.2.1, hq.2.2.2.2.2.2⟩ hR) ⟨pw_blind, by rw [← hqc]; exact va_recv hK hPc hc he, fun U hU hw => ⟨rfl, by rw [hU], by rw [hU]; exact hPc, va_K.moved hw.alike hK, hDc, hG.1, g_at hG hS hF hU hw⟩⟩ rfl hk hls rfl (lv_room hrm) hdg ⟨hcs.1, hcs.2⟩) hS (fun q _ h => hF q h) hF (fun u t H1 locs1 ht hvm hw hB hz1 hk1 hS1 => ?_)
  have hP1 : va_P D vwCl wc' H1 := by rw [← ht]; exact hB.1
  obtain ⟨hP2, hD2⟩ := va_join (wr := wr) (w1 := wc') hP hD isC isR hC hRr hn hdis hk1 hF hP1 hB.2.2
  exact kk H1 locs1 ⟨va_psub hP2 pm hpm, hD2.sub pm hpn hpm, hS1⟩
theorem cS_v {y : MethodName} {bytes : ByteArray} {maxL fr lo k index : Nat} {rt : Option FieldType} {As : List Value} {r : Unit} {st0 : List Value} (C : Cx p s m args c cc nL own D cy cz G A) (hW : Wd D A s.heap H locs w)
    (hM : CtV l D cy cz G y bytes maxL rt fr lo As [] [] r) (hq : KS y bytes maxL rt k) (hlk : Cond.methodLink own index y ∈ TB) (hst : st0 = (As.reverse ++ rest)) (hk : As.length = k) (hls : ls.size = nL) (hR : fr + 1 ≤ R.frames ∧ 8 + (maxL + 11) + lo ≤ R.locals) (hcs : cells ≤ R.cells ∧ slots ≤ R.slots) (hrm : (rest.map fun v => v.category).sum ≤ 8) (hdg : decode cc pc = .ok (.invokestatic index, 3))
    (kk : ∀ (H1 : Heap) (locs1 : List Loc), Wd D A s.heap H1 locs1 w → W p l e R s m args below meth c H1 locs1 cells slots Q (F0 m (pc + 3) ls (rest))) : W p l e R s m args below meth c H locs cells slots Q (F0 m pc ls st0) := by
  subst hst
  have hA := C.2.2.2.2.2.2.2
  have hG := C.2.2.2.2.2.2.1
  have hF : ∀ q, va_A [] H.size q → A q := fun q h => by
    rcases h with ⟨k, e, h⟩ | h
    · simp at h
    · exact hA q (Nat.le_trans hW.2.2.1 h)
  obtain ⟨hP, hD, hS⟩ := hW
  obtain ⟨hx, hb, hml, hown, hts, hK, -, -⟩ := C
  refine va_callv (va_runS (As := As) (rest := rest) ⟨hx, hb, hml, hown, hts⟩ (hM H.size) (va_cwS k hts (gi_S hq hlk) rfl rfl rfl ⟨hq.2.2.2.1, hq.2.2.2.2.1, hq.2.2.2.2.2⟩ hR) ⟨pw_blind, fun U hU hw => ⟨rfl, by rw [hU], by rw [hU]; exact (fun k q h => by simp at h), va_K.moved hw.alike hK, ⟨fun i j p q h => by simp at h, fun k q h => by simp at h⟩, hG.1, g_at hG hS hF hU hw⟩⟩ rfl hk hls rfl (lv_room hrm) hdg ⟨hcs.1, hcs.2⟩) hS (fun q _ h => hF q h) hF (fun u t H1 locs1 ht hvm hw hB hz1 hk1 hS1 => ?_)
  exact kk H1 locs1 ⟨fun j q hj => (hP j q hj).kept (hk1 q.1 (hP j q hj).lt (fun h => by
    rcases h with ⟨k2, e2, h2⟩ | h2
    · simp at h2
    · exact absurd (hP j q hj).lt (Nat.not_lt.mpr h2))), hD, hS1⟩
end BASE
