/-! THE CLAIM OUT OF ONE WALK OF THE LAW'S BODY. Your part is whole_start (and what it stands on); all else here is the same for every law, but numbers. -/
def R_law : String := "PumpTalkLaw"
def lw_P (b : Addr) (xs : List Int32) (args : Array Value) (s : State) : Prop := args = #[.ref b] ∧ s.IntsAt b xs ∧ xs.length ≤ 3072 ∧ (Jvm.Cond.and given_1 narrow_1).before args s = true
def lw_Q (_ : Array Value) (s : State) (o : Outcome) (t : State) : Prop := o = .returned (some (.int 1)) ∧ Framed s o t [] 600000 7302250
def lw_Z (below : List Frame) (a : Array Value) (s : State) : State → Prop := fun t => ∃ o, t.status = .running ∧ Ended t below o ∧ lw_Q a s o t
/-- the law's own end, with 1 on the stack, nothing written that was there before, its room as the claim has it -/
theorem lw_ret {p : Program} {l : Launch} {e : Env} {s : State} {m : MethodId} {below : List Frame} {meth : Method} {c : Code} {b : Nat} (hx : p.tables.exec = Jvm.exec) (hb : c.code = code) (hr : meth.sig.returnType = ret) (hlocks : meth.locks = false) {pc : Nat} {H : Heap} {ls : Array Slot} (hdg : decode code pc = .ok (.ireturn, 1)) : W p l e room_1 s m #[Value.ref b] below meth c H [] 600000 7302250 (lw_Z below #[Value.ref b] s) (F0 m pc ls [.int 1]) := by
  intro T hT X
  obtain ⟨fs, hret, hrun, hended, hW, hframe⟩ := X.leave (v := some (.int 1)) (hlocks := hlocks) (fun h => by rw [hr] at h; cases h)
  have hmeth' : T.vm.method? m = some meth := X.method'
  refine ⟨T.setFrames fs, ?_, .returned (some (.int 1)), hrun, hended, rfl, ⟨_, rfl⟩, hW, hframe⟩
  jvm_step X.here [X.here.top, hx, hb, hdg, hmeth', hr, ret, narrow_b1]
  (try refine ⟨rfl, ?_⟩); (try refine ⟨rfl, ?_⟩)
  first | (intro acts; rw [hret _ acts rfl rfl rfl]) | rw [hret _ _ rfl rfl rfl]
  exact Steps.refl _
/-- what holds at the law's entry: the machine, the code, the tables' words (any of lw_tbl by 'hts w (by decide +kernel)'), the script of L ints xs at the cell b, what the Statement gives of the start (any of its parts by flat_of_before) -/
def lw_At (p : Program) (s : State) (m : MethodId) (meth : Method) (c : Code) (b L : Nat) (xs : Nat → Int32) : Prop :=
  p.tables.exec = Jvm.exec ∧ c.code = code ∧ meth.sig.returnType = ret ∧ c.maxLocals = 4 ∧ s.vm.findClass R_law = some m.cls ∧ (∀ w ∈ lw_tbl, w.before #[Value.ref b] s = true) ∧ va_X b L xs s s.heap ∧ b < s.heap.size ∧ meth.locks = false ∧ (Jvm.Cond.and given_1 narrow_1).before #[Value.ref b] s = true
abbrev cLW (o : Nat → Nat → Nat) (a : Nat → Nat) (cy cz : ClassId) (X : XS) (σ : MS) : va_W := [(o 9 0, .inr (4, [.ref (o 0 0), .ref (o 1 0), .ref (o 2 0), .int (X 9 8 3), .ref (o 3 0), .ref (o 4 0), .ref (o 9 7), .ref (o 9 8)])), (o 9 7, .inl (cz, 4, .inr (.inr (.inr (.inr (va_up (va_up (va_up (va_up (fun _ => none) 0 (some (o 5 0))) 1 (some (o 6 0))) 2 (some (o 7 0))) 3 (some (o 8 0)))))))), (o 9 8, .inl (cy, 7, .inl (X 9 7))), (o 0 0, .inr (3, [.ref (o 0 1), .ref (o 0 2), .ref (o 0 3), .ref (o 0 4), .int (X 0 11 4), .int (X 0 11 5), .int (X 0 11 6), .int (X 0 11 7), .int (X 0 11 8), .int (X 0 11 9), .int (X 0 11 10)])), (o 0 1, .inl (cy, 8, .inl (X 0 0))), (o 0 2, .inl (cy, 8, .inl (X 0 1))), (o 0 3, .inl (cy, 48, .inl (X 0 2))), (o 0 4, .inl (cy, 10, .inl (X 0 3))), (o 1 0, .inr (3, [.ref (o 1 1), .ref (o 1 2), .ref (o 1 3), .ref (o 1 4), .int (X 1 11 4), .int (X 1 11 5), .int (X 1 11 6), .int (X 1 11 7), .int (X 1 11 8), .int (X 1 11 9), .int (X 1 11 10)])), (o 1 1, .inl (cy, 8, .inl (X 1 0))), (o 1 2, .inl (cy, 8, .inl (X 1 1))), (o 1 3, .inl (cy, 48, .inl (X 1 2))), (o 1 4, .inl (cy, 10, .inl (X 1 3))), (o 2 0, .inr (3, [.ref (o 2 1), .ref (o 2 2), .ref (o 2 3), .ref (o 2 4), .int (X 2 11 4), .int (X 2 11 5), .int (X 2 11 6), .int (X 2 11 7), .int (X 2 11 8), .int (X 2 11 9), .int (X 2 11 10)])), (o 2 1, .inl (cy, 8, .inl (X 2 0))), (o 2 2, .inl (cy, 8, .inl (X 2 1))), (o 2 3, .inl (cy, 48, .inl (X 2 2))), (o 2 4, .inl (cy, 10, .inl (X 2 3))), (o 3 0, .inr (1, [.ref (o 3 1), .int (X 3 6 1), .int (X 3 6 2), .int (X 3 6 3), .int (X 3 6 4), .int (X 3 6 5)])), (o 3 1, .inl (cy, 120, .inl (X 3 0))), (o 4 0, .inr (0, [.ref (o 4 1), .ref (o 4 2)])), (o 4 1, .inl (cy, 64, .inl (X 4 0))), (o 4 2, .inl (cy, 256, .inl (X 4 1))), (o 5 0, .inr (2, [.ref (o 5 1), .int (X 5 3 1), .int (X 5 3 2)])), (o 5 1, .inl (cy, 40, .inl (X 5 0))), (o 6 0, .inr (2, [.ref (o 6 1), .int (X 6 3 1), .int (X 6 3 2)])), (o 6 1, .inl (cy, 40, .inl (X 6 0))), (o 7 0, .inr (2, [.ref (o 7 1), .int (X 7 3 1), .int (X 7 3 2)])), (o 7 1, .inl (cy, 40, .inl (X 7 0))), (o 8 0, .inr (2, [.ref (o 8 1), .int (X 8 3 1), .int (X 8 3 2)])), (o 8 1, .inl (cy, 40, .inl (X 8 0))), (a 0, .inr (5, [.ref (a 1), .ref (a 2), .ref (a 3), .ref (a 4), .ref (a 5), .int (σ 22 5), .int (σ 22 6), .ref (a 8), .ref (a 9), .ref (a 10), .int (σ 22 10), .int (σ 22 11), .ref (a 13), .int (σ 22 13), .int (σ 22 14), .int (σ 22 15), .int (σ 22 16), .int (σ 22 17), .ref (a 19), .ref (a 20), .ref (a 21), .ref (a 22)])), (a 1, .inl (cy, 81, .inl (σ 0))), (a 2, .inl (cy, 81, .inl (σ 1))), (a 3, .inl (cy, 81, .inl (σ 2))), (a 4, .inl (cy, 81, .inl (σ 3))), (a 5, .inl (cy, 7, .inl (σ 4))), (a 8, .inl (cy, 64, .inl (σ 7))), (a 9, .inl (cy, 256, .inl (σ 8))), (a 10, .inl (cy, 8, .inl (σ 9))), (a 13, .inl (cy, 120, .inl (σ 12))), (a 19, .inl (cy, 4, .inl (σ 18))), (a 20, .inl (cy, 4, .inl (σ 19))), (a 21, .inl (cy, 160, .inl (σ 20))), (a 22, .inl (cy, 40, .inl (σ 21)))]
section LAW
variable {p : Program} {l : Launch} {e : Env} {s : State} {m : MethodId} {below : List Frame} {meth : Method} {c : Code} {cc : ByteArray} {D : va_G} {cy cz : ClassId} {G : GT} {A : Nat → Prop} {H : Heap} {locs : List Loc} {ls : Array Slot} {args : Array Value} {R : Room} {nL pc : Nat} {own : String} {rest : List Value} {Q : State → Prop} {cells slots : Nat} {o : Nat → Nat → Nat} {a : Nat → Nat} {X X' : XS} {σ σ' : MS}
set_option maxRecDepth 20000 in
theorem cX_i {y : MethodName} {bytes : ByteArray} {maxL fr lo k index : Nat} {rt : Option FieldType} {As : List Value} {r : Int32} {st0 : List Value} (C : Cx p s m args c cc nL own D cy cz G A) (hW : Wd D A s.heap H locs (cLW o a cy cz X σ)) (hM : CtI l D cy cz G y bytes maxL rt fr lo (.ref (o 9 0) :: As) (cPT o cy cz X) (cPT o cy cz X') r) (hq : KM y bytes maxL rt k) (hlk : Cond.methodLink own index y ∈ TB) (hy : "PumpTalk" = y.cls) (hst : st0 = As.reverse ++ .ref (o 9 0) :: rest) (hk : As.length = k) (hls : ls.size = nL) (hR : fr + 1 ≤ R.frames ∧ 8 + (maxL + 11) + lo ≤ R.locals) (hcs : cells ≤ R.cells ∧ slots ≤ R.slots) (hrm : (rest.map fun v => v.category).sum ≤ 8) (hdg : decode cc pc = .ok (.invokevirtual index, 3))
    (kk : ∀ (H1 : Heap) (locs1 : List Loc), Wd D A s.heap H1 locs1 (cLW o a cy cz X' σ) → W p l e R s m args below meth c H1 locs1 cells slots Q (F0 m (pc + 3) ls (.int r :: rest))) : W p l e R s m args below meth c H locs cells slots Q (F0 m pc ls st0) :=
  cp_i (wr := [(a 0, .inr (5, [.ref (a 1), .ref (a 2), .ref (a 3), .ref (a 4), .ref (a 5), .int (σ 22 5), .int (σ 22 6), .ref (a 8), .ref (a 9), .ref (a 10), .int (σ 22 10), .int (σ 22 11), .ref (a 13), .int (σ 22 13), .int (σ 22 14), .int (σ 22 15), .int (σ 22 16), .int (σ 22 17), .ref (a 19), .ref (a 20), .ref (a 21), .ref (a 22)])), (a 1, .inl (cy, 81, .inl (σ 0))), (a 2, .inl (cy, 81, .inl (σ 1))), (a 3, .inl (cy, 81, .inl (σ 2))), (a 4, .inl (cy, 81, .inl (σ 3))), (a 5, .inl (cy, 7, .inl (σ 4))), (a 8, .inl (cy, 64, .inl (σ 7))), (a 9, .inl (cy, 256, .inl (σ 8))), (a 10, .inl (cy, 8, .inl (σ 9))), (a 13, .inl (cy, 120, .inl (σ 12))), (a 19, .inl (cy, 4, .inl (σ 18))), (a 20, .inl (cy, 4, .inl (σ 19))), (a 21, .inl (cy, 160, .inl (σ 20))), (a 22, .inl (cy, 40, .inl (σ 21)))]) (w' := cLW o a cy cz X' σ) (q0 := 0) C hW hM hq hlk [0, 1, 2, 3, 4, 5, 6, 7, 8, 9, 10, 11, 12, 13, 14, 15, 16, 17, 18, 19, 20, 21, 22, 23, 24, 25, 26, 27, 28, 29, 30] [31, 32, 33, 34, 35, 36, 37, 38, 39, 40, 41, 42, 43, 44] [14, 15, 16, 17, 18, 19, 20, 21, 22, 23, 24, 25, 26, 27, 28, 29, 30, 31, 32, 33, 34, 35, 36, 37, 38, 39, 40, 41, 42, 43, 44, 0, 1, 2, 3, 4, 5, 6, 7, 8, 9, 10, 11, 12, 13] rfl rfl (by decide) (by decide) rfl (by decide) (by decide) rfl rfl hy hst hk hls hR hcs hrm hdg kk
set_option maxRecDepth 20000 in
theorem cY_i {y : MethodName} {bytes : ByteArray} {maxL fr lo k index : Nat} {rt : Option FieldType} {As : List Value} {r : Int32} {st0 : List Value} (C : Cx p s m args c cc nL own D cy cz G A) (hW : Wd D A s.heap H locs (cLW o a cy cz X σ)) (hM : CtI l D cy cz G y bytes maxL rt fr lo (.ref (a 0) :: As) (cM a cy σ) (cM a cy σ') r) (hq : KM y bytes maxL rt k) (hlk : Cond.methodLink own index y ∈ TB) (hy : "PumpTalkModel" = y.cls) (hst : st0 = As.reverse ++ .ref (a 0) :: rest) (hk : As.length = k) (hls : ls.size = nL) (hR : fr + 1 ≤ R.frames ∧ 8 + (maxL + 11) + lo ≤ R.locals) (hcs : cells ≤ R.cells ∧ slots ≤ R.slots) (hrm : (rest.map fun v => v.category).sum ≤ 8) (hdg : decode cc pc = .ok (.invokevirtual index, 3))
    (kk : ∀ (H1 : Heap) (locs1 : List Loc), Wd D A s.heap H1 locs1 (cLW o a cy cz X σ') → W p l e R s m args below meth c H1 locs1 cells slots Q (F0 m (pc + 3) ls (.int r :: rest))) : W p l e R s m args below meth c H locs cells slots Q (F0 m pc ls st0) :=
  cp_i (wr := [(o 9 0, .inr (4, [.ref (o 0 0), .ref (o 1 0), .ref (o 2 0), .int (X 9 8 3), .ref (o 3 0), .ref (o 4 0), .ref (o 9 7), .ref (o 9 8)])), (o 9 7, .inl (cz, 4, .inr (.inr (.inr (.inr (va_up (va_up (va_up (va_up (fun _ => none) 0 (some (o 5 0))) 1 (some (o 6 0))) 2 (some (o 7 0))) 3 (some (o 8 0)))))))), (o 9 8, .inl (cy, 7, .inl (X 9 7))), (o 0 0, .inr (3, [.ref (o 0 1), .ref (o 0 2), .ref (o 0 3), .ref (o 0 4), .int (X 0 11 4), .int (X 0 11 5), .int (X 0 11 6), .int (X 0 11 7), .int (X 0 11 8), .int (X 0 11 9), .int (X 0 11 10)])), (o 0 1, .inl (cy, 8, .inl (X 0 0))), (o 0 2, .inl (cy, 8, .inl (X 0 1))), (o 0 3, .inl (cy, 48, .inl (X 0 2))), (o 0 4, .inl (cy, 10, .inl (X 0 3))), (o 1 0, .inr (3, [.ref (o 1 1), .ref (o 1 2), .ref (o 1 3), .ref (o 1 4), .int (X 1 11 4), .int (X 1 11 5), .int (X 1 11 6), .int (X 1 11 7), .int (X 1 11 8), .int (X 1 11 9), .int (X 1 11 10)])), (o 1 1, .inl (cy, 8, .inl (X 1 0))), (o 1 2, .inl (cy, 8, .inl (X 1 1))), (o 1 3, .inl (cy, 48, .inl (X 1 2))), (o 1 4, .inl (cy, 10, .inl (X 1 3))), (o 2 0, .inr (3, [.ref (o 2 1), .ref (o 2 2), .ref (o 2 3), .ref (o 2 4), .int (X 2 11 4), .int (X 2 11 5), .int (X 2 11 6), .int (X 2 11 7), .int (X 2 11 8), .int (X 2 11 9), .int (X 2 11 10)])), (o 2 1, .inl (cy, 8, .inl (X 2 0))), (o 2 2, .inl (cy, 8, .inl (X 2 1))), (o 2 3, .inl (cy, 48, .inl (X 2 2))), (o 2 4, .inl (cy, 10, .inl (X 2 3))), (o 3 0, .inr (1, [.ref (o 3 1), .int (X 3 6 1), .int (X 3 6 2), .int (X 3 6 3), .int (X 3 6 4), .int (X 3 6 5)])), (o 3 1, .inl (cy, 120, .inl (X 3 0))), (o 4 0, .inr (0, [.ref (o 4 1), .ref (o 4 2)])), (o 4 1, .inl (cy, 64, .inl (X 4 0))), (o 4 2, .inl (cy, 256, .inl (X 4 1))), (o 5 0, .inr (2, [.ref (o 5 1), .int (X 5 3 1), .int (X 5 3 2)])), (o 5 1, .inl (cy, 40, .inl (X 5 0))), (o 6 0, .inr (2, [.ref (o 6 1), .int (X 6 3 1), .int (X 6 3 2)])), (o 6 1, .inl (cy, 40, .inl (X 6 0))), (o 7 0, .inr (2, [.ref (o 7 1), .int (X 7 3 1), .int (X 7 3 2)])), (o 7 1, .inl (cy, 40, .inl (X 7 0))), (o 8 0, .inr (2, [.ref (o 8 1), .int (X 8 3 1), .int (X 8 3 2)])), (o 8 1, .inl (cy, 40, .inl (X 8 0)))]) (w' := cLW o a cy cz X σ') (q0 := 0) C hW hM hq hlk [31, 32, 33, 34, 35, 36, 37, 38, 39, 40, 41, 42, 43, 44] [0, 1, 2, 3, 4, 5, 6, 7, 8, 9, 10, 11, 12, 13, 14, 15, 16, 17, 18, 19, 20, 21, 22, 23, 24, 25, 26, 27, 28, 29, 30] [0, 1, 2, 3, 4, 5, 6, 7, 8, 9, 10, 11, 12, 13, 14, 15, 16, 17, 18, 19, 20, 21, 22, 23, 24, 25, 26, 27, 28, 29, 30, 31, 32, 33, 34, 35, 36, 37, 38, 39, 40, 41, 42, 43, 44] rfl rfl (by decide) (by decide) rfl (by decide) (by decide) rfl rfl hy hst hk hls hR hcs hrm hdg kk
set_option maxRecDepth 20000 in
theorem cX_l {y : MethodName} {bytes : ByteArray} {maxL fr lo k index : Nat} {rt : Option FieldType} {As : List Value} {r : Int64} {st0 : List Value} (C : Cx p s m args c cc nL own D cy cz G A) (hW : Wd D A s.heap H locs (cLW o a cy cz X σ)) (hM : CtL l D cy cz G y bytes maxL rt fr lo (.ref (o 9 0) :: As) (cPT o cy cz X) (cPT o cy cz X') r) (hq : KM y bytes maxL rt k) (hlk : Cond.methodLink own index y ∈ TB) (hy : "PumpTalk" = y.cls) (hst : st0 = As.reverse ++ .ref (o 9 0) :: rest) (hk : As.length = k) (hls : ls.size = nL) (hR : fr + 1 ≤ R.frames ∧ 8 + (maxL + 11) + lo ≤ R.locals) (hcs : cells ≤ R.cells ∧ slots ≤ R.slots) (hrm : (rest.map fun v => v.category).sum ≤ 8) (hdg : decode cc pc = .ok (.invokevirtual index, 3))
    (kk : ∀ (H1 : Heap) (locs1 : List Loc), Wd D A s.heap H1 locs1 (cLW o a cy cz X' σ) → W p l e R s m args below meth c H1 locs1 cells slots Q (F0 m (pc + 3) ls (.long r :: rest))) : W p l e R s m args below meth c H locs cells slots Q (F0 m pc ls st0) :=
  cp_l (wr := [(a 0, .inr (5, [.ref (a 1), .ref (a 2), .ref (a 3), .ref (a 4), .ref (a 5), .int (σ 22 5), .int (σ 22 6), .ref (a 8), .ref (a 9), .ref (a 10), .int (σ 22 10), .int (σ 22 11), .ref (a 13), .int (σ 22 13), .int (σ 22 14), .int (σ 22 15), .int (σ 22 16), .int (σ 22 17), .ref (a 19), .ref (a 20), .ref (a 21), .ref (a 22)])), (a 1, .inl (cy, 81, .inl (σ 0))), (a 2, .inl (cy, 81, .inl (σ 1))), (a 3, .inl (cy, 81, .inl (σ 2))), (a 4, .inl (cy, 81, .inl (σ 3))), (a 5, .inl (cy, 7, .inl (σ 4))), (a 8, .inl (cy, 64, .inl (σ 7))), (a 9, .inl (cy, 256, .inl (σ 8))), (a 10, .inl (cy, 8, .inl (σ 9))), (a 13, .inl (cy, 120, .inl (σ 12))), (a 19, .inl (cy, 4, .inl (σ 18))), (a 20, .inl (cy, 4, .inl (σ 19))), (a 21, .inl (cy, 160, .inl (σ 20))), (a 22, .inl (cy, 40, .inl (σ 21)))]) (w' := cLW o a cy cz X' σ) (q0 := 0) C hW hM hq hlk [0, 1, 2, 3, 4, 5, 6, 7, 8, 9, 10, 11, 12, 13, 14, 15, 16, 17, 18, 19, 20, 21, 22, 23, 24, 25, 26, 27, 28, 29, 30] [31, 32, 33, 34, 35, 36, 37, 38, 39, 40, 41, 42, 43, 44] [14, 15, 16, 17, 18, 19, 20, 21, 22, 23, 24, 25, 26, 27, 28, 29, 30, 31, 32, 33, 34, 35, 36, 37, 38, 39, 40, 41, 42, 43, 44, 0, 1, 2, 3, 4, 5, 6, 7, 8, 9, 10, 11, 12, 13] rfl rfl (by decide) (by decide) rfl (by decide) (by decide) rfl rfl hy hst hk hls hR hcs hrm hdg kk
set_option maxRecDepth 20000 in
theorem cY_l {y : MethodName} {bytes : ByteArray} {maxL fr lo k index : Nat} {rt : Option FieldType} {As : List Value} {r : Int64} {st0 : List Value} (C : Cx p s m args c cc nL own D cy cz G A) (hW : Wd D A s.heap H locs (cLW o a cy cz X σ)) (hM : CtL l D cy cz G y bytes maxL rt fr lo (.ref (a 0) :: As) (cM a cy σ) (cM a cy σ') r) (hq : KM y bytes maxL rt k) (hlk : Cond.methodLink own index y ∈ TB) (hy : "PumpTalkModel" = y.cls) (hst : st0 = As.reverse ++ .ref (a 0) :: rest) (hk : As.length = k) (hls : ls.size = nL) (hR : fr + 1 ≤ R.frames ∧ 8 + (maxL + 11) + lo ≤ R.locals) (hcs : cells ≤ R.cells ∧ slots ≤ R.slots) (hrm : (rest.map fun v => v.category).sum ≤ 8) (hdg : decode cc pc = .ok (.invokevirtual index, 3))
    (kk : ∀ (H1 : Heap) (locs1 : List Loc), Wd D A s.heap H1 locs1 (cLW o a cy cz X σ') → W p l e R s m args below meth c H1 locs1 cells slots Q (F0 m (pc + 3) ls (.long r :: rest))) : W p l e R s m args below meth c H locs cells slots Q (F0 m pc ls st0) :=
  cp_l (wr := [(o 9 0, .inr (4, [.ref (o 0 0), .ref (o 1 0), .ref (o 2 0), .int (X 9 8 3), .ref (o 3 0), .ref (o 4 0), .ref (o 9 7), .ref (o 9 8)])), (o 9 7, .inl (cz, 4, .inr (.inr (.inr (.inr (va_up (va_up (va_up (va_up (fun _ => none) 0 (some (o 5 0))) 1 (some (o 6 0))) 2 (some (o 7 0))) 3 (some (o 8 0)))))))), (o 9 8, .inl (cy, 7, .inl (X 9 7))), (o 0 0, .inr (3, [.ref (o 0 1), .ref (o 0 2), .ref (o 0 3), .ref (o 0 4), .int (X 0 11 4), .int (X 0 11 5), .int (X 0 11 6), .int (X 0 11 7), .int (X 0 11 8), .int (X 0 11 9), .int (X 0 11 10)])), (o 0 1, .inl (cy, 8, .inl (X 0 0))), (o 0 2, .inl (cy, 8, .inl (X 0 1))), (o 0 3, .inl (cy, 48, .inl (X 0 2))), (o 0 4, .inl (cy, 10, .inl (X 0 3))), (o 1 0, .inr (3, [.ref (o 1 1), .ref (o 1 2), .ref (o 1 3), .ref (o 1 4), .int (X 1 11 4), .int (X 1 11 5), .int (X 1 11 6), .int (X 1 11 7), .int (X 1 11 8), .int (X 1 11 9), .int (X 1 11 10)])), (o 1 1, .inl (cy, 8, .inl (X 1 0))), (o 1 2, .inl (cy, 8, .inl (X 1 1))), (o 1 3, .inl (cy, 48, .inl (X 1 2))), (o 1 4, .inl (cy, 10, .inl (X 1 3))), (o 2 0, .inr (3, [.ref (o 2 1), .ref (o 2 2), .ref (o 2 3), .ref (o 2 4), .int (X 2 11 4), .int (X 2 11 5), .int (X 2 11 6), .int (X 2 11 7), .int (X 2 11 8), .int (X 2 11 9), .int (X 2 11 10)])), (o 2 1, .inl (cy, 8, .inl (X 2 0))), (o 2 2, .inl (cy, 8, .inl (X 2 1))), (o 2 3, .inl (cy, 48, .inl (X 2 2))), (o 2 4, .inl (cy, 10, .inl (X 2 3))), (o 3 0, .inr (1, [.ref (o 3 1), .int (X 3 6 1), .int (X 3 6 2), .int (X 3 6 3), .int (X 3 6 4), .int (X 3 6 5)])), (o 3 1, .inl (cy, 120, .inl (X 3 0))), (o 4 0, .inr (0, [.ref (o 4 1), .ref (o 4 2)])), (o 4 1, .inl (cy, 64, .inl (X 4 0))), (o 4 2, .inl (cy, 256, .inl (X 4 1))), (o 5 0, .inr (2, [.ref (o 5 1), .int (X 5 3 1), .int (X 5 3 2)])), (o 5 1, .inl (cy, 40, .inl (X 5 0))), (o 6 0, .inr (2, [.ref (o 6 1), .int (X 6 3 1), .int (X 6 3 2)])), (o 6 1, .inl (cy, 40, .inl (X 6 0))), (o 7 0, .inr (2, [.ref (o 7 1), .int (X 7 3 1), .int (X 7 3 2)])), (o 7 1, .inl (cy, 40, .inl (X 7 0))), (o 8 0, .inr (2, [.ref (o 8 1), .int (X 8 3 1), .int (X 8 3 2)])), (o 8 1, .inl (cy, 40, .inl (X 8 0)))]) (w' := cLW o a cy cz X σ') (q0 := 0) C hW hM hq hlk [31, 32, 33, 34, 35, 36, 37, 38, 39, 40, 41, 42, 43, 44] [0, 1, 2, 3, 4, 5, 6, 7, 8, 9, 10, 11, 12, 13, 14, 15, 16, 17, 18, 19, 20, 21, 22, 23, 24, 25, 26, 27, 28, 29, 30] [0, 1, 2, 3, 4, 5, 6, 7, 8, 9, 10, 11, 12, 13, 14, 15, 16, 17, 18, 19, 20, 21, 22, 23, 24, 25, 26, 27, 28, 29, 30, 31, 32, 33, 34, 35, 36, 37, 38, 39, 40, 41, 42, 43, 44] rfl rfl (by decide) (by decide) rfl (by decide) (by decide) rfl rfl hy hst hk hls hR hcs hrm hdg kk
def St_person (Rel : Nat → XS → MS → Prop) : Prop := ∀ (k : Nat) (X : XS) (σ : MS) (p1 : Int32), k < 512 → Rel k X σ → ∃ (r : Int32) (X' : XS) (σ' : MS), X5_person X p1 = some (r, X') ∧ X6_person σ p1 = some (r, σ') ∧ Rel (k + 1) X' σ'
def St_of (Rel : Nat → XS → MS → Prop) : Prop := ∀ (k : Nat) (X : XS) (σ : MS) (p1 : Int32) (p2 : Int32), k < 512 → Rel k X σ → ∃ (r : Int32) (X' : XS) (σ' : MS), X5_of X p1 p2 = some (r, X') ∧ X6_of σ p1 p2 = some (r, σ') ∧ Rel (k + 1) X' σ'
def St_change (Rel : Nat → XS → MS → Prop) : Prop := ∀ (k : Nat) (X : XS) (σ : MS) (p1 : Int32) (p2 : Int32) (p3 : Int32), k < 512 → Rel k X σ → ∃ (r : Int32) (X' : XS) (σ' : MS), X5_change X p1 p2 p3 = some (r, X') ∧ X6_change σ p1 p2 p3 = some (r, σ') ∧ Rel (k + 1) X' σ'
def St_reply (Rel : Nat → XS → MS → Prop) : Prop := ∀ (k : Nat) (X : XS) (σ : MS) (p1 : Int32) (p2 : Int32) (p3 : Int32), k < 512 → Rel k X σ → ∃ (r : Int32) (X' : XS) (σ' : MS), X5_reply X p1 p2 p3 = some (r, X') ∧ X6_reply σ p1 p2 p3 = some (r, σ') ∧ Rel (k + 1) X' σ'
def St_apart (Rel : Nat → XS → MS → Prop) : Prop := ∀ (k : Nat) (X : XS) (σ : MS) (p1 : Int32) (p2 : Int32) (p3 : Int32), k < 512 → Rel k X σ → ∃ (r : Int32) (X' : XS) (σ' : MS), X5_apart X p1 p2 p3 = some (r, X') ∧ X6_apart σ p1 p2 p3 = some (r, σ') ∧ Rel (k + 1) X' σ'
def St_pair (Rel : Nat → XS → MS → Prop) : Prop := ∀ (k : Nat) (X : XS) (σ : MS) (p1 : Int32) (p2 : Int32), k < 512 → Rel k X σ → ∃ (r : Int32) (X' : XS) (σ' : MS), X5_pair X p1 p2 = some (r, X') ∧ X6_pair σ p1 p2 = some (r, σ') ∧ Rel (k + 1) X' σ'
def St_rest (Rel : Nat → XS → MS → Prop) : Prop := ∀ (k : Nat) (X : XS) (σ : MS), k < 512 → Rel k X σ → ∃ (r : Int32) (X' : XS) (σ' : MS), X5_rest X  = some (r, X') ∧ X6_rest σ  = some (r, σ') ∧ Rel (k + 1) X' σ'
def St_subject (Rel : Nat → XS → MS → Prop) : Prop := ∀ (k : Nat) (X : XS) (σ : MS) (p1 : Int32), k < 512 → Rel k X σ → ∃ (r : Int32) (X' : XS) (σ' : MS), X5_subject X p1 = some (r, X') ∧ X6_subject σ p1 = some (r, σ') ∧ Rel (k + 1) X' σ'
def St_go (Rel : Nat → XS → MS → Prop) : Prop := ∀ (k : Nat) (X : XS) (σ : MS) (p1 : Int32), k < 512 → Rel k X σ → ∃ (r : Int32) (X' : XS) (σ' : MS), X5_go X p1 = some (r, X') ∧ X6_go σ p1 = some (r, σ') ∧ Rel (k + 1) X' σ'
def St_now (Rel : Nat → XS → MS → Prop) : Prop := ∀ (k : Nat) (X : XS) (σ : MS) (p1 : Int32), k < 512 → Rel k X σ → ∃ (r : Int32) (X' : XS) (σ' : MS), X5_now X p1 = some (r, X') ∧ X6_now σ p1 = some (r, σ') ∧ Rel (k + 1) X' σ'
def St_ahead (Rel : Nat → XS → MS → Prop) : Prop := ∀ (k : Nat) (X : XS) (σ : MS) (p1 : Int32), k < 512 → Rel k X σ → ∃ (r : Int32) (X' : XS) (σ' : MS), X5_ahead X p1 = some (r, X') ∧ X6_ahead σ p1 = some (r, σ') ∧ Rel (k + 1) X' σ'
def St_view (Rel : Nat → XS → MS → Prop) : Prop := ∀ (k : Nat) (X : XS) (σ : MS) (p1 : Int32) (p2 : Int32) (p3 : Int32), k < 512 → Rel k X σ → ∃ (r : Int32) (X' : XS) (σ' : MS), X5_view X p1 p2 p3 = some (r, X') ∧ X6_view σ p1 p2 p3 = some (r, σ') ∧ Rel (k + 1) X' σ'
def St_dry (Rel : Nat → XS → MS → Prop) : Prop := ∀ (k : Nat) (X : XS) (σ : MS), k < 512 → Rel k X σ → ∃ (r : Int32) (X' : XS) (σ' : MS), X5_dry X  = some (r, X') ∧ X6_dry σ  = some (r, σ') ∧ Rel (k + 1) X' σ'
def St_filled (Rel : Nat → XS → MS → Prop) : Prop := ∀ (k : Nat) (X : XS) (σ : MS) (p1 : Int32), k < 512 → Rel k X σ → ∃ (r : Int32) (X' : XS) (σ' : MS), X5_filled X p1 = some (r, X') ∧ X6_filled σ p1 = some (r, σ') ∧ Rel (k + 1) X' σ'
def St_round (Rel : Nat → XS → MS → Prop) : Prop := ∀ (k : Nat) (X : XS) (σ : MS), k < 512 → Rel k X σ → ∃ (r : Int32) (X' : XS) (σ' : MS), X5_round X  = some (r, X') ∧ X6_round σ  = some (r, σ') ∧ Rel (k + 1) X' σ'
def St_gives (Rel : Nat → XS → MS → Prop) : Prop := ∀ (k : Nat) (X : XS) (σ : MS) (p1 : Int32) (p2 : Int32) (p3 : Int32), k < 512 → Rel k X σ → ∃ (r : Int32) (X' : XS) (σ' : MS), X5_gives X p1 p2 p3 = some (r, X') ∧ X6_gives σ p1 p2 p3 = some (r, σ') ∧ Rel (k + 1) X' σ'
def St_best (Rel : Nat → XS → MS → Prop) : Prop := ∀ (k : Nat) (X : XS) (σ : MS) (p1 : Int32), k < 512 → Rel k X σ → ∃ (r : Int32) (X' : XS) (σ' : MS), X5_best X p1 = some (r, X') ∧ X6_best σ p1 = some (r, σ') ∧ Rel (k + 1) X' σ'
def St_partner (Rel : Nat → XS → MS → Prop) : Prop := ∀ (k : Nat) (X : XS) (σ : MS) (p1 : Int32) (p2 : Int32), k < 512 → Rel k X σ → ∃ (r : Int32) (X' : XS) (σ' : MS), X5_partner X p1 p2 = some (r, X') ∧ X6_partner σ p1 p2 = some (r, σ') ∧ Rel (k + 1) X' σ'
def St_subjectFor (Rel : Nat → XS → MS → Prop) : Prop := ∀ (k : Nat) (X : XS) (σ : MS) (p1 : Int32) (p2 : Int32) (p3 : Int32), k < 512 → Rel k X σ → ∃ (r : Int32) (X' : XS) (σ' : MS), X5_subjectFor X p1 p2 p3 = some (r, X') ∧ X6_subjectFor σ p1 p2 p3 = some (r, σ') ∧ Rel (k + 1) X' σ'
def St_matched (Rel : Nat → XS → MS → Prop) : Prop := ∀ (k : Nat) (X : XS) (σ : MS) (p1 : Int32), k < 512 → Rel k X σ → ∃ (r : Int32) (X' : XS) (σ' : MS), X5_matched X p1 = some (r, X') ∧ X6_matched σ p1 = some (r, σ') ∧ Rel (k + 1) X' σ'
def St_matchOf (Rel : Nat → XS → MS → Prop) : Prop := ∀ (k : Nat) (X : XS) (σ : MS) (p1 : Int32) (p2 : Int32), k < 512 → Rel k X σ → ∃ (r : Int32) (X' : XS) (σ' : MS), X5_matchOf X p1 p2 = some (r, X') ∧ X6_matchOf σ p1 p2 = some (r, σ') ∧ Rel (k + 1) X' σ'
def St_kindFor (Rel : Nat → XS → MS → Prop) : Prop := ∀ (k : Nat) (X : XS) (σ : MS) (p1 : Int32) (p2 : Int32) (p3 : Int32), k < 512 → Rel k X σ → ∃ (r : Int32) (X' : XS) (σ' : MS), X5_kindFor X p1 p2 p3 = some (r, X') ∧ X6_kindFor σ p1 p2 p3 = some (r, σ') ∧ Rel (k + 1) X' σ'
def St_viewFor (Rel : Nat → XS → MS → Prop) : Prop := ∀ (k : Nat) (X : XS) (σ : MS) (p1 : Int32) (p2 : Int32) (p3 : Int32) (p4 : Int32), k < 512 → Rel k X σ → ∃ (r : Int32) (X' : XS) (σ' : MS), X5_viewFor X p1 p2 p3 p4 = some (r, X') ∧ X6_viewFor σ p1 p2 p3 p4 = some (r, σ') ∧ Rel (k + 1) X' σ'
def St_voiceFor (Rel : Nat → XS → MS → Prop) : Prop := ∀ (k : Nat) (X : XS) (σ : MS) (p1 : Int32) (p2 : Int32) (p3 : Int32) (p4 : Int32), k < 512 → Rel k X σ → ∃ (r : Int32) (X' : XS) (σ' : MS), X5_voiceFor X p1 p2 p3 p4 = some (r, X') ∧ X6_voiceFor σ p1 p2 p3 p4 = some (r, σ') ∧ Rel (k + 1) X' σ'
def St_fits (Rel : Nat → XS → MS → Prop) : Prop := ∀ (k : Nat) (X : XS) (σ : MS) (p1 : Int32) (p2 : Int32), k < 512 → Rel k X σ → ∃ (r : Int32) (X' : XS) (σ' : MS), X5_fits X p1 p2 = some (r, X') ∧ X6_fits σ p1 p2 = some (r, σ') ∧ Rel (k + 1) X' σ'
def St_thought (Rel : Nat → XS → MS → Prop) : Prop := ∀ (k : Nat) (X : XS) (σ : MS) (p1 : Int32) (p2 : Int32), k < 512 → Rel k X σ → ∃ (r : Int32) (X' : XS) (σ' : MS), X5_thought X p1 p2 = some (r, X') ∧ X6_thought σ p1 p2 = some (r, σ') ∧ Rel (k + 1) X' σ'
def St_kinds (Rel : Nat → XS → MS → Prop) : Prop := ∀ (k : Nat) (X : XS) (σ : MS) (p1 : Int32) (p2 : Int32), k < 512 → Rel k X σ → ∃ (r : Int32) (X' : XS) (σ' : MS), X5_kinds X p1 p2 = some (r, X') ∧ X6_kinds σ p1 p2 = some (r, σ') ∧ Rel (k + 1) X' σ'
def St_quarrels (Rel : Nat → XS → MS → Prop) : Prop := ∀ (k : Nat) (X : XS) (σ : MS) (p1 : Int32), k < 512 → Rel k X σ → ∃ (r : Int32) (X' : XS) (σ' : MS), X5_quarrels X p1 = some (r, X') ∧ X6_quarrels σ p1 = some (r, σ') ∧ Rel (k + 1) X' σ'
def St_odds (Rel : Nat → XS → MS → Prop) : Prop := ∀ (k : Nat) (X : XS) (σ : MS) (p1 : Int32) (p2 : Int32), k < 512 → Rel k X σ → ∃ (r : Int64) (X' : XS) (σ' : MS), X5_odds X p1 p2 = some (r, X') ∧ X6_odds σ p1 p2 = some (r, σ') ∧ Rel (k + 1) X' σ'
def St_seed (Rel : Nat → XS → MS → Prop) : Prop := ∀ (k : Nat) (X : XS) (σ : MS) (p1 : Int32), k < 512 → Rel k X σ → ∃ (r : Int32) (X' : XS) (σ' : MS), X5_seed X p1 = some (r, X') ∧ X6_seed σ p1 = some (r, σ') ∧ Rel (k + 1) X' σ'
def St_feed (Rel : Nat → XS → MS → Prop) : Prop := ∀ (k : Nat) (X : XS) (σ : MS) (p1 : Int32) (p2 : Int32), k < 512 → Rel k X σ → ∃ (r : Int32) (X' : XS) (σ' : MS), X5_feed X p1 p2 = some (r, X') ∧ X6_feed σ p1 p2 = some (r, σ') ∧ Rel (k + 1) X' σ'
def St_wipe (Rel : Nat → XS → MS → Prop) : Prop := ∀ (k : Nat) (X : XS) (σ : MS), k < 512 → Rel k X σ → ∃ (r : Int32) (X' : XS) (σ' : MS), X5_wipe X  = some (r, X') ∧ X6_wipe σ  = some (r, σ') ∧ Rel (k + 1) X' σ'
def St_text (Rel : Nat → XS → MS → Prop) : Prop := ∀ (k : Nat) (X : XS) (σ : MS), k < 512 → Rel k X σ → ∃ (r : Int32) (X' : XS) (σ' : MS), X5_text X  = some (r, X') ∧ X6_text σ  = some (r, σ') ∧ Rel (k + 1) X' σ'
def St_hold (Rel : Nat → XS → MS → Prop) : Prop := ∀ (k : Nat) (X : XS) (σ : MS) (p1 : Int32) (p2 : Int32), k < 512 → Rel k X σ → ∃ (r : Int32) (X' : XS) (σ' : MS), X5_hold X p1 p2 = some (r, X') ∧ X6_hold σ p1 p2 = some (r, σ') ∧ Rel (k + 1) X' σ'
def St_as (Rel : Nat → XS → MS → Prop) : Prop := ∀ (k : Nat) (X : XS) (σ : MS) (p1 : Int32) (p2 : Int32), k < 512 → Rel k X σ → ∃ (r : Int32) (X' : XS) (σ' : MS), X5_as X p1 p2 = some (r, X') ∧ X6_as σ p1 p2 = some (r, σ') ∧ Rel (k + 1) X' σ'
def St_sheet (Rel : Nat → XS → MS → Prop) : Prop := ∀ (k : Nat) (X : XS) (σ : MS) (p1 : Int32) (p2 : Int32) (p3 : Int32), k < 512 → Rel k X σ → ∃ (r : Int32) (X' : XS) (σ' : MS), X5_sheet X p1 p2 p3 = some (r, X') ∧ X6_sheet σ p1 p2 p3 = some (r, σ') ∧ Rel (k + 1) X' σ'
def St_write (Rel : Nat → XS → MS → Prop) : Prop := ∀ (k : Nat) (X : XS) (σ : MS) (p1 : Int32) (p2 : Int32) (p3 : Int32), k < 512 → Rel k X σ → ∃ (r : Int32) (X' : XS) (σ' : MS), X5_write X p1 p2 p3 = some (r, X') ∧ X6_write σ p1 p2 p3 = some (r, σ') ∧ Rel (k + 1) X' σ'
def St_copy (Rel : Nat → XS → MS → Prop) : Prop := ∀ (k : Nat) (X : XS) (σ : MS) (p1 : Int32) (p2 : Int32) (p3 : Int32) (p4 : Int32) (p5 : Int32), k < 512 → Rel k X σ → ∃ (r : Int32) (X' : XS) (σ' : MS), X5_copy X p1 p2 p3 p4 p5 = some (r, X') ∧ X6_copy σ p1 p2 p3 p4 p5 = some (r, σ') ∧ Rel (k + 1) X' σ'
def St_load (Rel : Nat → XS → MS → Prop) : Prop := ∀ (k : Nat) (X : XS) (σ : MS) (p1 : Int32), k < 512 → Rel k X σ → ∃ (r : Int32) (X' : XS) (σ' : MS), X5_load X p1 = some (r, X') ∧ X6_load σ p1 = some (r, σ') ∧ Rel (k + 1) X' σ'
def St_judge (Rel : Nat → XS → MS → Prop) : Prop := ∀ (k : Nat) (X : XS) (σ : MS) (p1 : Int32), k < 512 → Rel k X σ → ∃ (r : Int32) (X' : XS) (σ' : MS), X5_judge X p1 = some (r, X') ∧ X6_judge σ p1 = some (r, σ') ∧ Rel (k + 1) X' σ'
def St_image (Rel : Nat → XS → MS → Prop) : Prop := ∀ (k : Nat) (X : XS) (σ : MS), k < 512 → Rel k X σ → ∃ (r : Int32) (X' : XS) (σ' : MS), X5_image X  = some (r, X') ∧ X6_image σ  = some (r, σ') ∧ Rel (k + 1) X' σ'
def St_undo (Rel : Nat → XS → MS → Prop) : Prop := ∀ (k : Nat) (X : XS) (σ : MS), k < 512 → Rel k X σ → ∃ (r : Int32) (X' : XS) (σ' : MS), X5_undo X  = some (r, X') ∧ X6_undo σ  = some (r, σ') ∧ Rel (k + 1) X' σ'
def St_tear (Rel : Nat → XS → MS → Prop) : Prop := ∀ (k : Nat) (X : XS) (σ : MS), k < 512 → Rel k X σ → ∃ (r : Int32) (X' : XS) (σ' : MS), X5_tear X  = some (r, X') ∧ X6_tear σ  = some (r, σ') ∧ Rel (k + 1) X' σ'
def St_count (Rel : Nat → XS → MS → Prop) : Prop := ∀ (k : Nat) (X : XS) (σ : MS) (p1 : Int32), k < 512 → Rel k X σ → ∃ (r : Int32) (X' : XS) (σ' : MS), X5_count X p1 = some (r, X') ∧ X6_count σ p1 = some (r, σ') ∧ Rel (k + 1) X' σ'
def St_status (Rel : Nat → XS → MS → Prop) : Prop := ∀ (k : Nat) (X : XS) (σ : MS) (p1 : Int32), k < 512 → Rel k X σ → ∃ (r : Int32) (X' : XS) (σ' : MS), X5_status X p1 = some (r, X') ∧ X6_status σ p1 = some (r, σ') ∧ Rel (k + 1) X' σ'
set_option maxHeartbeats 4000000 in
set_option maxRecDepth 100000 in
theorem law_person {Rel : Nat → XS → MS → Prop} {z : ZT} {k b Ln : Nat} {xs : Nat → Int32} {x3 : Int32} (hgh : GH G z) (C : Cx p s m args c cL_law 4 "PumpTalkLaw" D cy cz G A) (hX : va_X b Ln xs s s.heap) (hbl : b < s.heap.size) (hbA : ¬ A b) (hk : k < 512) (hstep : St_person Rel) (hR : Rel k X σ) (h1 : vp_in (x3 + 1) Ln) (hl : lv_has ls 4 [(0, .ref b), (1, .ref (o 9 0)), (2, .ref (a 0)), (3, .int x3)]) (hcs : cells ≤ 600000 ∧ slots ≤ 7302250) (hW : Wd D A s.heap H locs (cLW o a cy cz X σ)) (kk : ∀ (X' : XS) (σ' : MS) (H1 : Heap) (locs1 : List Loc), Rel (k + 1) X' σ' → Wd D A s.heap H1 locs1 (cLW o a cy cz X' σ') → W p l e room_1 s m args below meth c H1 locs1 cells slots Q (F0 m 1574 ls [])) : W p l e room_1 s m args below meth c H locs cells slots Q (F0 m 228 ls []) := by
  have hx := C.1
  have hb := C.2.1
  obtain ⟨r, X', σ', e5, e6, hR'⟩ := hstep k X σ (xs (x3 + 1).toNatClampNeg) hk hR
  refine lv_aload_n hx hb dL_law_228 rfl (lv_at hl 1 rfl) ?_
  refine lv_aload_n hx hb dL_law_229 rfl (lv_at hl 0 rfl) ?_
  refine lv_iload_n hx hb dL_law_230 rfl (lv_at hl 3 rfl) ?_
  refine lv_iconst (v := 1) hx hb dL_law_231 (by decide) ?_
  refine lv_iadd hx hb dL_law_232 ?_
  refine va_sld hx hb hX hbl hbA hW.2.2 h1 dL_law_233 ?_
  refine cX_i (As := [.int (xs (x3 + 1).toNatClampNeg)]) (rest := []) C hW (c_X5_person e5) kX5_person q224 rfl rfl rfl hl.1 ⟨Nat.le_of_ble_eq_true rfl, Nat.le_of_ble_eq_true rfl⟩ hcs (Nat.le_of_ble_eq_true rfl) dL_law_234 (fun H locs hW => ?_)
  refine lv_aload_n hx hb dL_law_237 rfl (lv_at hl 2 rfl) ?_
  refine lv_aload_n hx hb dL_law_238 rfl (lv_at hl 0 rfl) ?_
  refine lv_iload_n hx hb dL_law_239 rfl (lv_at hl 3 rfl) ?_
  refine lv_iconst (v := 1) hx hb dL_law_240 (by decide) ?_
  refine lv_iadd hx hb dL_law_241 ?_
  refine va_sld hx hb hX hbl hbA hW.2.2 h1 dL_law_242 ?_
  refine cY_i (As := [.int (xs (x3 + 1).toNatClampNeg)]) (rest := [.int r]) C hW (c_X6_person e6) kX6_person q854 rfl rfl rfl hl.1 ⟨Nat.le_of_ble_eq_true rfl, Nat.le_of_ble_eq_true rfl⟩ hcs (Nat.le_of_ble_eq_true rfl) dL_law_243 (fun H locs hW => ?_)
  refine lv_icmp_eq (tgt := 1574) hx hb dL_law_246 (by decide) (fun _ => ?_) (fun h9 => absurd rfl h9)
  exact kk X' σ' _ _ hR' hW
set_option maxHeartbeats 4000000 in
set_option maxRecDepth 100000 in
theorem law_of {Rel : Nat → XS → MS → Prop} {z : ZT} {k b Ln : Nat} {xs : Nat → Int32} {x3 : Int32} (hgh : GH G z) (C : Cx p s m args c cL_law 4 "PumpTalkLaw" D cy cz G A) (hX : va_X b Ln xs s s.heap) (hbl : b < s.heap.size) (hbA : ¬ A b) (hk : k < 512) (hstep : St_of Rel) (hR : Rel k X σ) (h1 : vp_in (x3 + 1) Ln) (h2 : vp_in (x3 + 2) Ln) (hl : lv_has ls 4 [(0, .ref b), (1, .ref (o 9 0)), (2, .ref (a 0)), (3, .int x3)]) (hcs : cells ≤ 600000 ∧ slots ≤ 7302250) (hW : Wd D A s.heap H locs (cLW o a cy cz X σ)) (kk : ∀ (X' : XS) (σ' : MS) (H1 : Heap) (locs1 : List Loc), Rel (k + 1) X' σ' → Wd D A s.heap H1 locs1 (cLW o a cy cz X' σ') → W p l e room_1 s m args below meth c H1 locs1 cells slots Q (F0 m 1574 ls [])) : W p l e room_1 s m args below meth c H locs cells slots Q (F0 m 251 ls []) := by
  have hx := C.1
  have hb := C.2.1
  obtain ⟨r, X', σ', e5, e6, hR'⟩ := hstep k X σ (xs (x3 + 1).toNatClampNeg) (xs (x3 + 2).toNatClampNeg) hk hR
  refine lv_aload_n hx hb dL_law_251 rfl (lv_at hl 1 rfl) ?_
  refine lv_aload_n hx hb dL_law_252 rfl (lv_at hl 0 rfl) ?_
  refine lv_iload_n hx hb dL_law_253 rfl (lv_at hl 3 rfl) ?_
  refine lv_iconst (v := 1) hx hb dL_law_254 (by decide) ?_
  refine lv_iadd hx hb dL_law_255 ?_
  refine va_sld hx hb hX hbl hbA hW.2.2 h1 dL_law_256 ?_
  refine lv_aload_n hx hb dL_law_257 rfl (lv_at hl 0 rfl) ?_
  refine lv_iload_n hx hb dL_law_258 rfl (lv_at hl 3 rfl) ?_
  refine lv_iconst (v := 2) hx hb dL_law_259 (by decide) ?_
  refine lv_iadd hx hb dL_law_260 ?_
  refine va_sld hx hb hX hbl hbA hW.2.2 h2 dL_law_261 ?_
  refine cX_i (As := [.int (xs (x3 + 1).toNatClampNeg), .int (xs (x3 + 2).toNatClampNeg)]) (rest := []) C hW (c_X5_of e5) kX5_of q249 rfl rfl rfl hl.1 ⟨Nat.le_of_ble_eq_true rfl, Nat.le_of_ble_eq_true rfl⟩ hcs (Nat.le_of_ble_eq_true rfl) dL_law_262 (fun H locs hW => ?_)
  refine lv_aload_n hx hb dL_law_265 rfl (lv_at hl 2 rfl) ?_
  refine lv_aload_n hx hb dL_law_266 rfl (lv_at hl 0 rfl) ?_
  refine lv_iload_n hx hb dL_law_267 rfl (lv_at hl 3 rfl) ?_
  refine lv_iconst (v := 1) hx hb dL_law_268 (by decide) ?_
  refine lv_iadd hx hb dL_law_269 ?_
  refine va_sld hx hb hX hbl hbA hW.2.2 h1 dL_law_270 ?_
  refine lv_aload_n hx hb dL_law_271 rfl (lv_at hl 0 rfl) ?_
  refine lv_iload_n hx hb dL_law_272 rfl (lv_at hl 3 rfl) ?_
  refine lv_iconst (v := 2) hx hb dL_law_273 (by decide) ?_
  refine lv_iadd hx hb dL_law_274 ?_
  refine va_sld hx hb hX hbl hbA hW.2.2 h2 dL_law_275 ?_
  refine cY_i (As := [.int (xs (x3 + 1).toNatClampNeg), .int (xs (x3 + 2).toNatClampNeg)]) (rest := [.int r]) C hW (c_X6_of e6) kX6_of q878 rfl rfl rfl hl.1 ⟨Nat.le_of_ble_eq_true rfl, Nat.le_of_ble_eq_true rfl⟩ hcs (Nat.le_of_ble_eq_true rfl) dL_law_276 (fun H locs hW => ?_)
  refine lv_icmp_eq (tgt := 1574) hx hb dL_law_279 (by decide) (fun _ => ?_) (fun h9 => absurd rfl h9)
  exact kk X' σ' _ _ hR' hW
set_option maxHeartbeats 4000000 in
set_option maxRecDepth 100000 in
theorem law_change {Rel : Nat → XS → MS → Prop} {z : ZT} {k b Ln : Nat} {xs : Nat → Int32} {x3 : Int32} (hgh : GH G z) (C : Cx p s m args c cL_law 4 "PumpTalkLaw" D cy cz G A) (hX : va_X b Ln xs s s.heap) (hbl : b < s.heap.size) (hbA : ¬ A b) (hk : k < 512) (hstep : St_change Rel) (hR : Rel k X σ) (h1 : vp_in (x3 + 1) Ln) (h2 : vp_in (x3 + 2) Ln) (h3 : vp_in (x3 + 3) Ln) (hl : lv_has ls 4 [(0, .ref b), (1, .ref (o 9 0)), (2, .ref (a 0)), (3, .int x3)]) (hcs : cells ≤ 600000 ∧ slots ≤ 7302250) (hW : Wd D A s.heap H locs (cLW o a cy cz X σ)) (kk : ∀ (X' : XS) (σ' : MS) (H1 : Heap) (locs1 : List Loc), Rel (k + 1) X' σ' → Wd D A s.heap H1 locs1 (cLW o a cy cz X' σ') → W p l e room_1 s m args below meth c H1 locs1 cells slots Q (F0 m 1574 ls [])) : W p l e room_1 s m args below meth c H locs cells slots Q (F0 m 284 ls []) := by
  have hx := C.1
  have hb := C.2.1
  obtain ⟨r, X', σ', e5, e6, hR'⟩ := hstep k X σ (xs (x3 + 1).toNatClampNeg) (xs (x3 + 2).toNatClampNeg) (xs (x3 + 3).toNatClampNeg) hk hR
  refine lv_aload_n hx hb dL_law_284 rfl (lv_at hl 1 rfl) ?_
  refine lv_aload_n hx hb dL_law_285 rfl (lv_at hl 0 rfl) ?_
  refine lv_iload_n hx hb dL_law_286 rfl (lv_at hl 3 rfl) ?_
  refine lv_iconst (v := 1) hx hb dL_law_287 (by decide) ?_
  refine lv_iadd hx hb dL_law_288 ?_
  refine va_sld hx hb hX hbl hbA hW.2.2 h1 dL_law_289 ?_
  refine lv_aload_n hx hb dL_law_290 rfl (lv_at hl 0 rfl) ?_
  refine lv_iload_n hx hb dL_law_291 rfl (lv_at hl 3 rfl) ?_
  refine lv_iconst (v := 2) hx hb dL_law_292 (by decide) ?_
  refine lv_iadd hx hb dL_law_293 ?_
  refine va_sld hx hb hX hbl hbA hW.2.2 h2 dL_law_294 ?_
  refine lv_aload_n hx hb dL_law_295 rfl (lv_at hl 0 rfl) ?_
  refine lv_iload_n hx hb dL_law_296 rfl (lv_at hl 3 rfl) ?_
  refine lv_iconst (v := 3) hx hb dL_law_297 (by decide) ?_
  refine lv_iadd hx hb dL_law_298 ?_
  refine va_sld hx hb hX hbl hbA hW.2.2 h3 dL_law_299 ?_
  refine cX_i (As := [.int (xs (x3 + 1).toNatClampNeg), .int (xs (x3 + 2).toNatClampNeg), .int (xs (x3 + 3).toNatClampNeg)]) (rest := []) C hW (c_X5_change e5) kX5_change q269 rfl rfl rfl hl.1 ⟨Nat.le_of_ble_eq_true rfl, Nat.le_of_ble_eq_true rfl⟩ hcs (Nat.le_of_ble_eq_true rfl) dL_law_300 (fun H locs hW => ?_)
  refine lv_aload_n hx hb dL_law_303 rfl (lv_at hl 2 rfl) ?_
  refine lv_aload_n hx hb dL_law_304 rfl (lv_at hl 0 rfl) ?_
  refine lv_iload_n hx hb dL_law_305 rfl (lv_at hl 3 rfl) ?_
  refine lv_iconst (v := 1) hx hb dL_law_306 (by decide) ?_
  refine lv_iadd hx hb dL_law_307 ?_
  refine va_sld hx hb hX hbl hbA hW.2.2 h1 dL_law_308 ?_
  refine lv_aload_n hx hb dL_law_309 rfl (lv_at hl 0 rfl) ?_
  refine lv_iload_n hx hb dL_law_310 rfl (lv_at hl 3 rfl) ?_
  refine lv_iconst (v := 2) hx hb dL_law_311 (by decide) ?_
  refine lv_iadd hx hb dL_law_312 ?_
  refine va_sld hx hb hX hbl hbA hW.2.2 h2 dL_law_313 ?_
  refine lv_aload_n hx hb dL_law_314 rfl (lv_at hl 0 rfl) ?_
  refine lv_iload_n hx hb dL_law_315 rfl (lv_at hl 3 rfl) ?_
  refine lv_iconst (v := 3) hx hb dL_law_316 (by decide) ?_
  refine lv_iadd hx hb dL_law_317 ?_
  refine va_sld hx hb hX hbl hbA hW.2.2 h3 dL_law_318 ?_
  refine cY_i (As := [.int (xs (x3 + 1).toNatClampNeg), .int (xs (x3 + 2).toNatClampNeg), .int (xs (x3 + 3).toNatClampNeg)]) (rest := [.int r]) C hW (c_X6_change e6) kX6_change q891 rfl rfl rfl hl.1 ⟨Nat.le_of_ble_eq_true rfl, Nat.le_of_ble_eq_true rfl⟩ hcs (Nat.le_of_ble_eq_true rfl) dL_law_319 (fun H locs hW => ?_)
  refine lv_icmp_eq (tgt := 1574) hx hb dL_law_322 (by decide) (fun _ => ?_) (fun h9 => absurd rfl h9)
  exact kk X' σ' _ _ hR' hW
set_option maxHeartbeats 4000000 in
set_option maxRecDepth 100000 in
theorem law_reply {Rel : Nat → XS → MS → Prop} {z : ZT} {k b Ln : Nat} {xs : Nat → Int32} {x3 : Int32} (hgh : GH G z) (C : Cx p s m args c cL_law 4 "PumpTalkLaw" D cy cz G A) (hX : va_X b Ln xs s s.heap) (hbl : b < s.heap.size) (hbA : ¬ A b) (hk : k < 512) (hstep : St_reply Rel) (hR : Rel k X σ) (h1 : vp_in (x3 + 1) Ln) (h2 : vp_in (x3 + 2) Ln) (h3 : vp_in (x3 + 3) Ln) (hl : lv_has ls 4 [(0, .ref b), (1, .ref (o 9 0)), (2, .ref (a 0)), (3, .int x3)]) (hcs : cells ≤ 600000 ∧ slots ≤ 7302250) (hW : Wd D A s.heap H locs (cLW o a cy cz X σ)) (kk : ∀ (X' : XS) (σ' : MS) (H1 : Heap) (locs1 : List Loc), Rel (k + 1) X' σ' → Wd D A s.heap H1 locs1 (cLW o a cy cz X' σ') → W p l e room_1 s m args below meth c H1 locs1 cells slots Q (F0 m 1574 ls [])) : W p l e room_1 s m args below meth c H locs cells slots Q (F0 m 327 ls []) := by
  have hx := C.1
  have hb := C.2.1
  obtain ⟨r, X', σ', e5, e6, hR'⟩ := hstep k X σ (xs (x3 + 1).toNatClampNeg) (xs (x3 + 2).toNatClampNeg) (xs (x3 + 3).toNatClampNeg) hk hR
  refine lv_aload_n hx hb dL_law_327 rfl (lv_at hl 1 rfl) ?_
  refine lv_aload_n hx hb dL_law_328 rfl (lv_at hl 0 rfl) ?_
  refine lv_iload_n hx hb dL_law_329 rfl (lv_at hl 3 rfl) ?_
  refine lv_iconst (v := 1) hx hb dL_law_330 (by decide) ?_
  refine lv_iadd hx hb dL_law_331 ?_
  refine va_sld hx hb hX hbl hbA hW.2.2 h1 dL_law_332 ?_
  refine lv_aload_n hx hb dL_law_333 rfl (lv_at hl 0 rfl) ?_
  refine lv_iload_n hx hb dL_law_334 rfl (lv_at hl 3 rfl) ?_
  refine lv_iconst (v := 2) hx hb dL_law_335 (by decide) ?_
  refine lv_iadd hx hb dL_law_336 ?_
  refine va_sld hx hb hX hbl hbA hW.2.2 h2 dL_law_337 ?_
  refine lv_aload_n hx hb dL_law_338 rfl (lv_at hl 0 rfl) ?_
  refine lv_iload_n hx hb dL_law_339 rfl (lv_at hl 3 rfl) ?_
  refine lv_iconst (v := 3) hx hb dL_law_340 (by decide) ?_
  refine lv_iadd hx hb dL_law_341 ?_
  refine va_sld hx hb hX hbl hbA hW.2.2 h3 dL_law_342 ?_
  refine cX_i (As := [.int (xs (x3 + 1).toNatClampNeg), .int (xs (x3 + 2).toNatClampNeg), .int (xs (x3 + 3).toNatClampNeg)]) (rest := []) C hW (c_X5_reply e5) kX5_reply q286 rfl rfl rfl hl.1 ⟨Nat.le_of_ble_eq_true rfl, Nat.le_of_ble_eq_true rfl⟩ hcs (Nat.le_of_ble_eq_true rfl) dL_law_343 (fun H locs hW => ?_)
  refine lv_aload_n hx hb dL_law_346 rfl (lv_at hl 2 rfl) ?_
  refine lv_aload_n hx hb dL_law_347 rfl (lv_at hl 0 rfl) ?_
  refine lv_iload_n hx hb dL_law_348 rfl (lv_at hl 3 rfl) ?_
  refine lv_iconst (v := 1) hx hb dL_law_349 (by decide) ?_
  refine lv_iadd hx hb dL_law_350 ?_
  refine va_sld hx hb hX hbl hbA hW.2.2 h1 dL_law_351 ?_
  refine lv_aload_n hx hb dL_law_352 rfl (lv_at hl 0 rfl) ?_
  refine lv_iload_n hx hb dL_law_353 rfl (lv_at hl 3 rfl) ?_
  refine lv_iconst (v := 2) hx hb dL_law_354 (by decide) ?_
  refine lv_iadd hx hb dL_law_355 ?_
  refine va_sld hx hb hX hbl hbA hW.2.2 h2 dL_law_356 ?_
  refine lv_aload_n hx hb dL_law_357 rfl (lv_at hl 0 rfl) ?_
  refine lv_iload_n hx hb dL_law_358 rfl (lv_at hl 3 rfl) ?_
  refine lv_iconst (v := 3) hx hb dL_law_359 (by decide) ?_
  refine lv_iadd hx hb dL_law_360 ?_
  refine va_sld hx hb hX hbl hbA hW.2.2 h3 dL_law_361 ?_
  refine cY_i (As := [.int (xs (x3 + 1).toNatClampNeg), .int (xs (x3 + 2).toNatClampNeg), .int (xs (x3 + 3).toNatClampNeg)]) (rest := [.int r]) C hW (c_X6_reply e6) kX6_reply q906 rfl rfl rfl hl.1 ⟨Nat.le_of_ble_eq_true rfl, Nat.le_of_ble_eq_true rfl⟩ hcs (Nat.le_of_ble_eq_true rfl) dL_law_362 (fun H locs hW => ?_)
  refine lv_icmp_eq (tgt := 1574) hx hb dL_law_365 (by decide) (fun _ => ?_) (fun h9 => absurd rfl h9)
  exact kk X' σ' _ _ hR' hW
set_option maxHeartbeats 4000000 in
set_option maxRecDepth 100000 in
theorem law_apart {Rel : Nat → XS → MS → Prop} {z : ZT} {k b Ln : Nat} {xs : Nat → Int32} {x3 : Int32} (hgh : GH G z) (C : Cx p s m args c cL_law 4 "PumpTalkLaw" D cy cz G A) (hX : va_X b Ln xs s s.heap) (hbl : b < s.heap.size) (hbA : ¬ A b) (hk : k < 512) (hstep : St_apart Rel) (hR : Rel k X σ) (h1 : vp_in (x3 + 1) Ln) (h2 : vp_in (x3 + 2) Ln) (h3 : vp_in (x3 + 3) Ln) (hl : lv_has ls 4 [(0, .ref b), (1, .ref (o 9 0)), (2, .ref (a 0)), (3, .int x3)]) (hcs : cells ≤ 600000 ∧ slots ≤ 7302250) (hW : Wd D A s.heap H locs (cLW o a cy cz X σ)) (kk : ∀ (X' : XS) (σ' : MS) (H1 : Heap) (locs1 : List Loc), Rel (k + 1) X' σ' → Wd D A s.heap H1 locs1 (cLW o a cy cz X' σ') → W p l e room_1 s m args below meth c H1 locs1 cells slots Q (F0 m 1574 ls [])) : W p l e room_1 s m args below meth c H locs cells slots Q (F0 m 370 ls []) := by
  have hx := C.1
  have hb := C.2.1
  obtain ⟨r, X', σ', e5, e6, hR'⟩ := hstep k X σ (xs (x3 + 1).toNatClampNeg) (xs (x3 + 2).toNatClampNeg) (xs (x3 + 3).toNatClampNeg) hk hR
  refine lv_aload_n hx hb dL_law_370 rfl (lv_at hl 1 rfl) ?_
  refine lv_aload_n hx hb dL_law_371 rfl (lv_at hl 0 rfl) ?_
  refine lv_iload_n hx hb dL_law_372 rfl (lv_at hl 3 rfl) ?_
  refine lv_iconst (v := 1) hx hb dL_law_373 (by decide) ?_
  refine lv_iadd hx hb dL_law_374 ?_
  refine va_sld hx hb hX hbl hbA hW.2.2 h1 dL_law_375 ?_
  refine lv_aload_n hx hb dL_law_376 rfl (lv_at hl 0 rfl) ?_
  refine lv_iload_n hx hb dL_law_377 rfl (lv_at hl 3 rfl) ?_
  refine lv_iconst (v := 2) hx hb dL_law_378 (by decide) ?_
  refine lv_iadd hx hb dL_law_379 ?_
  refine va_sld hx hb hX hbl hbA hW.2.2 h2 dL_law_380 ?_
  refine lv_aload_n hx hb dL_law_381 rfl (lv_at hl 0 rfl) ?_
  refine lv_iload_n hx hb dL_law_382 rfl (lv_at hl 3 rfl) ?_
  refine lv_iconst (v := 3) hx hb dL_law_383 (by decide) ?_
  refine lv_iadd hx hb dL_law_384 ?_
  refine va_sld hx hb hX hbl hbA hW.2.2 h3 dL_law_385 ?_
  refine cX_i (As := [.int (xs (x3 + 1).toNatClampNeg), .int (xs (x3 + 2).toNatClampNeg), .int (xs (x3 + 3).toNatClampNeg)]) (rest := []) C hW (c_X5_apart e5) kX5_apart q304 rfl rfl rfl hl.1 ⟨Nat.le_of_ble_eq_true rfl, Nat.le_of_ble_eq_true rfl⟩ hcs (Nat.le_of_ble_eq_true rfl) dL_law_386 (fun H locs hW => ?_)
  refine lv_aload_n hx hb dL_law_389 rfl (lv_at hl 2 rfl) ?_
  refine lv_aload_n hx hb dL_law_390 rfl (lv_at hl 0 rfl) ?_
  refine lv_iload_n hx hb dL_law_391 rfl (lv_at hl 3 rfl) ?_
  refine lv_iconst (v := 1) hx hb dL_law_392 (by decide) ?_
  refine lv_iadd hx hb dL_law_393 ?_
  refine va_sld hx hb hX hbl hbA hW.2.2 h1 dL_law_394 ?_
  refine lv_aload_n hx hb dL_law_395 rfl (lv_at hl 0 rfl) ?_
  refine lv_iload_n hx hb dL_law_396 rfl (lv_at hl 3 rfl) ?_
  refine lv_iconst (v := 2) hx hb dL_law_397 (by decide) ?_
  refine lv_iadd hx hb dL_law_398 ?_
  refine va_sld hx hb hX hbl hbA hW.2.2 h2 dL_law_399 ?_
  refine lv_aload_n hx hb dL_law_400 rfl (lv_at hl 0 rfl) ?_
  refine lv_iload_n hx hb dL_law_401 rfl (lv_at hl 3 rfl) ?_
  refine lv_iconst (v := 3) hx hb dL_law_402 (by decide) ?_
  refine lv_iadd hx hb dL_law_403 ?_
  refine va_sld hx hb hX hbl hbA hW.2.2 h3 dL_law_404 ?_
  refine cY_i (As := [.int (xs (x3 + 1).toNatClampNeg), .int (xs (x3 + 2).toNatClampNeg), .int (xs (x3 + 3).toNatClampNeg)]) (rest := [.int r]) C hW (c_X6_apart e6) kX6_apart q919 rfl rfl rfl hl.1 ⟨Nat.le_of_ble_eq_true rfl, Nat.le_of_ble_eq_true rfl⟩ hcs (Nat.le_of_ble_eq_true rfl) dL_law_405 (fun H locs hW => ?_)
  refine lv_icmp_eq (tgt := 1574) hx hb dL_law_408 (by decide) (fun _ => ?_) (fun h9 => absurd rfl h9)
  exact kk X' σ' _ _ hR' hW
set_option maxHeartbeats 4000000 in
set_option maxRecDepth 100000 in
theorem law_pair {Rel : Nat → XS → MS → Prop} {z : ZT} {k b Ln : Nat} {xs : Nat → Int32} {x3 : Int32} (hgh : GH G z) (C : Cx p s m args c cL_law 4 "PumpTalkLaw" D cy cz G A) (hX : va_X b Ln xs s s.heap) (hbl : b < s.heap.size) (hbA : ¬ A b) (hk : k < 512) (hstep : St_pair Rel) (hR : Rel k X σ) (h1 : vp_in (x3 + 1) Ln) (h2 : vp_in (x3 + 2) Ln) (hl : lv_has ls 4 [(0, .ref b), (1, .ref (o 9 0)), (2, .ref (a 0)), (3, .int x3)]) (hcs : cells ≤ 600000 ∧ slots ≤ 7302250) (hW : Wd D A s.heap H locs (cLW o a cy cz X σ)) (kk : ∀ (X' : XS) (σ' : MS) (H1 : Heap) (locs1 : List Loc), Rel (k + 1) X' σ' → Wd D A s.heap H1 locs1 (cLW o a cy cz X' σ') → W p l e room_1 s m args below meth c H1 locs1 cells slots Q (F0 m 1574 ls [])) : W p l e room_1 s m args below meth c H locs cells slots Q (F0 m 413 ls []) := by
  have hx := C.1
  have hb := C.2.1
  obtain ⟨r, X', σ', e5, e6, hR'⟩ := hstep k X σ (xs (x3 + 1).toNatClampNeg) (xs (x3 + 2).toNatClampNeg) hk hR
  refine lv_aload_n hx hb dL_law_413 rfl (lv_at hl 1 rfl) ?_
  refine lv_aload_n hx hb dL_law_414 rfl (lv_at hl 0 rfl) ?_
  refine lv_iload_n hx hb dL_law_415 rfl (lv_at hl 3 rfl) ?_
  refine lv_iconst (v := 1) hx hb dL_law_416 (by decide) ?_
  refine lv_iadd hx hb dL_law_417 ?_
  refine va_sld hx hb hX hbl hbA hW.2.2 h1 dL_law_418 ?_
  refine lv_aload_n hx hb dL_law_419 rfl (lv_at hl 0 rfl) ?_
  refine lv_iload_n hx hb dL_law_420 rfl (lv_at hl 3 rfl) ?_
  refine lv_iconst (v := 2) hx hb dL_law_421 (by decide) ?_
  refine lv_iadd hx hb dL_law_422 ?_
  refine va_sld hx hb hX hbl hbA hW.2.2 h2 dL_law_423 ?_
  refine cX_i (As := [.int (xs (x3 + 1).toNatClampNeg), .int (xs (x3 + 2).toNatClampNeg)]) (rest := []) C hW (c_X5_pair e5) kX5_pair q318 rfl rfl rfl hl.1 ⟨Nat.le_of_ble_eq_true rfl, Nat.le_of_ble_eq_true rfl⟩ hcs (Nat.le_of_ble_eq_true rfl) dL_law_424 (fun H locs hW => ?_)
  refine lv_aload_n hx hb dL_law_427 rfl (lv_at hl 2 rfl) ?_
  refine lv_aload_n hx hb dL_law_428 rfl (lv_at hl 0 rfl) ?_
  refine lv_iload_n hx hb dL_law_429 rfl (lv_at hl 3 rfl) ?_
  refine lv_iconst (v := 1) hx hb dL_law_430 (by decide) ?_
  refine lv_iadd hx hb dL_law_431 ?_
  refine va_sld hx hb hX hbl hbA hW.2.2 h1 dL_law_432 ?_
  refine lv_aload_n hx hb dL_law_433 rfl (lv_at hl 0 rfl) ?_
  refine lv_iload_n hx hb dL_law_434 rfl (lv_at hl 3 rfl) ?_
  refine lv_iconst (v := 2) hx hb dL_law_435 (by decide) ?_
  refine lv_iadd hx hb dL_law_436 ?_
  refine va_sld hx hb hX hbl hbA hW.2.2 h2 dL_law_437 ?_
  refine cY_i (As := [.int (xs (x3 + 1).toNatClampNeg), .int (xs (x3 + 2).toNatClampNeg)]) (rest := [.int r]) C hW (c_X6_pair e6) kX6_pair q931 rfl rfl rfl hl.1 ⟨Nat.le_of_ble_eq_true rfl, Nat.le_of_ble_eq_true rfl⟩ hcs (Nat.le_of_ble_eq_true rfl) dL_law_438 (fun H locs hW => ?_)
  refine lv_icmp_eq (tgt := 1574) hx hb dL_law_441 (by decide) (fun _ => ?_) (fun h9 => absurd rfl h9)
  exact kk X' σ' _ _ hR' hW
set_option maxHeartbeats 4000000 in
set_option maxRecDepth 100000 in
theorem law_rest {Rel : Nat → XS → MS → Prop} {z : ZT} {k b Ln : Nat} {xs : Nat → Int32} {x3 : Int32} (hgh : GH G z) (C : Cx p s m args c cL_law 4 "PumpTalkLaw" D cy cz G A) (hX : va_X b Ln xs s s.heap) (hbl : b < s.heap.size) (hbA : ¬ A b) (hk : k < 512) (hstep : St_rest Rel) (hR : Rel k X σ)  (hl : lv_has ls 4 [(0, .ref b), (1, .ref (o 9 0)), (2, .ref (a 0)), (3, .int x3)]) (hcs : cells ≤ 600000 ∧ slots ≤ 7302250) (hW : Wd D A s.heap H locs (cLW o a cy cz X σ)) (kk : ∀ (X' : XS) (σ' : MS) (H1 : Heap) (locs1 : List Loc), Rel (k + 1) X' σ' → Wd D A s.heap H1 locs1 (cLW o a cy cz X' σ') → W p l e room_1 s m args below meth c H1 locs1 cells slots Q (F0 m 1574 ls [])) : W p l e room_1 s m args below meth c H locs cells slots Q (F0 m 446 ls []) := by
  have hx := C.1
  have hb := C.2.1
  obtain ⟨r, X', σ', e5, e6, hR'⟩ := hstep k X σ hk hR
  refine lv_aload_n hx hb dL_law_446 rfl (lv_at hl 1 rfl) ?_
  refine cX_i (As := []) (rest := []) C hW (c_X5_rest e5) kX5_rest q346 rfl rfl rfl hl.1 ⟨Nat.le_of_ble_eq_true rfl, Nat.le_of_ble_eq_true rfl⟩ hcs (Nat.le_of_ble_eq_true rfl) dL_law_447 (fun H locs hW => ?_)
  refine lv_aload_n hx hb dL_law_450 rfl (lv_at hl 2 rfl) ?_
  refine cY_i (As := []) (rest := [.int r]) C hW (c_X6_rest e6) kX6_rest q950 rfl rfl rfl hl.1 ⟨Nat.le_of_ble_eq_true rfl, Nat.le_of_ble_eq_true rfl⟩ hcs (Nat.le_of_ble_eq_true rfl) dL_law_451 (fun H locs hW => ?_)
  refine lv_icmp_eq (tgt := 1574) hx hb dL_law_454 (by decide) (fun _ => ?_) (fun h9 => absurd rfl h9)
  exact kk X' σ' _ _ hR' hW
set_option maxHeartbeats 4000000 in
set_option maxRecDepth 100000 in
theorem law_subject {Rel : Nat → XS → MS → Prop} {z : ZT} {k b Ln : Nat} {xs : Nat → Int32} {x3 : Int32} (hgh : GH G z) (C : Cx p s m args c cL_law 4 "PumpTalkLaw" D cy cz G A) (hX : va_X b Ln xs s s.heap) (hbl : b < s.heap.size) (hbA : ¬ A b) (hk : k < 512) (hstep : St_subject Rel) (hR : Rel k X σ) (h1 : vp_in (x3 + 1) Ln) (hl : lv_has ls 4 [(0, .ref b), (1, .ref (o 9 0)), (2, .ref (a 0)), (3, .int x3)]) (hcs : cells ≤ 600000 ∧ slots ≤ 7302250) (hW : Wd D A s.heap H locs (cLW o a cy cz X σ)) (kk : ∀ (X' : XS) (σ' : MS) (H1 : Heap) (locs1 : List Loc), Rel (k + 1) X' σ' → Wd D A s.heap H1 locs1 (cLW o a cy cz X' σ') → W p l e room_1 s m args below meth c H1 locs1 cells slots Q (F0 m 1574 ls [])) : W p l e room_1 s m args below meth c H locs cells slots Q (F0 m 459 ls []) := by
  have hx := C.1
  have hb := C.2.1
  obtain ⟨r, X', σ', e5, e6, hR'⟩ := hstep k X σ (xs (x3 + 1).toNatClampNeg) hk hR
  refine lv_aload_n hx hb dL_law_459 rfl (lv_at hl 1 rfl) ?_
  refine lv_aload_n hx hb dL_law_460 rfl (lv_at hl 0 rfl) ?_
  refine lv_iload_n hx hb dL_law_461 rfl (lv_at hl 3 rfl) ?_
  refine lv_iconst (v := 1) hx hb dL_law_462 (by decide) ?_
  refine lv_iadd hx hb dL_law_463 ?_
  refine va_sld hx hb hX hbl hbA hW.2.2 h1 dL_law_464 ?_
  refine cX_i (As := [.int (xs (x3 + 1).toNatClampNeg)]) (rest := []) C hW (c_X5_subject e5) kX5_subject q355 rfl rfl rfl hl.1 ⟨Nat.le_of_ble_eq_true rfl, Nat.le_of_ble_eq_true rfl⟩ hcs (Nat.le_of_ble_eq_true rfl) dL_law_465 (fun H locs hW => ?_)
  refine lv_aload_n hx hb dL_law_468 rfl (lv_at hl 2 rfl) ?_
  refine lv_aload_n hx hb dL_law_469 rfl (lv_at hl 0 rfl) ?_
  refine lv_iload_n hx hb dL_law_470 rfl (lv_at hl 3 rfl) ?_
  refine lv_iconst (v := 1) hx hb dL_law_471 (by decide) ?_
  refine lv_iadd hx hb dL_law_472 ?_
  refine va_sld hx hb hX hbl hbA hW.2.2 h1 dL_law_473 ?_
  refine cY_i (As := [.int (xs (x3 + 1).toNatClampNeg)]) (rest := [.int r]) C hW (c_X6_subject e6) kX6_subject q954 rfl rfl rfl hl.1 ⟨Nat.le_of_ble_eq_true rfl, Nat.le_of_ble_eq_true rfl⟩ hcs (Nat.le_of_ble_eq_true rfl) dL_law_474 (fun H locs hW => ?_)
  refine lv_icmp_eq (tgt := 1574) hx hb dL_law_477 (by decide) (fun _ => ?_) (fun h9 => absurd rfl h9)
  exact kk X' σ' _ _ hR' hW
set_option maxHeartbeats 4000000 in
set_option maxRecDepth 100000 in
theorem law_go {Rel : Nat → XS → MS → Prop} {z : ZT} {k b Ln : Nat} {xs : Nat → Int32} {x3 : Int32} (hgh : GH G z) (C : Cx p s m args c cL_law 4 "PumpTalkLaw" D cy cz G A) (hX : va_X b Ln xs s s.heap) (hbl : b < s.heap.size) (hbA : ¬ A b) (hk : k < 512) (hstep : St_go Rel) (hR : Rel k X σ) (h1 : vp_in (x3 + 1) Ln) (hl : lv_has ls 4 [(0, .ref b), (1, .ref (o 9 0)), (2, .ref (a 0)), (3, .int x3)]) (hcs : cells ≤ 600000 ∧ slots ≤ 7302250) (hW : Wd D A s.heap H locs (cLW o a cy cz X σ)) (kk : ∀ (X' : XS) (σ' : MS) (H1 : Heap) (locs1 : List Loc), Rel (k + 1) X' σ' → Wd D A s.heap H1 locs1 (cLW o a cy cz X' σ') → W p l e room_1 s m args below meth c H1 locs1 cells slots Q (F0 m 1574 ls [])) : W p l e room_1 s m args below meth c H locs cells slots Q (F0 m 482 ls []) := by
  have hx := C.1
  have hb := C.2.1
  obtain ⟨r, X', σ', e5, e6, hR'⟩ := hstep k X σ (xs (x3 + 1).toNatClampNeg) hk hR
  refine lv_aload_n hx hb dL_law_482 rfl (lv_at hl 1 rfl) ?_
  refine lv_aload_n hx hb dL_law_483 rfl (lv_at hl 0 rfl) ?_
  refine lv_iload_n hx hb dL_law_484 rfl (lv_at hl 3 rfl) ?_
  refine lv_iconst (v := 1) hx hb dL_law_485 (by decide) ?_
  refine lv_iadd hx hb dL_law_486 ?_
  refine va_sld hx hb hX hbl hbA hW.2.2 h1 dL_law_487 ?_
  refine cX_i (As := [.int (xs (x3 + 1).toNatClampNeg)]) (rest := []) C hW (c_X5_go e5) kX5_go q359 rfl rfl rfl hl.1 ⟨Nat.le_of_ble_eq_true rfl, Nat.le_of_ble_eq_true rfl⟩ hcs (Nat.le_of_ble_eq_true rfl) dL_law_488 (fun H locs hW => ?_)
  refine lv_aload_n hx hb dL_law_491 rfl (lv_at hl 2 rfl) ?_
  refine lv_aload_n hx hb dL_law_492 rfl (lv_at hl 0 rfl) ?_
  refine lv_iload_n hx hb dL_law_493 rfl (lv_at hl 3 rfl) ?_
  refine lv_iconst (v := 1) hx hb dL_law_494 (by decide) ?_
  refine lv_iadd hx hb dL_law_495 ?_
  refine va_sld hx hb hX hbl hbA hW.2.2 h1 dL_law_496 ?_
  refine cY_i (As := [.int (xs (x3 + 1).toNatClampNeg)]) (rest := [.int r]) C hW (c_X6_go e6) kX6_go q958 rfl rfl rfl hl.1 ⟨Nat.le_of_ble_eq_true rfl, Nat.le_of_ble_eq_true rfl⟩ hcs (Nat.le_of_ble_eq_true rfl) dL_law_497 (fun H locs hW => ?_)
  refine lv_icmp_eq (tgt := 1574) hx hb dL_law_500 (by decide) (fun _ => ?_) (fun h9 => absurd rfl h9)
  exact kk X' σ' _ _ hR' hW
set_option maxHeartbeats 4000000 in
set_option maxRecDepth 100000 in
theorem law_now {Rel : Nat → XS → MS → Prop} {z : ZT} {k b Ln : Nat} {xs : Nat → Int32} {x3 : Int32} (hgh : GH G z) (C : Cx p s m args c cL_law 4 "PumpTalkLaw" D cy cz G A) (hX : va_X b Ln xs s s.heap) (hbl : b < s.heap.size) (hbA : ¬ A b) (hk : k < 512) (hstep : St_now Rel) (hR : Rel k X σ) (h1 : vp_in (x3 + 1) Ln) (hl : lv_has ls 4 [(0, .ref b), (1, .ref (o 9 0)), (2, .ref (a 0)), (3, .int x3)]) (hcs : cells ≤ 600000 ∧ slots ≤ 7302250) (hW : Wd D A s.heap H locs (cLW o a cy cz X σ)) (kk : ∀ (X' : XS) (σ' : MS) (H1 : Heap) (locs1 : List Loc), Rel (k + 1) X' σ' → Wd D A s.heap H1 locs1 (cLW o a cy cz X' σ') → W p l e room_1 s m args below meth c H1 locs1 cells slots Q (F0 m 1574 ls [])) : W p l e room_1 s m args below meth c H locs cells slots Q (F0 m 505 ls []) := by
  have hx := C.1
  have hb := C.2.1
  obtain ⟨r, X', σ', e5, e6, hR'⟩ := hstep k X σ (xs (x3 + 1).toNatClampNeg) hk hR
  refine lv_aload_n hx hb dL_law_505 rfl (lv_at hl 1 rfl) ?_
  refine lv_aload_n hx hb dL_law_506 rfl (lv_at hl 0 rfl) ?_
  refine lv_iload_n hx hb dL_law_507 rfl (lv_at hl 3 rfl) ?_
  refine lv_iconst (v := 1) hx hb dL_law_508 (by decide) ?_
  refine lv_iadd hx hb dL_law_509 ?_
  refine va_sld hx hb hX hbl hbA hW.2.2 h1 dL_law_510 ?_
  refine cX_i (As := [.int (xs (x3 + 1).toNatClampNeg)]) (rest := []) C hW (c_X5_now e5) kX5_now q385 rfl rfl rfl hl.1 ⟨Nat.le_of_ble_eq_true rfl, Nat.le_of_ble_eq_true rfl⟩ hcs (Nat.le_of_ble_eq_true rfl) dL_law_511 (fun H locs hW => ?_)
  refine lv_aload_n hx hb dL_law_514 rfl (lv_at hl 2 rfl) ?_
  refine lv_aload_n hx hb dL_law_515 rfl (lv_at hl 0 rfl) ?_
  refine lv_iload_n hx hb dL_law_516 rfl (lv_at hl 3 rfl) ?_
  refine lv_iconst (v := 1) hx hb dL_law_517 (by decide) ?_
  refine lv_iadd hx hb dL_law_518 ?_
  refine va_sld hx hb hX hbl hbA hW.2.2 h1 dL_law_519 ?_
  refine cY_i (As := [.int (xs (x3 + 1).toNatClampNeg)]) (rest := [.int r]) C hW (c_X6_now e6) kX6_now q981 rfl rfl rfl hl.1 ⟨Nat.le_of_ble_eq_true rfl, Nat.le_of_ble_eq_true rfl⟩ hcs (Nat.le_of_ble_eq_true rfl) dL_law_520 (fun H locs hW => ?_)
  refine lv_icmp_eq (tgt := 1574) hx hb dL_law_523 (by decide) (fun _ => ?_) (fun h9 => absurd rfl h9)
  exact kk X' σ' _ _ hR' hW
set_option maxHeartbeats 4000000 in
set_option maxRecDepth 100000 in
theorem law_ahead {Rel : Nat → XS → MS → Prop} {z : ZT} {k b Ln : Nat} {xs : Nat → Int32} {x3 : Int32} (hgh : GH G z) (C : Cx p s m args c cL_law 4 "PumpTalkLaw" D cy cz G A) (hX : va_X b Ln xs s s.heap) (hbl : b < s.heap.size) (hbA : ¬ A b) (hk : k < 512) (hstep : St_ahead Rel) (hR : Rel k X σ) (h1 : vp_in (x3 + 1) Ln) (hl : lv_has ls 4 [(0, .ref b), (1, .ref (o 9 0)), (2, .ref (a 0)), (3, .int x3)]) (hcs : cells ≤ 600000 ∧ slots ≤ 7302250) (hW : Wd D A s.heap H locs (cLW o a cy cz X σ)) (kk : ∀ (X' : XS) (σ' : MS) (H1 : Heap) (locs1 : List Loc), Rel (k + 1) X' σ' → Wd D A s.heap H1 locs1 (cLW o a cy cz X' σ') → W p l e room_1 s m args below meth c H1 locs1 cells slots Q (F0 m 1574 ls [])) : W p l e room_1 s m args below meth c H locs cells slots Q (F0 m 528 ls []) := by
  have hx := C.1
  have hb := C.2.1
  obtain ⟨r, X', σ', e5, e6, hR'⟩ := hstep k X σ (xs (x3 + 1).toNatClampNeg) hk hR
  refine lv_aload_n hx hb dL_law_528 rfl (lv_at hl 1 rfl) ?_
  refine lv_aload_n hx hb dL_law_529 rfl (lv_at hl 0 rfl) ?_
  refine lv_iload_n hx hb dL_law_530 rfl (lv_at hl 3 rfl) ?_
  refine lv_iconst (v := 1) hx hb dL_law_531 (by decide) ?_
  refine lv_iadd hx hb dL_law_532 ?_
  refine va_sld hx hb hX hbl hbA hW.2.2 h1 dL_law_533 ?_
  refine cX_i (As := [.int (xs (x3 + 1).toNatClampNeg)]) (rest := []) C hW (c_X5_ahead e5) kX5_ahead q396 rfl rfl rfl hl.1 ⟨Nat.le_of_ble_eq_true rfl, Nat.le_of_ble_eq_true rfl⟩ hcs (Nat.le_of_ble_eq_true rfl) dL_law_534 (fun H locs hW => ?_)
  refine lv_aload_n hx hb dL_law_537 rfl (lv_at hl 2 rfl) ?_
  refine lv_aload_n hx hb dL_law_538 rfl (lv_at hl 0 rfl) ?_
  refine lv_iload_n hx hb dL_law_539 rfl (lv_at hl 3 rfl) ?_
  refine lv_iconst (v := 1) hx hb dL_law_540 (by decide) ?_
  refine lv_iadd hx hb dL_law_541 ?_
  refine va_sld hx hb hX hbl hbA hW.2.2 h1 dL_law_542 ?_
  refine cY_i (As := [.int (xs (x3 + 1).toNatClampNeg)]) (rest := [.int r]) C hW (c_X6_ahead e6) kX6_ahead q989 rfl rfl rfl hl.1 ⟨Nat.le_of_ble_eq_true rfl, Nat.le_of_ble_eq_true rfl⟩ hcs (Nat.le_of_ble_eq_true rfl) dL_law_543 (fun H locs hW => ?_)
  refine lv_icmp_eq (tgt := 1574) hx hb dL_law_546 (by decide) (fun _ => ?_) (fun h9 => absurd rfl h9)
  exact kk X' σ' _ _ hR' hW
set_option maxHeartbeats 4000000 in
set_option maxRecDepth 100000 in
theorem law_view {Rel : Nat → XS → MS → Prop} {z : ZT} {k b Ln : Nat} {xs : Nat → Int32} {x3 : Int32} (hgh : GH G z) (C : Cx p s m args c cL_law 4 "PumpTalkLaw" D cy cz G A) (hX : va_X b Ln xs s s.heap) (hbl : b < s.heap.size) (hbA : ¬ A b) (hk : k < 512) (hstep : St_view Rel) (hR : Rel k X σ) (h1 : vp_in (x3 + 1) Ln) (h2 : vp_in (x3 + 2) Ln) (h3 : vp_in (x3 + 3) Ln) (hl : lv_has ls 4 [(0, .ref b), (1, .ref (o 9 0)), (2, .ref (a 0)), (3, .int x3)]) (hcs : cells ≤ 600000 ∧ slots ≤ 7302250) (hW : Wd D A s.heap H locs (cLW o a cy cz X σ)) (kk : ∀ (X' : XS) (σ' : MS) (H1 : Heap) (locs1 : List Loc), Rel (k + 1) X' σ' → Wd D A s.heap H1 locs1 (cLW o a cy cz X' σ') → W p l e room_1 s m args below meth c H1 locs1 cells slots Q (F0 m 1574 ls [])) : W p l e room_1 s m args below meth c H locs cells slots Q (F0 m 551 ls []) := by
  have hx := C.1
  have hb := C.2.1
  obtain ⟨r, X', σ', e5, e6, hR'⟩ := hstep k X σ (xs (x3 + 1).toNatClampNeg) (xs (x3 + 2).toNatClampNeg) (xs (x3 + 3).toNatClampNeg) hk hR
  refine lv_aload_n hx hb dL_law_551 rfl (lv_at hl 1 rfl) ?_
  refine lv_aload_n hx hb dL_law_552 rfl (lv_at hl 0 rfl) ?_
  refine lv_iload_n hx hb dL_law_553 rfl (lv_at hl 3 rfl) ?_
  refine lv_iconst (v := 1) hx hb dL_law_554 (by decide) ?_
  refine lv_iadd hx hb dL_law_555 ?_
  refine va_sld hx hb hX hbl hbA hW.2.2 h1 dL_law_556 ?_
  refine lv_aload_n hx hb dL_law_557 rfl (lv_at hl 0 rfl) ?_
  refine lv_iload_n hx hb dL_law_558 rfl (lv_at hl 3 rfl) ?_
  refine lv_iconst (v := 2) hx hb dL_law_559 (by decide) ?_
  refine lv_iadd hx hb dL_law_560 ?_
  refine va_sld hx hb hX hbl hbA hW.2.2 h2 dL_law_561 ?_
  refine lv_aload_n hx hb dL_law_562 rfl (lv_at hl 0 rfl) ?_
  refine lv_iload_n hx hb dL_law_563 rfl (lv_at hl 3 rfl) ?_
  refine lv_iconst (v := 3) hx hb dL_law_564 (by decide) ?_
  refine lv_iadd hx hb dL_law_565 ?_
  refine va_sld hx hb hX hbl hbA hW.2.2 h3 dL_law_566 ?_
  refine cX_i (As := [.int (xs (x3 + 1).toNatClampNeg), .int (xs (x3 + 2).toNatClampNeg), .int (xs (x3 + 3).toNatClampNeg)]) (rest := []) C hW (c_X5_view e5) kX5_view q407 rfl rfl rfl hl.1 ⟨Nat.le_of_ble_eq_true rfl, Nat.le_of_ble_eq_true rfl⟩ hcs (Nat.le_of_ble_eq_true rfl) dL_law_567 (fun H locs hW => ?_)
  refine lv_aload_n hx hb dL_law_570 rfl (lv_at hl 2 rfl) ?_
  refine lv_aload_n hx hb dL_law_571 rfl (lv_at hl 0 rfl) ?_
  refine lv_iload_n hx hb dL_law_572 rfl (lv_at hl 3 rfl) ?_
  refine lv_iconst (v := 1) hx hb dL_law_573 (by decide) ?_
  refine lv_iadd hx hb dL_law_574 ?_
  refine va_sld hx hb hX hbl hbA hW.2.2 h1 dL_law_575 ?_
  refine lv_aload_n hx hb dL_law_576 rfl (lv_at hl 0 rfl) ?_
  refine lv_iload_n hx hb dL_law_577 rfl (lv_at hl 3 rfl) ?_
  refine lv_iconst (v := 2) hx hb dL_law_578 (by decide) ?_
  refine lv_iadd hx hb dL_law_579 ?_
  refine va_sld hx hb hX hbl hbA hW.2.2 h2 dL_law_580 ?_
  refine lv_aload_n hx hb dL_law_581 rfl (lv_at hl 0 rfl) ?_
  refine lv_iload_n hx hb dL_law_582 rfl (lv_at hl 3 rfl) ?_
  refine lv_iconst (v := 3) hx hb dL_law_583 (by decide) ?_
  refine lv_iadd hx hb dL_law_584 ?_
  refine va_sld hx hb hX hbl hbA hW.2.2 h3 dL_law_585 ?_
  refine cY_i (As := [.int (xs (x3 + 1).toNatClampNeg), .int (xs (x3 + 2).toNatClampNeg), .int (xs (x3 + 3).toNatClampNeg)]) (rest := [.int r]) C hW (c_X6_view e6) kX6_view q1006 rfl rfl rfl hl.1 ⟨Nat.le_of_ble_eq_true rfl, Nat.le_of_ble_eq_true rfl⟩ hcs (Nat.le_of_ble_eq_true rfl) dL_law_586 (fun H locs hW => ?_)
  refine lv_icmp_eq (tgt := 1574) hx hb dL_law_589 (by decide) (fun _ => ?_) (fun h9 => absurd rfl h9)
  exact kk X' σ' _ _ hR' hW
set_option maxHeartbeats 4000000 in
set_option maxRecDepth 100000 in
theorem law_dry {Rel : Nat → XS → MS → Prop} {z : ZT} {k b Ln : Nat} {xs : Nat → Int32} {x3 : Int32} (hgh : GH G z) (C : Cx p s m args c cL_law 4 "PumpTalkLaw" D cy cz G A) (hX : va_X b Ln xs s s.heap) (hbl : b < s.heap.size) (hbA : ¬ A b) (hk : k < 512) (hstep : St_dry Rel) (hR : Rel k X σ)  (hl : lv_has ls 4 [(0, .ref b), (1, .ref (o 9 0)), (2, .ref (a 0)), (3, .int x3)]) (hcs : cells ≤ 600000 ∧ slots ≤ 7302250) (hW : Wd D A s.heap H locs (cLW o a cy cz X σ)) (kk : ∀ (X' : XS) (σ' : MS) (H1 : Heap) (locs1 : List Loc), Rel (k + 1) X' σ' → Wd D A s.heap H1 locs1 (cLW o a cy cz X' σ') → W p l e room_1 s m args below meth c H1 locs1 cells slots Q (F0 m 1574 ls [])) : W p l e room_1 s m args below meth c H locs cells slots Q (F0 m 594 ls []) := by
  have hx := C.1
  have hb := C.2.1
  obtain ⟨r, X', σ', e5, e6, hR'⟩ := hstep k X σ hk hR
  refine lv_aload_n hx hb dL_law_594 rfl (lv_at hl 1 rfl) ?_
  refine cX_i (As := []) (rest := []) C hW (c_X5_dry e5) kX5_dry q412 rfl rfl rfl hl.1 ⟨Nat.le_of_ble_eq_true rfl, Nat.le_of_ble_eq_true rfl⟩ hcs (Nat.le_of_ble_eq_true rfl) dL_law_595 (fun H locs hW => ?_)
  refine lv_aload_n hx hb dL_law_598 rfl (lv_at hl 2 rfl) ?_
  refine cY_i (As := []) (rest := [.int r]) C hW (c_X6_dry e6) kX6_dry q1010 rfl rfl rfl hl.1 ⟨Nat.le_of_ble_eq_true rfl, Nat.le_of_ble_eq_true rfl⟩ hcs (Nat.le_of_ble_eq_true rfl) dL_law_599 (fun H locs hW => ?_)
  refine lv_icmp_eq (tgt := 1574) hx hb dL_law_602 (by decide) (fun _ => ?_) (fun h9 => absurd rfl h9)
  exact kk X' σ' _ _ hR' hW
set_option maxHeartbeats 4000000 in
set_option maxRecDepth 100000 in
theorem law_filled {Rel : Nat → XS → MS → Prop} {z : ZT} {k b Ln : Nat} {xs : Nat → Int32} {x3 : Int32} (hgh : GH G z) (C : Cx p s m args c cL_law 4 "PumpTalkLaw" D cy cz G A) (hX : va_X b Ln xs s s.heap) (hbl : b < s.heap.size) (hbA : ¬ A b) (hk : k < 512) (hstep : St_filled Rel) (hR : Rel k X σ) (h1 : vp_in (x3 + 1) Ln) (hl : lv_has ls 4 [(0, .ref b), (1, .ref (o 9 0)), (2, .ref (a 0)), (3, .int x3)]) (hcs : cells ≤ 600000 ∧ slots ≤ 7302250) (hW : Wd D A s.heap H locs (cLW o a cy cz X σ)) (kk : ∀ (X' : XS) (σ' : MS) (H1 : Heap) (locs1 : List Loc), Rel (k + 1) X' σ' → Wd D A s.heap H1 locs1 (cLW o a cy cz X' σ') → W p l e room_1 s m args below meth c H1 locs1 cells slots Q (F0 m 1574 ls [])) : W p l e room_1 s m args below meth c H locs cells slots Q (F0 m 607 ls []) := by
  have hx := C.1
  have hb := C.2.1
  obtain ⟨r, X', σ', e5, e6, hR'⟩ := hstep k X σ (xs (x3 + 1).toNatClampNeg) hk hR
  refine lv_aload_n hx hb dL_law_607 rfl (lv_at hl 1 rfl) ?_
  refine lv_aload_n hx hb dL_law_608 rfl (lv_at hl 0 rfl) ?_
  refine lv_iload_n hx hb dL_law_609 rfl (lv_at hl 3 rfl) ?_
  refine lv_iconst (v := 1) hx hb dL_law_610 (by decide) ?_
  refine lv_iadd hx hb dL_law_611 ?_
  refine va_sld hx hb hX hbl hbA hW.2.2 h1 dL_law_612 ?_
  refine cX_i (As := [.int (xs (x3 + 1).toNatClampNeg)]) (rest := []) C hW (c_X5_filled e5) kX5_filled q418 rfl rfl rfl hl.1 ⟨Nat.le_of_ble_eq_true rfl, Nat.le_of_ble_eq_true rfl⟩ hcs (Nat.le_of_ble_eq_true rfl) dL_law_613 (fun H locs hW => ?_)
  refine lv_aload_n hx hb dL_law_616 rfl (lv_at hl 2 rfl) ?_
  refine lv_aload_n hx hb dL_law_617 rfl (lv_at hl 0 rfl) ?_
  refine lv_iload_n hx hb dL_law_618 rfl (lv_at hl 3 rfl) ?_
  refine lv_iconst (v := 1) hx hb dL_law_619 (by decide) ?_
  refine lv_iadd hx hb dL_law_620 ?_
  refine va_sld hx hb hX hbl hbA hW.2.2 h1 dL_law_621 ?_
  refine cY_i (As := [.int (xs (x3 + 1).toNatClampNeg)]) (rest := [.int r]) C hW (c_X6_filled e6) kX6_filled q1019 rfl rfl rfl hl.1 ⟨Nat.le_of_ble_eq_true rfl, Nat.le_of_ble_eq_true rfl⟩ hcs (Nat.le_of_ble_eq_true rfl) dL_law_622 (fun H locs hW => ?_)
  refine lv_icmp_eq (tgt := 1574) hx hb dL_law_625 (by decide) (fun _ => ?_) (fun h9 => absurd rfl h9)
  exact kk X' σ' _ _ hR' hW
set_option maxHeartbeats 4000000 in
set_option maxRecDepth 100000 in
theorem law_round {Rel : Nat → XS → MS → Prop} {z : ZT} {k b Ln : Nat} {xs : Nat → Int32} {x3 : Int32} (hgh : GH G z) (C : Cx p s m args c cL_law 4 "PumpTalkLaw" D cy cz G A) (hX : va_X b Ln xs s s.heap) (hbl : b < s.heap.size) (hbA : ¬ A b) (hk : k < 512) (hstep : St_round Rel) (hR : Rel k X σ)  (hl : lv_has ls 4 [(0, .ref b), (1, .ref (o 9 0)), (2, .ref (a 0)), (3, .int x3)]) (hcs : cells ≤ 600000 ∧ slots ≤ 7302250) (hW : Wd D A s.heap H locs (cLW o a cy cz X σ)) (kk : ∀ (X' : XS) (σ' : MS) (H1 : Heap) (locs1 : List Loc), Rel (k + 1) X' σ' → Wd D A s.heap H1 locs1 (cLW o a cy cz X' σ') → W p l e room_1 s m args below meth c H1 locs1 cells slots Q (F0 m 1574 ls [])) : W p l e room_1 s m args below meth c H locs cells slots Q (F0 m 630 ls []) := by
  have hx := C.1
  have hb := C.2.1
  obtain ⟨r, X', σ', e5, e6, hR'⟩ := hstep k X σ hk hR
  refine lv_aload_n hx hb dL_law_630 rfl (lv_at hl 1 rfl) ?_
  refine cX_i (As := []) (rest := []) C hW (c_X5_round e5) kX5_round q423 rfl rfl rfl hl.1 ⟨Nat.le_of_ble_eq_true rfl, Nat.le_of_ble_eq_true rfl⟩ hcs (Nat.le_of_ble_eq_true rfl) dL_law_631 (fun H locs hW => ?_)
  refine lv_aload_n hx hb dL_law_634 rfl (lv_at hl 2 rfl) ?_
  refine cY_i (As := []) (rest := [.int r]) C hW (c_X6_round e6) kX6_round q1024 rfl rfl rfl hl.1 ⟨Nat.le_of_ble_eq_true rfl, Nat.le_of_ble_eq_true rfl⟩ hcs (Nat.le_of_ble_eq_true rfl) dL_law_635 (fun H locs hW => ?_)
  refine lv_icmp_eq (tgt := 1574) hx hb dL_law_638 (by decide) (fun _ => ?_) (fun h9 => absurd rfl h9)
  exact kk X' σ' _ _ hR' hW
set_option maxHeartbeats 4000000 in
set_option maxRecDepth 100000 in
theorem law_gives {Rel : Nat → XS → MS → Prop} {z : ZT} {k b Ln : Nat} {xs : Nat → Int32} {x3 : Int32} (hgh : GH G z) (C : Cx p s m args c cL_law 4 "PumpTalkLaw" D cy cz G A) (hX : va_X b Ln xs s s.heap) (hbl : b < s.heap.size) (hbA : ¬ A b) (hk : k < 512) (hstep : St_gives Rel) (hR : Rel k X σ) (h1 : vp_in (x3 + 1) Ln) (h2 : vp_in (x3 + 2) Ln) (h3 : vp_in (x3 + 3) Ln) (hl : lv_has ls 4 [(0, .ref b), (1, .ref (o 9 0)), (2, .ref (a 0)), (3, .int x3)]) (hcs : cells ≤ 600000 ∧ slots ≤ 7302250) (hW : Wd D A s.heap H locs (cLW o a cy cz X σ)) (kk : ∀ (X' : XS) (σ' : MS) (H1 : Heap) (locs1 : List Loc), Rel (k + 1) X' σ' → Wd D A s.heap H1 locs1 (cLW o a cy cz X' σ') → W p l e room_1 s m args below meth c H1 locs1 cells slots Q (F0 m 1574 ls [])) : W p l e room_1 s m args below meth c H locs cells slots Q (F0 m 643 ls []) := by
  have hx := C.1
  have hb := C.2.1
  obtain ⟨r, X', σ', e5, e6, hR'⟩ := hstep k X σ (xs (x3 + 1).toNatClampNeg) (xs (x3 + 2).toNatClampNeg) (xs (x3 + 3).toNatClampNeg) hk hR
  refine lv_aload_n hx hb dL_law_643 rfl (lv_at hl 1 rfl) ?_
  refine lv_aload_n hx hb dL_law_644 rfl (lv_at hl 0 rfl) ?_
  refine lv_iload_n hx hb dL_law_645 rfl (lv_at hl 3 rfl) ?_
  refine lv_iconst (v := 1) hx hb dL_law_646 (by decide) ?_
  refine lv_iadd hx hb dL_law_647 ?_
  refine va_sld hx hb hX hbl hbA hW.2.2 h1 dL_law_648 ?_
  refine lv_aload_n hx hb dL_law_649 rfl (lv_at hl 0 rfl) ?_
  refine lv_iload_n hx hb dL_law_650 rfl (lv_at hl 3 rfl) ?_
  refine lv_iconst (v := 2) hx hb dL_law_651 (by decide) ?_
  refine lv_iadd hx hb dL_law_652 ?_
  refine va_sld hx hb hX hbl hbA hW.2.2 h2 dL_law_653 ?_
  refine lv_aload_n hx hb dL_law_654 rfl (lv_at hl 0 rfl) ?_
  refine lv_iload_n hx hb dL_law_655 rfl (lv_at hl 3 rfl) ?_
  refine lv_iconst (v := 3) hx hb dL_law_656 (by decide) ?_
  refine lv_iadd hx hb dL_law_657 ?_
  refine va_sld hx hb hX hbl hbA hW.2.2 h3 dL_law_658 ?_
  refine cX_i (As := [.int (xs (x3 + 1).toNatClampNeg), .int (xs (x3 + 2).toNatClampNeg), .int (xs (x3 + 3).toNatClampNeg)]) (rest := []) C hW (c_X5_gives e5) kX5_gives q431 rfl rfl rfl hl.1 ⟨Nat.le_of_ble_eq_true rfl, Nat.le_of_ble_eq_true rfl⟩ hcs (Nat.le_of_ble_eq_true rfl) dL_law_659 (fun H locs hW => ?_)
  refine lv_aload_n hx hb dL_law_662 rfl (lv_at hl 2 rfl) ?_
  refine lv_aload_n hx hb dL_law_663 rfl (lv_at hl 0 rfl) ?_
  refine lv_iload_n hx hb dL_law_664 rfl (lv_at hl 3 rfl) ?_
  refine lv_iconst (v := 1) hx hb dL_law_665 (by decide) ?_
  refine lv_iadd hx hb dL_law_666 ?_
  refine va_sld hx hb hX hbl hbA hW.2.2 h1 dL_law_667 ?_
  refine lv_aload_n hx hb dL_law_668 rfl (lv_at hl 0 rfl) ?_
  refine lv_iload_n hx hb dL_law_669 rfl (lv_at hl 3 rfl) ?_
  refine lv_iconst (v := 2) hx hb dL_law_670 (by decide) ?_
  refine lv_iadd hx hb dL_law_671 ?_
  refine va_sld hx hb hX hbl hbA hW.2.2 h2 dL_law_672 ?_
  refine lv_aload_n hx hb dL_law_673 rfl (lv_at hl 0 rfl) ?_
  refine lv_iload_n hx hb dL_law_674 rfl (lv_at hl 3 rfl) ?_
  refine lv_iconst (v := 3) hx hb dL_law_675 (by decide) ?_
  refine lv_iadd hx hb dL_law_676 ?_
  refine va_sld hx hb hX hbl hbA hW.2.2 h3 dL_law_677 ?_
  refine cY_i (As := [.int (xs (x3 + 1).toNatClampNeg), .int (xs (x3 + 2).toNatClampNeg), .int (xs (x3 + 3).toNatClampNeg)]) (rest := [.int r]) C hW (c_X6_gives e6) kX6_gives q1032 rfl rfl rfl hl.1 ⟨Nat.le_of_ble_eq_true rfl, Nat.le_of_ble_eq_true rfl⟩ hcs (Nat.le_of_ble_eq_true rfl) dL_law_678 (fun H locs hW => ?_)
  refine lv_icmp_eq (tgt := 1574) hx hb dL_law_681 (by decide) (fun _ => ?_) (fun h9 => absurd rfl h9)
  exact kk X' σ' _ _ hR' hW
set_option maxHeartbeats 4000000 in
set_option maxRecDepth 100000 in
theorem law_best {Rel : Nat → XS → MS → Prop} {z : ZT} {k b Ln : Nat} {xs : Nat → Int32} {x3 : Int32} (hgh : GH G z) (C : Cx p s m args c cL_law 4 "PumpTalkLaw" D cy cz G A) (hX : va_X b Ln xs s s.heap) (hbl : b < s.heap.size) (hbA : ¬ A b) (hk : k < 512) (hstep : St_best Rel) (hR : Rel k X σ) (h1 : vp_in (x3 + 1) Ln) (hl : lv_has ls 4 [(0, .ref b), (1, .ref (o 9 0)), (2, .ref (a 0)), (3, .int x3)]) (hcs : cells ≤ 600000 ∧ slots ≤ 7302250) (hW : Wd D A s.heap H locs (cLW o a cy cz X σ)) (kk : ∀ (X' : XS) (σ' : MS) (H1 : Heap) (locs1 : List Loc), Rel (k + 1) X' σ' → Wd D A s.heap H1 locs1 (cLW o a cy cz X' σ') → W p l e room_1 s m args below meth c H1 locs1 cells slots Q (F0 m 1574 ls [])) : W p l e room_1 s m args below meth c H locs cells slots Q (F0 m 686 ls []) := by
  have hx := C.1
  have hb := C.2.1
  obtain ⟨r, X', σ', e5, e6, hR'⟩ := hstep k X σ (xs (x3 + 1).toNatClampNeg) hk hR
  refine lv_aload_n hx hb dL_law_686 rfl (lv_at hl 1 rfl) ?_
  refine lv_aload_n hx hb dL_law_687 rfl (lv_at hl 0 rfl) ?_
  refine lv_iload_n hx hb dL_law_688 rfl (lv_at hl 3 rfl) ?_
  refine lv_iconst (v := 1) hx hb dL_law_689 (by decide) ?_
  refine lv_iadd hx hb dL_law_690 ?_
  refine va_sld hx hb hX hbl hbA hW.2.2 h1 dL_law_691 ?_
  refine cX_i (As := [.int (xs (x3 + 1).toNatClampNeg)]) (rest := []) C hW (c_X5_best e5) kX5_best q444 rfl rfl rfl hl.1 ⟨Nat.le_of_ble_eq_true rfl, Nat.le_of_ble_eq_true rfl⟩ hcs (Nat.le_of_ble_eq_true rfl) dL_law_692 (fun H locs hW => ?_)
  refine lv_aload_n hx hb dL_law_695 rfl (lv_at hl 2 rfl) ?_
  refine lv_aload_n hx hb dL_law_696 rfl (lv_at hl 0 rfl) ?_
  refine lv_iload_n hx hb dL_law_697 rfl (lv_at hl 3 rfl) ?_
  refine lv_iconst (v := 1) hx hb dL_law_698 (by decide) ?_
  refine lv_iadd hx hb dL_law_699 ?_
  refine va_sld hx hb hX hbl hbA hW.2.2 h1 dL_law_700 ?_
  refine cY_i (As := [.int (xs (x3 + 1).toNatClampNeg)]) (rest := [.int r]) C hW (c_X6_best e6) kX6_best q1044 rfl rfl rfl hl.1 ⟨Nat.le_of_ble_eq_true rfl, Nat.le_of_ble_eq_true rfl⟩ hcs (Nat.le_of_ble_eq_true rfl) dL_law_701 (fun H locs hW => ?_)
  refine lv_icmp_eq (tgt := 1574) hx hb dL_law_704 (by decide) (fun _ => ?_) (fun h9 => absurd rfl h9)
  exact kk X' σ' _ _ hR' hW
set_option maxHeartbeats 4000000 in
set_option maxRecDepth 100000 in
theorem law_partner {Rel : Nat → XS → MS → Prop} {z : ZT} {k b Ln : Nat} {xs : Nat → Int32} {x3 : Int32} (hgh : GH G z) (C : Cx p s m args c cL_law 4 "PumpTalkLaw" D cy cz G A) (hX : va_X b Ln xs s s.heap) (hbl : b < s.heap.size) (hbA : ¬ A b) (hk : k < 512) (hstep : St_partner Rel) (hR : Rel k X σ) (h1 : vp_in (x3 + 1) Ln) (h2 : vp_in (x3 + 2) Ln) (hl : lv_has ls 4 [(0, .ref b), (1, .ref (o 9 0)), (2, .ref (a 0)), (3, .int x3)]) (hcs : cells ≤ 600000 ∧ slots ≤ 7302250) (hW : Wd D A s.heap H locs (cLW o a cy cz X σ)) (kk : ∀ (X' : XS) (σ' : MS) (H1 : Heap) (locs1 : List Loc), Rel (k + 1) X' σ' → Wd D A s.heap H1 locs1 (cLW o a cy cz X' σ') → W p l e room_1 s m args below meth c H1 locs1 cells slots Q (F0 m 1574 ls [])) : W p l e room_1 s m args below meth c H locs cells slots Q (F0 m 709 ls []) := by
  have hx := C.1
  have hb := C.2.1
  obtain ⟨r, X', σ', e5, e6, hR'⟩ := hstep k X σ (xs (x3 + 1).toNatClampNeg) (xs (x3 + 2).toNatClampNeg) hk hR
  refine lv_aload_n hx hb dL_law_709 rfl (lv_at hl 1 rfl) ?_
  refine lv_aload_n hx hb dL_law_710 rfl (lv_at hl 0 rfl) ?_
  refine lv_iload_n hx hb dL_law_711 rfl (lv_at hl 3 rfl) ?_
  refine lv_iconst (v := 1) hx hb dL_law_712 (by decide) ?_
  refine lv_iadd hx hb dL_law_713 ?_
  refine va_sld hx hb hX hbl hbA hW.2.2 h1 dL_law_714 ?_
  refine lv_aload_n hx hb dL_law_715 rfl (lv_at hl 0 rfl) ?_
  refine lv_iload_n hx hb dL_law_716 rfl (lv_at hl 3 rfl) ?_
  refine lv_iconst (v := 2) hx hb dL_law_717 (by decide) ?_
  refine lv_iadd hx hb dL_law_718 ?_
  refine va_sld hx hb hX hbl hbA hW.2.2 h2 dL_law_719 ?_
  refine cX_i (As := [.int (xs (x3 + 1).toNatClampNeg), .int (xs (x3 + 2).toNatClampNeg)]) (rest := []) C hW (c_X5_partner e5) kX5_partner q448 rfl rfl rfl hl.1 ⟨Nat.le_of_ble_eq_true rfl, Nat.le_of_ble_eq_true rfl⟩ hcs (Nat.le_of_ble_eq_true rfl) dL_law_720 (fun H locs hW => ?_)
  refine lv_aload_n hx hb dL_law_723 rfl (lv_at hl 2 rfl) ?_
  refine lv_aload_n hx hb dL_law_724 rfl (lv_at hl 0 rfl) ?_
  refine lv_iload_n hx hb dL_law_725 rfl (lv_at hl 3 rfl) ?_
  refine lv_iconst (v := 1) hx hb dL_law_726 (by decide) ?_
  refine lv_iadd hx hb dL_law_727 ?_
  refine va_sld hx hb hX hbl hbA hW.2.2 h1 dL_law_728 ?_
  refine lv_aload_n hx hb dL_law_729 rfl (lv_at hl 0 rfl) ?_
  refine lv_iload_n hx hb dL_law_730 rfl (lv_at hl 3 rfl) ?_
  refine lv_iconst (v := 2) hx hb dL_law_731 (by decide) ?_
  refine lv_iadd hx hb dL_law_732 ?_
  refine va_sld hx hb hX hbl hbA hW.2.2 h2 dL_law_733 ?_
  refine cY_i (As := [.int (xs (x3 + 1).toNatClampNeg), .int (xs (x3 + 2).toNatClampNeg)]) (rest := [.int r]) C hW (c_X6_partner e6) kX6_partner q1048 rfl rfl rfl hl.1 ⟨Nat.le_of_ble_eq_true rfl, Nat.le_of_ble_eq_true rfl⟩ hcs (Nat.le_of_ble_eq_true rfl) dL_law_734 (fun H locs hW => ?_)
  refine lv_icmp_eq (tgt := 1574) hx hb dL_law_737 (by decide) (fun _ => ?_) (fun h9 => absurd rfl h9)
  exact kk X' σ' _ _ hR' hW
set_option maxHeartbeats 4000000 in
set_option maxRecDepth 100000 in
theorem law_subjectFor {Rel : Nat → XS → MS → Prop} {z : ZT} {k b Ln : Nat} {xs : Nat → Int32} {x3 : Int32} (hgh : GH G z) (C : Cx p s m args c cL_law 4 "PumpTalkLaw" D cy cz G A) (hX : va_X b Ln xs s s.heap) (hbl : b < s.heap.size) (hbA : ¬ A b) (hk : k < 512) (hstep : St_subjectFor Rel) (hR : Rel k X σ) (h1 : vp_in (x3 + 1) Ln) (h2 : vp_in (x3 + 2) Ln) (h3 : vp_in (x3 + 3) Ln) (hl : lv_has ls 4 [(0, .ref b), (1, .ref (o 9 0)), (2, .ref (a 0)), (3, .int x3)]) (hcs : cells ≤ 600000 ∧ slots ≤ 7302250) (hW : Wd D A s.heap H locs (cLW o a cy cz X σ)) (kk : ∀ (X' : XS) (σ' : MS) (H1 : Heap) (locs1 : List Loc), Rel (k + 1) X' σ' → Wd D A s.heap H1 locs1 (cLW o a cy cz X' σ') → W p l e room_1 s m args below meth c H1 locs1 cells slots Q (F0 m 1574 ls [])) : W p l e room_1 s m args below meth c H locs cells slots Q (F0 m 742 ls []) := by
  have hx := C.1
  have hb := C.2.1
  obtain ⟨r, X', σ', e5, e6, hR'⟩ := hstep k X σ (xs (x3 + 1).toNatClampNeg) (xs (x3 + 2).toNatClampNeg) (xs (x3 + 3).toNatClampNeg) hk hR
  refine lv_aload_n hx hb dL_law_742 rfl (lv_at hl 1 rfl) ?_
  refine lv_aload_n hx hb dL_law_743 rfl (lv_at hl 0 rfl) ?_
  refine lv_iload_n hx hb dL_law_744 rfl (lv_at hl 3 rfl) ?_
  refine lv_iconst (v := 1) hx hb dL_law_745 (by decide) ?_
  refine lv_iadd hx hb dL_law_746 ?_
  refine va_sld hx hb hX hbl hbA hW.2.2 h1 dL_law_747 ?_
  refine lv_aload_n hx hb dL_law_748 rfl (lv_at hl 0 rfl) ?_
  refine lv_iload_n hx hb dL_law_749 rfl (lv_at hl 3 rfl) ?_
  refine lv_iconst (v := 2) hx hb dL_law_750 (by decide) ?_
  refine lv_iadd hx hb dL_law_751 ?_
  refine va_sld hx hb hX hbl hbA hW.2.2 h2 dL_law_752 ?_
  refine lv_aload_n hx hb dL_law_753 rfl (lv_at hl 0 rfl) ?_
  refine lv_iload_n hx hb dL_law_754 rfl (lv_at hl 3 rfl) ?_
  refine lv_iconst (v := 3) hx hb dL_law_755 (by decide) ?_
  refine lv_iadd hx hb dL_law_756 ?_
  refine va_sld hx hb hX hbl hbA hW.2.2 h3 dL_law_757 ?_
  refine cX_i (As := [.int (xs (x3 + 1).toNatClampNeg), .int (xs (x3 + 2).toNatClampNeg), .int (xs (x3 + 3).toNatClampNeg)]) (rest := []) C hW (c_X5_subjectFor e5) kX5_subjectFor q452 rfl rfl rfl hl.1 ⟨Nat.le_of_ble_eq_true rfl, Nat.le_of_ble_eq_true rfl⟩ hcs (Nat.le_of_ble_eq_true rfl) dL_law_758 (fun H locs hW => ?_)
  refine lv_aload_n hx hb dL_law_761 rfl (lv_at hl 2 rfl) ?_
  refine lv_aload_n hx hb dL_law_762 rfl (lv_at hl 0 rfl) ?_
  refine lv_iload_n hx hb dL_law_763 rfl (lv_at hl 3 rfl) ?_
  refine lv_iconst (v := 1) hx hb dL_law_764 (by decide) ?_
  refine lv_iadd hx hb dL_law_765 ?_
  refine va_sld hx hb hX hbl hbA hW.2.2 h1 dL_law_766 ?_
  refine lv_aload_n hx hb dL_law_767 rfl (lv_at hl 0 rfl) ?_
  refine lv_iload_n hx hb dL_law_768 rfl (lv_at hl 3 rfl) ?_
  refine lv_iconst (v := 2) hx hb dL_law_769 (by decide) ?_
  refine lv_iadd hx hb dL_law_770 ?_
  refine va_sld hx hb hX hbl hbA hW.2.2 h2 dL_law_771 ?_
  refine lv_aload_n hx hb dL_law_772 rfl (lv_at hl 0 rfl) ?_
  refine lv_iload_n hx hb dL_law_773 rfl (lv_at hl 3 rfl) ?_
  refine lv_iconst (v := 3) hx hb dL_law_774 (by decide) ?_
  refine lv_iadd hx hb dL_law_775 ?_
  refine va_sld hx hb hX hbl hbA hW.2.2 h3 dL_law_776 ?_
  refine cY_i (As := [.int (xs (x3 + 1).toNatClampNeg), .int (xs (x3 + 2).toNatClampNeg), .int (xs (x3 + 3).toNatClampNeg)]) (rest := [.int r]) C hW (c_X6_subjectFor e6) kX6_subjectFor q1052 rfl rfl rfl hl.1 ⟨Nat.le_of_ble_eq_true rfl, Nat.le_of_ble_eq_true rfl⟩ hcs (Nat.le_of_ble_eq_true rfl) dL_law_777 (fun H locs hW => ?_)
  refine lv_icmp_eq (tgt := 1574) hx hb dL_law_780 (by decide) (fun _ => ?_) (fun h9 => absurd rfl h9)
  exact kk X' σ' _ _ hR' hW
set_option maxHeartbeats 4000000 in
set_option maxRecDepth 100000 in
theorem law_matched {Rel : Nat → XS → MS → Prop} {z : ZT} {k b Ln : Nat} {xs : Nat → Int32} {x3 : Int32} (hgh : GH G z) (C : Cx p s m args c cL_law 4 "PumpTalkLaw" D cy cz G A) (hX : va_X b Ln xs s s.heap) (hbl : b < s.heap.size) (hbA : ¬ A b) (hk : k < 512) (hstep : St_matched Rel) (hR : Rel k X σ) (h1 : vp_in (x3 + 1) Ln) (hl : lv_has ls 4 [(0, .ref b), (1, .ref (o 9 0)), (2, .ref (a 0)), (3, .int x3)]) (hcs : cells ≤ 600000 ∧ slots ≤ 7302250) (hW : Wd D A s.heap H locs (cLW o a cy cz X σ)) (kk : ∀ (X' : XS) (σ' : MS) (H1 : Heap) (locs1 : List Loc), Rel (k + 1) X' σ' → Wd D A s.heap H1 locs1 (cLW o a cy cz X' σ') → W p l e room_1 s m args below meth c H1 locs1 cells slots Q (F0 m 1574 ls [])) : W p l e room_1 s m args below meth c H locs cells slots Q (F0 m 785 ls []) := by
  have hx := C.1
  have hb := C.2.1
  obtain ⟨r, X', σ', e5, e6, hR'⟩ := hstep k X σ (xs (x3 + 1).toNatClampNeg) hk hR
  refine lv_aload_n hx hb dL_law_785 rfl (lv_at hl 1 rfl) ?_
  refine lv_aload_n hx hb dL_law_786 rfl (lv_at hl 0 rfl) ?_
  refine lv_iload_n hx hb dL_law_787 rfl (lv_at hl 3 rfl) ?_
  refine lv_iconst (v := 1) hx hb dL_law_788 (by decide) ?_
  refine lv_iadd hx hb dL_law_789 ?_
  refine va_sld hx hb hX hbl hbA hW.2.2 h1 dL_law_790 ?_
  refine cX_i (As := [.int (xs (x3 + 1).toNatClampNeg)]) (rest := []) C hW (c_X5_matched hgh e5) kX5_matched q456 rfl rfl rfl hl.1 ⟨Nat.le_of_ble_eq_true rfl, Nat.le_of_ble_eq_true rfl⟩ hcs (Nat.le_of_ble_eq_true rfl) dL_law_791 (fun H locs hW => ?_)
  refine lv_aload_n hx hb dL_law_794 rfl (lv_at hl 2 rfl) ?_
  refine lv_aload_n hx hb dL_law_795 rfl (lv_at hl 0 rfl) ?_
  refine lv_iload_n hx hb dL_law_796 rfl (lv_at hl 3 rfl) ?_
  refine lv_iconst (v := 1) hx hb dL_law_797 (by decide) ?_
  refine lv_iadd hx hb dL_law_798 ?_
  refine va_sld hx hb hX hbl hbA hW.2.2 h1 dL_law_799 ?_
  refine cY_i (As := [.int (xs (x3 + 1).toNatClampNeg)]) (rest := [.int r]) C hW (c_X6_matched e6) kX6_matched q1060 rfl rfl rfl hl.1 ⟨Nat.le_of_ble_eq_true rfl, Nat.le_of_ble_eq_true rfl⟩ hcs (Nat.le_of_ble_eq_true rfl) dL_law_800 (fun H locs hW => ?_)
  refine lv_icmp_eq (tgt := 1574) hx hb dL_law_803 (by decide) (fun _ => ?_) (fun h9 => absurd rfl h9)
  exact kk X' σ' _ _ hR' hW
set_option maxHeartbeats 4000000 in
set_option maxRecDepth 100000 in
theorem law_matchOf {Rel : Nat → XS → MS → Prop} {z : ZT} {k b Ln : Nat} {xs : Nat → Int32} {x3 : Int32} (hgh : GH G z) (C : Cx p s m args c cL_law 4 "PumpTalkLaw" D cy cz G A) (hX : va_X b Ln xs s s.heap) (hbl : b < s.heap.size) (hbA : ¬ A b) (hk : k < 512) (hstep : St_matchOf Rel) (hR : Rel k X σ) (h1 : vp_in (x3 + 1) Ln) (h2 : vp_in (x3 + 2) Ln) (hl : lv_has ls 4 [(0, .ref b), (1, .ref (o 9 0)), (2, .ref (a 0)), (3, .int x3)]) (hcs : cells ≤ 600000 ∧ slots ≤ 7302250) (hW : Wd D A s.heap H locs (cLW o a cy cz X σ)) (kk : ∀ (X' : XS) (σ' : MS) (H1 : Heap) (locs1 : List Loc), Rel (k + 1) X' σ' → Wd D A s.heap H1 locs1 (cLW o a cy cz X' σ') → W p l e room_1 s m args below meth c H1 locs1 cells slots Q (F0 m 1574 ls [])) : W p l e room_1 s m args below meth c H locs cells slots Q (F0 m 808 ls []) := by
  have hx := C.1
  have hb := C.2.1
  obtain ⟨r, X', σ', e5, e6, hR'⟩ := hstep k X σ (xs (x3 + 1).toNatClampNeg) (xs (x3 + 2).toNatClampNeg) hk hR
  refine lv_aload_n hx hb dL_law_808 rfl (lv_at hl 1 rfl) ?_
  refine lv_aload_n hx hb dL_law_809 rfl (lv_at hl 0 rfl) ?_
  refine lv_iload_n hx hb dL_law_810 rfl (lv_at hl 3 rfl) ?_
  refine lv_iconst (v := 1) hx hb dL_law_811 (by decide) ?_
  refine lv_iadd hx hb dL_law_812 ?_
  refine va_sld hx hb hX hbl hbA hW.2.2 h1 dL_law_813 ?_
  refine lv_aload_n hx hb dL_law_814 rfl (lv_at hl 0 rfl) ?_
  refine lv_iload_n hx hb dL_law_815 rfl (lv_at hl 3 rfl) ?_
  refine lv_iconst (v := 2) hx hb dL_law_816 (by decide) ?_
  refine lv_iadd hx hb dL_law_817 ?_
  refine va_sld hx hb hX hbl hbA hW.2.2 h2 dL_law_818 ?_
  refine cX_i (As := [.int (xs (x3 + 1).toNatClampNeg), .int (xs (x3 + 2).toNatClampNeg)]) (rest := []) C hW (c_X5_matchOf hgh e5) kX5_matchOf q490 rfl rfl rfl hl.1 ⟨Nat.le_of_ble_eq_true rfl, Nat.le_of_ble_eq_true rfl⟩ hcs (Nat.le_of_ble_eq_true rfl) dL_law_819 (fun H locs hW => ?_)
  refine lv_aload_n hx hb dL_law_822 rfl (lv_at hl 2 rfl) ?_
  refine lv_aload_n hx hb dL_law_823 rfl (lv_at hl 0 rfl) ?_
  refine lv_iload_n hx hb dL_law_824 rfl (lv_at hl 3 rfl) ?_
  refine lv_iconst (v := 1) hx hb dL_law_825 (by decide) ?_
  refine lv_iadd hx hb dL_law_826 ?_
  refine va_sld hx hb hX hbl hbA hW.2.2 h1 dL_law_827 ?_
  refine lv_aload_n hx hb dL_law_828 rfl (lv_at hl 0 rfl) ?_
  refine lv_iload_n hx hb dL_law_829 rfl (lv_at hl 3 rfl) ?_
  refine lv_iconst (v := 2) hx hb dL_law_830 (by decide) ?_
  refine lv_iadd hx hb dL_law_831 ?_
  refine va_sld hx hb hX hbl hbA hW.2.2 h2 dL_law_832 ?_
  refine cY_i (As := [.int (xs (x3 + 1).toNatClampNeg), .int (xs (x3 + 2).toNatClampNeg)]) (rest := [.int r]) C hW (c_X6_matchOf e6) kX6_matchOf q1069 rfl rfl rfl hl.1 ⟨Nat.le_of_ble_eq_true rfl, Nat.le_of_ble_eq_true rfl⟩ hcs (Nat.le_of_ble_eq_true rfl) dL_law_833 (fun H locs hW => ?_)
  refine lv_icmp_eq (tgt := 1574) hx hb dL_law_836 (by decide) (fun _ => ?_) (fun h9 => absurd rfl h9)
  exact kk X' σ' _ _ hR' hW
set_option maxHeartbeats 4000000 in
set_option maxRecDepth 100000 in
theorem law_kindFor {Rel : Nat → XS → MS → Prop} {z : ZT} {k b Ln : Nat} {xs : Nat → Int32} {x3 : Int32} (hgh : GH G z) (C : Cx p s m args c cL_law 4 "PumpTalkLaw" D cy cz G A) (hX : va_X b Ln xs s s.heap) (hbl : b < s.heap.size) (hbA : ¬ A b) (hk : k < 512) (hstep : St_kindFor Rel) (hR : Rel k X σ) (h1 : vp_in (x3 + 1) Ln) (h2 : vp_in (x3 + 2) Ln) (h3 : vp_in (x3 + 3) Ln) (hl : lv_has ls 4 [(0, .ref b), (1, .ref (o 9 0)), (2, .ref (a 0)), (3, .int x3)]) (hcs : cells ≤ 600000 ∧ slots ≤ 7302250) (hW : Wd D A s.heap H locs (cLW o a cy cz X σ)) (kk : ∀ (X' : XS) (σ' : MS) (H1 : Heap) (locs1 : List Loc), Rel (k + 1) X' σ' → Wd D A s.heap H1 locs1 (cLW o a cy cz X' σ') → W p l e room_1 s m args below meth c H1 locs1 cells slots Q (F0 m 1574 ls [])) : W p l e room_1 s m args below meth c H locs cells slots Q (F0 m 841 ls []) := by
  have hx := C.1
  have hb := C.2.1
  obtain ⟨r, X', σ', e5, e6, hR'⟩ := hstep k X σ (xs (x3 + 1).toNatClampNeg) (xs (x3 + 2).toNatClampNeg) (xs (x3 + 3).toNatClampNeg) hk hR
  refine lv_aload_n hx hb dL_law_841 rfl (lv_at hl 1 rfl) ?_
  refine lv_aload_n hx hb dL_law_842 rfl (lv_at hl 0 rfl) ?_
  refine lv_iload_n hx hb dL_law_843 rfl (lv_at hl 3 rfl) ?_
  refine lv_iconst (v := 1) hx hb dL_law_844 (by decide) ?_
  refine lv_iadd hx hb dL_law_845 ?_
  refine va_sld hx hb hX hbl hbA hW.2.2 h1 dL_law_846 ?_
  refine lv_aload_n hx hb dL_law_847 rfl (lv_at hl 0 rfl) ?_
  refine lv_iload_n hx hb dL_law_848 rfl (lv_at hl 3 rfl) ?_
  refine lv_iconst (v := 2) hx hb dL_law_849 (by decide) ?_
  refine lv_iadd hx hb dL_law_850 ?_
  refine va_sld hx hb hX hbl hbA hW.2.2 h2 dL_law_851 ?_
  refine lv_aload_n hx hb dL_law_852 rfl (lv_at hl 0 rfl) ?_
  refine lv_iload_n hx hb dL_law_853 rfl (lv_at hl 3 rfl) ?_
  refine lv_iconst (v := 3) hx hb dL_law_854 (by decide) ?_
  refine lv_iadd hx hb dL_law_855 ?_
  refine va_sld hx hb hX hbl hbA hW.2.2 h3 dL_law_856 ?_
  refine cX_i (As := [.int (xs (x3 + 1).toNatClampNeg), .int (xs (x3 + 2).toNatClampNeg), .int (xs (x3 + 3).toNatClampNeg)]) (rest := []) C hW (c_X5_kindFor e5) kX5_kindFor q502 rfl rfl rfl hl.1 ⟨Nat.le_of_ble_eq_true rfl, Nat.le_of_ble_eq_true rfl⟩ hcs (Nat.le_of_ble_eq_true rfl) dL_law_857 (fun H locs hW => ?_)
  refine lv_aload_n hx hb dL_law_860 rfl (lv_at hl 2 rfl) ?_
  refine lv_aload_n hx hb dL_law_861 rfl (lv_at hl 0 rfl) ?_
  refine lv_iload_n hx hb dL_law_862 rfl (lv_at hl 3 rfl) ?_
  refine lv_iconst (v := 1) hx hb dL_law_863 (by decide) ?_
  refine lv_iadd hx hb dL_law_864 ?_
  refine va_sld hx hb hX hbl hbA hW.2.2 h1 dL_law_865 ?_
  refine lv_aload_n hx hb dL_law_866 rfl (lv_at hl 0 rfl) ?_
  refine lv_iload_n hx hb dL_law_867 rfl (lv_at hl 3 rfl) ?_
  refine lv_iconst (v := 2) hx hb dL_law_868 (by decide) ?_
  refine lv_iadd hx hb dL_law_869 ?_
  refine va_sld hx hb hX hbl hbA hW.2.2 h2 dL_law_870 ?_
  refine lv_aload_n hx hb dL_law_871 rfl (lv_at hl 0 rfl) ?_
  refine lv_iload_n hx hb dL_law_872 rfl (lv_at hl 3 rfl) ?_
  refine lv_iconst (v := 3) hx hb dL_law_873 (by decide) ?_
  refine lv_iadd hx hb dL_law_874 ?_
  refine va_sld hx hb hX hbl hbA hW.2.2 h3 dL_law_875 ?_
  refine cY_i (As := [.int (xs (x3 + 1).toNatClampNeg), .int (xs (x3 + 2).toNatClampNeg), .int (xs (x3 + 3).toNatClampNeg)]) (rest := [.int r]) C hW (c_X6_kindFor e6) kX6_kindFor q1073 rfl rfl rfl hl.1 ⟨Nat.le_of_ble_eq_true rfl, Nat.le_of_ble_eq_true rfl⟩ hcs (Nat.le_of_ble_eq_true rfl) dL_law_876 (fun H locs hW => ?_)
  refine lv_icmp_eq (tgt := 1574) hx hb dL_law_879 (by decide) (fun _ => ?_) (fun h9 => absurd rfl h9)
  exact kk X' σ' _ _ hR' hW
set_option maxHeartbeats 4000000 in
set_option maxRecDepth 100000 in
theorem law_viewFor {Rel : Nat → XS → MS → Prop} {z : ZT} {k b Ln : Nat} {xs : Nat → Int32} {x3 : Int32} (hgh : GH G z) (C : Cx p s m args c cL_law 4 "PumpTalkLaw" D cy cz G A) (hX : va_X b Ln xs s s.heap) (hbl : b < s.heap.size) (hbA : ¬ A b) (hk : k < 512) (hstep : St_viewFor Rel) (hR : Rel k X σ) (h1 : vp_in (x3 + 1) Ln) (h2 : vp_in (x3 + 2) Ln) (h3 : vp_in (x3 + 3) Ln) (h4 : vp_in (x3 + 4) Ln) (hl : lv_has ls 4 [(0, .ref b), (1, .ref (o 9 0)), (2, .ref (a 0)), (3, .int x3)]) (hcs : cells ≤ 600000 ∧ slots ≤ 7302250) (hW : Wd D A s.heap H locs (cLW o a cy cz X σ)) (kk : ∀ (X' : XS) (σ' : MS) (H1 : Heap) (locs1 : List Loc), Rel (k + 1) X' σ' → Wd D A s.heap H1 locs1 (cLW o a cy cz X' σ') → W p l e room_1 s m args below meth c H1 locs1 cells slots Q (F0 m 1574 ls [])) : W p l e room_1 s m args below meth c H locs cells slots Q (F0 m 884 ls []) := by
  have hx := C.1
  have hb := C.2.1
  obtain ⟨r, X', σ', e5, e6, hR'⟩ := hstep k X σ (xs (x3 + 1).toNatClampNeg) (xs (x3 + 2).toNatClampNeg) (xs (x3 + 3).toNatClampNeg) (xs (x3 + 4).toNatClampNeg) hk hR
  refine lv_aload_n hx hb dL_law_884 rfl (lv_at hl 1 rfl) ?_
  refine lv_aload_n hx hb dL_law_885 rfl (lv_at hl 0 rfl) ?_
  refine lv_iload_n hx hb dL_law_886 rfl (lv_at hl 3 rfl) ?_
  refine lv_iconst (v := 1) hx hb dL_law_887 (by decide) ?_
  refine lv_iadd hx hb dL_law_888 ?_
  refine va_sld hx hb hX hbl hbA hW.2.2 h1 dL_law_889 ?_
  refine lv_aload_n hx hb dL_law_890 rfl (lv_at hl 0 rfl) ?_
  refine lv_iload_n hx hb dL_law_891 rfl (lv_at hl 3 rfl) ?_
  refine lv_iconst (v := 2) hx hb dL_law_892 (by decide) ?_
  refine lv_iadd hx hb dL_law_893 ?_
  refine va_sld hx hb hX hbl hbA hW.2.2 h2 dL_law_894 ?_
  refine lv_aload_n hx hb dL_law_895 rfl (lv_at hl 0 rfl) ?_
  refine lv_iload_n hx hb dL_law_896 rfl (lv_at hl 3 rfl) ?_
  refine lv_iconst (v := 3) hx hb dL_law_897 (by decide) ?_
  refine lv_iadd hx hb dL_law_898 ?_
  refine va_sld hx hb hX hbl hbA hW.2.2 h3 dL_law_899 ?_
  refine lv_aload_n hx hb dL_law_900 rfl (lv_at hl 0 rfl) ?_
  refine lv_iload_n hx hb dL_law_901 rfl (lv_at hl 3 rfl) ?_
  refine lv_iconst (v := 4) hx hb dL_law_902 (by decide) ?_
  refine lv_iadd hx hb dL_law_903 ?_
  refine va_sld hx hb hX hbl hbA hW.2.2 h4 dL_law_904 ?_
  refine cX_i (As := [.int (xs (x3 + 1).toNatClampNeg), .int (xs (x3 + 2).toNatClampNeg), .int (xs (x3 + 3).toNatClampNeg), .int (xs (x3 + 4).toNatClampNeg)]) (rest := []) C hW (c_X5_viewFor e5) kX5_viewFor q514 rfl rfl rfl hl.1 ⟨Nat.le_of_ble_eq_true rfl, Nat.le_of_ble_eq_true rfl⟩ hcs (Nat.le_of_ble_eq_true rfl) dL_law_905 (fun H locs hW => ?_)
  refine lv_aload_n hx hb dL_law_908 rfl (lv_at hl 2 rfl) ?_
  refine lv_aload_n hx hb dL_law_909 rfl (lv_at hl 0 rfl) ?_
  refine lv_iload_n hx hb dL_law_910 rfl (lv_at hl 3 rfl) ?_
  refine lv_iconst (v := 1) hx hb dL_law_911 (by decide) ?_
  refine lv_iadd hx hb dL_law_912 ?_
  refine va_sld hx hb hX hbl hbA hW.2.2 h1 dL_law_913 ?_
  refine lv_aload_n hx hb dL_law_914 rfl (lv_at hl 0 rfl) ?_
  refine lv_iload_n hx hb dL_law_915 rfl (lv_at hl 3 rfl) ?_
  refine lv_iconst (v := 2) hx hb dL_law_916 (by decide) ?_
  refine lv_iadd hx hb dL_law_917 ?_
  refine va_sld hx hb hX hbl hbA hW.2.2 h2 dL_law_918 ?_
  refine lv_aload_n hx hb dL_law_919 rfl (lv_at hl 0 rfl) ?_
  refine lv_iload_n hx hb dL_law_920 rfl (lv_at hl 3 rfl) ?_
  refine lv_iconst (v := 3) hx hb dL_law_921 (by decide) ?_
  refine lv_iadd hx hb dL_law_922 ?_
  refine va_sld hx hb hX hbl hbA hW.2.2 h3 dL_law_923 ?_
  refine lv_aload_n hx hb dL_law_924 rfl (lv_at hl 0 rfl) ?_
  refine lv_iload_n hx hb dL_law_925 rfl (lv_at hl 3 rfl) ?_
  refine lv_iconst (v := 4) hx hb dL_law_926 (by decide) ?_
  refine lv_iadd hx hb dL_law_927 ?_
  refine va_sld hx hb hX hbl hbA hW.2.2 h4 dL_law_928 ?_
  refine cY_i (As := [.int (xs (x3 + 1).toNatClampNeg), .int (xs (x3 + 2).toNatClampNeg), .int (xs (x3 + 3).toNatClampNeg), .int (xs (x3 + 4).toNatClampNeg)]) (rest := [.int r]) C hW (c_X6_viewFor e6) kX6_viewFor q1077 rfl rfl rfl hl.1 ⟨Nat.le_of_ble_eq_true rfl, Nat.le_of_ble_eq_true rfl⟩ hcs (Nat.le_of_ble_eq_true rfl) dL_law_929 (fun H locs hW => ?_)
  refine lv_icmp_eq (tgt := 1574) hx hb dL_law_932 (by decide) (fun _ => ?_) (fun h9 => absurd rfl h9)
  exact kk X' σ' _ _ hR' hW
set_option maxHeartbeats 4000000 in
set_option maxRecDepth 100000 in
theorem law_voiceFor {Rel : Nat → XS → MS → Prop} {z : ZT} {k b Ln : Nat} {xs : Nat → Int32} {x3 : Int32} (hgh : GH G z) (C : Cx p s m args c cL_law 4 "PumpTalkLaw" D cy cz G A) (hX : va_X b Ln xs s s.heap) (hbl : b < s.heap.size) (hbA : ¬ A b) (hk : k < 512) (hstep : St_voiceFor Rel) (hR : Rel k X σ) (h1 : vp_in (x3 + 1) Ln) (h2 : vp_in (x3 + 2) Ln) (h3 : vp_in (x3 + 3) Ln) (h4 : vp_in (x3 + 4) Ln) (hl : lv_has ls 4 [(0, .ref b), (1, .ref (o 9 0)), (2, .ref (a 0)), (3, .int x3)]) (hcs : cells ≤ 600000 ∧ slots ≤ 7302250) (hW : Wd D A s.heap H locs (cLW o a cy cz X σ)) (kk : ∀ (X' : XS) (σ' : MS) (H1 : Heap) (locs1 : List Loc), Rel (k + 1) X' σ' → Wd D A s.heap H1 locs1 (cLW o a cy cz X' σ') → W p l e room_1 s m args below meth c H1 locs1 cells slots Q (F0 m 1574 ls [])) : W p l e room_1 s m args below meth c H locs cells slots Q (F0 m 937 ls []) := by
  have hx := C.1
  have hb := C.2.1
  obtain ⟨r, X', σ', e5, e6, hR'⟩ := hstep k X σ (xs (x3 + 1).toNatClampNeg) (xs (x3 + 2).toNatClampNeg) (xs (x3 + 3).toNatClampNeg) (xs (x3 + 4).toNatClampNeg) hk hR
  refine lv_aload_n hx hb dL_law_937 rfl (lv_at hl 1 rfl) ?_
  refine lv_aload_n hx hb dL_law_938 rfl (lv_at hl 0 rfl) ?_
  refine lv_iload_n hx hb dL_law_939 rfl (lv_at hl 3 rfl) ?_
  refine lv_iconst (v := 1) hx hb dL_law_940 (by decide) ?_
  refine lv_iadd hx hb dL_law_941 ?_
  refine va_sld hx hb hX hbl hbA hW.2.2 h1 dL_law_942 ?_
  refine lv_aload_n hx hb dL_law_943 rfl (lv_at hl 0 rfl) ?_
  refine lv_iload_n hx hb dL_law_944 rfl (lv_at hl 3 rfl) ?_
  refine lv_iconst (v := 2) hx hb dL_law_945 (by decide) ?_
  refine lv_iadd hx hb dL_law_946 ?_
  refine va_sld hx hb hX hbl hbA hW.2.2 h2 dL_law_947 ?_
  refine lv_aload_n hx hb dL_law_948 rfl (lv_at hl 0 rfl) ?_
  refine lv_iload_n hx hb dL_law_949 rfl (lv_at hl 3 rfl) ?_
  refine lv_iconst (v := 3) hx hb dL_law_950 (by decide) ?_
  refine lv_iadd hx hb dL_law_951 ?_
  refine va_sld hx hb hX hbl hbA hW.2.2 h3 dL_law_952 ?_
  refine lv_aload_n hx hb dL_law_953 rfl (lv_at hl 0 rfl) ?_
  refine lv_iload_n hx hb dL_law_954 rfl (lv_at hl 3 rfl) ?_
  refine lv_iconst (v := 4) hx hb dL_law_955 (by decide) ?_
  refine lv_iadd hx hb dL_law_956 ?_
  refine va_sld hx hb hX hbl hbA hW.2.2 h4 dL_law_957 ?_
  refine cX_i (As := [.int (xs (x3 + 1).toNatClampNeg), .int (xs (x3 + 2).toNatClampNeg), .int (xs (x3 + 3).toNatClampNeg), .int (xs (x3 + 4).toNatClampNeg)]) (rest := []) C hW (c_X5_voiceFor e5) kX5_voiceFor q518 rfl rfl rfl hl.1 ⟨Nat.le_of_ble_eq_true rfl, Nat.le_of_ble_eq_true rfl⟩ hcs (Nat.le_of_ble_eq_true rfl) dL_law_958 (fun H locs hW => ?_)
  refine lv_aload_n hx hb dL_law_961 rfl (lv_at hl 2 rfl) ?_
  refine lv_aload_n hx hb dL_law_962 rfl (lv_at hl 0 rfl) ?_
  refine lv_iload_n hx hb dL_law_963 rfl (lv_at hl 3 rfl) ?_
  refine lv_iconst (v := 1) hx hb dL_law_964 (by decide) ?_
  refine lv_iadd hx hb dL_law_965 ?_
  refine va_sld hx hb hX hbl hbA hW.2.2 h1 dL_law_966 ?_
  refine lv_aload_n hx hb dL_law_967 rfl (lv_at hl 0 rfl) ?_
  refine lv_iload_n hx hb dL_law_968 rfl (lv_at hl 3 rfl) ?_
  refine lv_iconst (v := 2) hx hb dL_law_969 (by decide) ?_
  refine lv_iadd hx hb dL_law_970 ?_
  refine va_sld hx hb hX hbl hbA hW.2.2 h2 dL_law_971 ?_
  refine lv_aload_n hx hb dL_law_972 rfl (lv_at hl 0 rfl) ?_
  refine lv_iload_n hx hb dL_law_973 rfl (lv_at hl 3 rfl) ?_
  refine lv_iconst (v := 3) hx hb dL_law_974 (by decide) ?_
  refine lv_iadd hx hb dL_law_975 ?_
  refine va_sld hx hb hX hbl hbA hW.2.2 h3 dL_law_976 ?_
  refine lv_aload_n hx hb dL_law_977 rfl (lv_at hl 0 rfl) ?_
  refine lv_iload_n hx hb dL_law_978 rfl (lv_at hl 3 rfl) ?_
  refine lv_iconst (v := 4) hx hb dL_law_979 (by decide) ?_
  refine lv_iadd hx hb dL_law_980 ?_
  refine va_sld hx hb hX hbl hbA hW.2.2 h4 dL_law_981 ?_
  refine cY_i (As := [.int (xs (x3 + 1).toNatClampNeg), .int (xs (x3 + 2).toNatClampNeg), .int (xs (x3 + 3).toNatClampNeg), .int (xs (x3 + 4).toNatClampNeg)]) (rest := [.int r]) C hW (c_X6_voiceFor e6) kX6_voiceFor q1081 rfl rfl rfl hl.1 ⟨Nat.le_of_ble_eq_true rfl, Nat.le_of_ble_eq_true rfl⟩ hcs (Nat.le_of_ble_eq_true rfl) dL_law_982 (fun H locs hW => ?_)
  refine lv_icmp_eq (tgt := 1574) hx hb dL_law_985 (by decide) (fun _ => ?_) (fun h9 => absurd rfl h9)
  exact kk X' σ' _ _ hR' hW
set_option maxHeartbeats 4000000 in
set_option maxRecDepth 100000 in
theorem law_fits {Rel : Nat → XS → MS → Prop} {z : ZT} {k b Ln : Nat} {xs : Nat → Int32} {x3 : Int32} (hgh : GH G z) (C : Cx p s m args c cL_law 4 "PumpTalkLaw" D cy cz G A) (hX : va_X b Ln xs s s.heap) (hbl : b < s.heap.size) (hbA : ¬ A b) (hk : k < 512) (hstep : St_fits Rel) (hR : Rel k X σ) (h1 : vp_in (x3 + 1) Ln) (h2 : vp_in (x3 + 2) Ln) (hl : lv_has ls 4 [(0, .ref b), (1, .ref (o 9 0)), (2, .ref (a 0)), (3, .int x3)]) (hcs : cells ≤ 600000 ∧ slots ≤ 7302250) (hW : Wd D A s.heap H locs (cLW o a cy cz X σ)) (kk : ∀ (X' : XS) (σ' : MS) (H1 : Heap) (locs1 : List Loc), Rel (k + 1) X' σ' → Wd D A s.heap H1 locs1 (cLW o a cy cz X' σ') → W p l e room_1 s m args below meth c H1 locs1 cells slots Q (F0 m 1574 ls [])) : W p l e room_1 s m args below meth c H locs cells slots Q (F0 m 990 ls []) := by
  have hx := C.1
  have hb := C.2.1
  obtain ⟨r, X', σ', e5, e6, hR'⟩ := hstep k X σ (xs (x3 + 1).toNatClampNeg) (xs (x3 + 2).toNatClampNeg) hk hR
  refine lv_aload_n hx hb dL_law_990 rfl (lv_at hl 1 rfl) ?_
  refine lv_aload_n hx hb dL_law_991 rfl (lv_at hl 0 rfl) ?_
  refine lv_iload_n hx hb dL_law_992 rfl (lv_at hl 3 rfl) ?_
  refine lv_iconst (v := 1) hx hb dL_law_993 (by decide) ?_
  refine lv_iadd hx hb dL_law_994 ?_
  refine va_sld hx hb hX hbl hbA hW.2.2 h1 dL_law_995 ?_
  refine lv_aload_n hx hb dL_law_996 rfl (lv_at hl 0 rfl) ?_
  refine lv_iload_n hx hb dL_law_997 rfl (lv_at hl 3 rfl) ?_
  refine lv_iconst (v := 2) hx hb dL_law_998 (by decide) ?_
  refine lv_iadd hx hb dL_law_999 ?_
  refine va_sld hx hb hX hbl hbA hW.2.2 h2 dL_law_1000 ?_
  refine cX_i (As := [.int (xs (x3 + 1).toNatClampNeg), .int (xs (x3 + 2).toNatClampNeg)]) (rest := []) C hW (c_X5_fits e5) kX5_fits q522 rfl rfl rfl hl.1 ⟨Nat.le_of_ble_eq_true rfl, Nat.le_of_ble_eq_true rfl⟩ hcs (Nat.le_of_ble_eq_true rfl) dL_law_1001 (fun H locs hW => ?_)
  refine lv_aload_n hx hb dL_law_1004 rfl (lv_at hl 2 rfl) ?_
  refine lv_aload_n hx hb dL_law_1005 rfl (lv_at hl 0 rfl) ?_
  refine lv_iload_n hx hb dL_law_1006 rfl (lv_at hl 3 rfl) ?_
  refine lv_iconst (v := 1) hx hb dL_law_1007 (by decide) ?_
  refine lv_iadd hx hb dL_law_1008 ?_
  refine va_sld hx hb hX hbl hbA hW.2.2 h1 dL_law_1009 ?_
  refine lv_aload_n hx hb dL_law_1010 rfl (lv_at hl 0 rfl) ?_
  refine lv_iload_n hx hb dL_law_1011 rfl (lv_at hl 3 rfl) ?_
  refine lv_iconst (v := 2) hx hb dL_law_1012 (by decide) ?_
  refine lv_iadd hx hb dL_law_1013 ?_
  refine va_sld hx hb hX hbl hbA hW.2.2 h2 dL_law_1014 ?_
  refine cY_i (As := [.int (xs (x3 + 1).toNatClampNeg), .int (xs (x3 + 2).toNatClampNeg)]) (rest := [.int r]) C hW (c_X6_fits e6) kX6_fits q1086 rfl rfl rfl hl.1 ⟨Nat.le_of_ble_eq_true rfl, Nat.le_of_ble_eq_true rfl⟩ hcs (Nat.le_of_ble_eq_true rfl) dL_law_1015 (fun H locs hW => ?_)
  refine lv_icmp_eq (tgt := 1574) hx hb dL_law_1018 (by decide) (fun _ => ?_) (fun h9 => absurd rfl h9)
  exact kk X' σ' _ _ hR' hW
set_option maxHeartbeats 4000000 in
set_option maxRecDepth 100000 in
theorem law_thought {Rel : Nat → XS → MS → Prop} {z : ZT} {k b Ln : Nat} {xs : Nat → Int32} {x3 : Int32} (hgh : GH G z) (C : Cx p s m args c cL_law 4 "PumpTalkLaw" D cy cz G A) (hX : va_X b Ln xs s s.heap) (hbl : b < s.heap.size) (hbA : ¬ A b) (hk : k < 512) (hstep : St_thought Rel) (hR : Rel k X σ) (h1 : vp_in (x3 + 1) Ln) (h2 : vp_in (x3 + 2) Ln) (hl : lv_has ls 4 [(0, .ref b), (1, .ref (o 9 0)), (2, .ref (a 0)), (3, .int x3)]) (hcs : cells ≤ 600000 ∧ slots ≤ 7302250) (hW : Wd D A s.heap H locs (cLW o a cy cz X σ)) (kk : ∀ (X' : XS) (σ' : MS) (H1 : Heap) (locs1 : List Loc), Rel (k + 1) X' σ' → Wd D A s.heap H1 locs1 (cLW o a cy cz X' σ') → W p l e room_1 s m args below meth c H1 locs1 cells slots Q (F0 m 1574 ls [])) : W p l e room_1 s m args below meth c H locs cells slots Q (F0 m 1023 ls []) := by
  have hx := C.1
  have hb := C.2.1
  obtain ⟨r, X', σ', e5, e6, hR'⟩ := hstep k X σ (xs (x3 + 1).toNatClampNeg) (xs (x3 + 2).toNatClampNeg) hk hR
  refine lv_aload_n hx hb dL_law_1023 rfl (lv_at hl 1 rfl) ?_
  refine lv_aload_n hx hb dL_law_1024 rfl (lv_at hl 0 rfl) ?_
  refine lv_iload_n hx hb dL_law_1025 rfl (lv_at hl 3 rfl) ?_
  refine lv_iconst (v := 1) hx hb dL_law_1026 (by decide) ?_
  refine lv_iadd hx hb dL_law_1027 ?_
  refine va_sld hx hb hX hbl hbA hW.2.2 h1 dL_law_1028 ?_
  refine lv_aload_n hx hb dL_law_1029 rfl (lv_at hl 0 rfl) ?_
  refine lv_iload_n hx hb dL_law_1030 rfl (lv_at hl 3 rfl) ?_
  refine lv_iconst (v := 2) hx hb dL_law_1031 (by decide) ?_
  refine lv_iadd hx hb dL_law_1032 ?_
  refine va_sld hx hb hX hbl hbA hW.2.2 h2 dL_law_1033 ?_
  refine cX_i (As := [.int (xs (x3 + 1).toNatClampNeg), .int (xs (x3 + 2).toNatClampNeg)]) (rest := []) C hW (c_X5_thought e5) kX5_thought q546 rfl rfl rfl hl.1 ⟨Nat.le_of_ble_eq_true rfl, Nat.le_of_ble_eq_true rfl⟩ hcs (Nat.le_of_ble_eq_true rfl) dL_law_1034 (fun H locs hW => ?_)
  refine lv_aload_n hx hb dL_law_1037 rfl (lv_at hl 2 rfl) ?_
  refine lv_aload_n hx hb dL_law_1038 rfl (lv_at hl 0 rfl) ?_
  refine lv_iload_n hx hb dL_law_1039 rfl (lv_at hl 3 rfl) ?_
  refine lv_iconst (v := 1) hx hb dL_law_1040 (by decide) ?_
  refine lv_iadd hx hb dL_law_1041 ?_
  refine va_sld hx hb hX hbl hbA hW.2.2 h1 dL_law_1042 ?_
  refine lv_aload_n hx hb dL_law_1043 rfl (lv_at hl 0 rfl) ?_
  refine lv_iload_n hx hb dL_law_1044 rfl (lv_at hl 3 rfl) ?_
  refine lv_iconst (v := 2) hx hb dL_law_1045 (by decide) ?_
  refine lv_iadd hx hb dL_law_1046 ?_
  refine va_sld hx hb hX hbl hbA hW.2.2 h2 dL_law_1047 ?_
  refine cY_i (As := [.int (xs (x3 + 1).toNatClampNeg), .int (xs (x3 + 2).toNatClampNeg)]) (rest := [.int r]) C hW (c_X6_thought e6) kX6_thought q1111 rfl rfl rfl hl.1 ⟨Nat.le_of_ble_eq_true rfl, Nat.le_of_ble_eq_true rfl⟩ hcs (Nat.le_of_ble_eq_true rfl) dL_law_1048 (fun H locs hW => ?_)
  refine lv_icmp_eq (tgt := 1574) hx hb dL_law_1051 (by decide) (fun _ => ?_) (fun h9 => absurd rfl h9)
  exact kk X' σ' _ _ hR' hW
set_option maxHeartbeats 4000000 in
set_option maxRecDepth 100000 in
theorem law_kinds {Rel : Nat → XS → MS → Prop} {z : ZT} {k b Ln : Nat} {xs : Nat → Int32} {x3 : Int32} (hgh : GH G z) (C : Cx p s m args c cL_law 4 "PumpTalkLaw" D cy cz G A) (hX : va_X b Ln xs s s.heap) (hbl : b < s.heap.size) (hbA : ¬ A b) (hk : k < 512) (hstep : St_kinds Rel) (hR : Rel k X σ) (h1 : vp_in (x3 + 1) Ln) (h2 : vp_in (x3 + 2) Ln) (hl : lv_has ls 4 [(0, .ref b), (1, .ref (o 9 0)), (2, .ref (a 0)), (3, .int x3)]) (hcs : cells ≤ 600000 ∧ slots ≤ 7302250) (hW : Wd D A s.heap H locs (cLW o a cy cz X σ)) (kk : ∀ (X' : XS) (σ' : MS) (H1 : Heap) (locs1 : List Loc), Rel (k + 1) X' σ' → Wd D A s.heap H1 locs1 (cLW o a cy cz X' σ') → W p l e room_1 s m args below meth c H1 locs1 cells slots Q (F0 m 1574 ls [])) : W p l e room_1 s m args below meth c H locs cells slots Q (F0 m 1056 ls []) := by
  have hx := C.1
  have hb := C.2.1
  obtain ⟨r, X', σ', e5, e6, hR'⟩ := hstep k X σ (xs (x3 + 1).toNatClampNeg) (xs (x3 + 2).toNatClampNeg) hk hR
  refine lv_aload_n hx hb dL_law_1056 rfl (lv_at hl 1 rfl) ?_
  refine lv_aload_n hx hb dL_law_1057 rfl (lv_at hl 0 rfl) ?_
  refine lv_iload_n hx hb dL_law_1058 rfl (lv_at hl 3 rfl) ?_
  refine lv_iconst (v := 1) hx hb dL_law_1059 (by decide) ?_
  refine lv_iadd hx hb dL_law_1060 ?_
  refine va_sld hx hb hX hbl hbA hW.2.2 h1 dL_law_1061 ?_
  refine lv_aload_n hx hb dL_law_1062 rfl (lv_at hl 0 rfl) ?_
  refine lv_iload_n hx hb dL_law_1063 rfl (lv_at hl 3 rfl) ?_
  refine lv_iconst (v := 2) hx hb dL_law_1064 (by decide) ?_
  refine lv_iadd hx hb dL_law_1065 ?_
  refine va_sld hx hb hX hbl hbA hW.2.2 h2 dL_law_1066 ?_
  refine cX_i (As := [.int (xs (x3 + 1).toNatClampNeg), .int (xs (x3 + 2).toNatClampNeg)]) (rest := []) C hW (c_X5_kinds e5) kX5_kinds q550 rfl rfl rfl hl.1 ⟨Nat.le_of_ble_eq_true rfl, Nat.le_of_ble_eq_true rfl⟩ hcs (Nat.le_of_ble_eq_true rfl) dL_law_1067 (fun H locs hW => ?_)
  refine lv_aload_n hx hb dL_law_1070 rfl (lv_at hl 2 rfl) ?_
  refine lv_aload_n hx hb dL_law_1071 rfl (lv_at hl 0 rfl) ?_
  refine lv_iload_n hx hb dL_law_1072 rfl (lv_at hl 3 rfl) ?_
  refine lv_iconst (v := 1) hx hb dL_law_1073 (by decide) ?_
  refine lv_iadd hx hb dL_law_1074 ?_
  refine va_sld hx hb hX hbl hbA hW.2.2 h1 dL_law_1075 ?_
  refine lv_aload_n hx hb dL_law_1076 rfl (lv_at hl 0 rfl) ?_
  refine lv_iload_n hx hb dL_law_1077 rfl (lv_at hl 3 rfl) ?_
  refine lv_iconst (v := 2) hx hb dL_law_1078 (by decide) ?_
  refine lv_iadd hx hb dL_law_1079 ?_
  refine va_sld hx hb hX hbl hbA hW.2.2 h2 dL_law_1080 ?_
  refine cY_i (As := [.int (xs (x3 + 1).toNatClampNeg), .int (xs (x3 + 2).toNatClampNeg)]) (rest := [.int r]) C hW (c_X6_kinds e6) kX6_kinds q1115 rfl rfl rfl hl.1 ⟨Nat.le_of_ble_eq_true rfl, Nat.le_of_ble_eq_true rfl⟩ hcs (Nat.le_of_ble_eq_true rfl) dL_law_1081 (fun H locs hW => ?_)
  refine lv_icmp_eq (tgt := 1574) hx hb dL_law_1084 (by decide) (fun _ => ?_) (fun h9 => absurd rfl h9)
  exact kk X' σ' _ _ hR' hW
set_option maxHeartbeats 4000000 in
set_option maxRecDepth 100000 in
theorem law_quarrels {Rel : Nat → XS → MS → Prop} {z : ZT} {k b Ln : Nat} {xs : Nat → Int32} {x3 : Int32} (hgh : GH G z) (C : Cx p s m args c cL_law 4 "PumpTalkLaw" D cy cz G A) (hX : va_X b Ln xs s s.heap) (hbl : b < s.heap.size) (hbA : ¬ A b) (hk : k < 512) (hstep : St_quarrels Rel) (hR : Rel k X σ) (h1 : vp_in (x3 + 1) Ln) (hl : lv_has ls 4 [(0, .ref b), (1, .ref (o 9 0)), (2, .ref (a 0)), (3, .int x3)]) (hcs : cells ≤ 600000 ∧ slots ≤ 7302250) (hW : Wd D A s.heap H locs (cLW o a cy cz X σ)) (kk : ∀ (X' : XS) (σ' : MS) (H1 : Heap) (locs1 : List Loc), Rel (k + 1) X' σ' → Wd D A s.heap H1 locs1 (cLW o a cy cz X' σ') → W p l e room_1 s m args below meth c H1 locs1 cells slots Q (F0 m 1574 ls [])) : W p l e room_1 s m args below meth c H locs cells slots Q (F0 m 1089 ls []) := by
  have hx := C.1
  have hb := C.2.1
  obtain ⟨r, X', σ', e5, e6, hR'⟩ := hstep k X σ (xs (x3 + 1).toNatClampNeg) hk hR
  refine lv_aload_n hx hb dL_law_1089 rfl (lv_at hl 1 rfl) ?_
  refine lv_aload_n hx hb dL_law_1090 rfl (lv_at hl 0 rfl) ?_
  refine lv_iload_n hx hb dL_law_1091 rfl (lv_at hl 3 rfl) ?_
  refine lv_iconst (v := 1) hx hb dL_law_1092 (by decide) ?_
  refine lv_iadd hx hb dL_law_1093 ?_
  refine va_sld hx hb hX hbl hbA hW.2.2 h1 dL_law_1094 ?_
  refine cX_i (As := [.int (xs (x3 + 1).toNatClampNeg)]) (rest := []) C hW (c_X5_quarrels e5) kX5_quarrels q554 rfl rfl rfl hl.1 ⟨Nat.le_of_ble_eq_true rfl, Nat.le_of_ble_eq_true rfl⟩ hcs (Nat.le_of_ble_eq_true rfl) dL_law_1095 (fun H locs hW => ?_)
  refine lv_aload_n hx hb dL_law_1098 rfl (lv_at hl 2 rfl) ?_
  refine lv_aload_n hx hb dL_law_1099 rfl (lv_at hl 0 rfl) ?_
  refine lv_iload_n hx hb dL_law_1100 rfl (lv_at hl 3 rfl) ?_
  refine lv_iconst (v := 1) hx hb dL_law_1101 (by decide) ?_
  refine lv_iadd hx hb dL_law_1102 ?_
  refine va_sld hx hb hX hbl hbA hW.2.2 h1 dL_law_1103 ?_
  refine cY_i (As := [.int (xs (x3 + 1).toNatClampNeg)]) (rest := [.int r]) C hW (c_X6_quarrels e6) kX6_quarrels q1119 rfl rfl rfl hl.1 ⟨Nat.le_of_ble_eq_true rfl, Nat.le_of_ble_eq_true rfl⟩ hcs (Nat.le_of_ble_eq_true rfl) dL_law_1104 (fun H locs hW => ?_)
  refine lv_icmp_eq (tgt := 1574) hx hb dL_law_1107 (by decide) (fun _ => ?_) (fun h9 => absurd rfl h9)
  exact kk X' σ' _ _ hR' hW
set_option maxHeartbeats 4000000 in
set_option maxRecDepth 100000 in
theorem law_odds {Rel : Nat → XS → MS → Prop} {z : ZT} {k b Ln : Nat} {xs : Nat → Int32} {x3 : Int32} (hgh : GH G z) (C : Cx p s m args c cL_law 4 "PumpTalkLaw" D cy cz G A) (hX : va_X b Ln xs s s.heap) (hbl : b < s.heap.size) (hbA : ¬ A b) (hk : k < 512) (hstep : St_odds Rel) (hR : Rel k X σ) (h1 : vp_in (x3 + 1) Ln) (h2 : vp_in (x3 + 2) Ln) (hl : lv_has ls 4 [(0, .ref b), (1, .ref (o 9 0)), (2, .ref (a 0)), (3, .int x3)]) (hcs : cells ≤ 600000 ∧ slots ≤ 7302250) (hW : Wd D A s.heap H locs (cLW o a cy cz X σ)) (kk : ∀ (X' : XS) (σ' : MS) (H1 : Heap) (locs1 : List Loc), Rel (k + 1) X' σ' → Wd D A s.heap H1 locs1 (cLW o a cy cz X' σ') → W p l e room_1 s m args below meth c H1 locs1 cells slots Q (F0 m 1574 ls [])) : W p l e room_1 s m args below meth c H locs cells slots Q (F0 m 1112 ls []) := by
  have hx := C.1
  have hb := C.2.1
  obtain ⟨r, X', σ', e5, e6, hR'⟩ := hstep k X σ (xs (x3 + 1).toNatClampNeg) (xs (x3 + 2).toNatClampNeg) hk hR
  refine lv_aload_n hx hb dL_law_1112 rfl (lv_at hl 1 rfl) ?_
  refine lv_aload_n hx hb dL_law_1113 rfl (lv_at hl 0 rfl) ?_
  refine lv_iload_n hx hb dL_law_1114 rfl (lv_at hl 3 rfl) ?_
  refine lv_iconst (v := 1) hx hb dL_law_1115 (by decide) ?_
  refine lv_iadd hx hb dL_law_1116 ?_
  refine va_sld hx hb hX hbl hbA hW.2.2 h1 dL_law_1117 ?_
  refine lv_aload_n hx hb dL_law_1118 rfl (lv_at hl 0 rfl) ?_
  refine lv_iload_n hx hb dL_law_1119 rfl (lv_at hl 3 rfl) ?_
  refine lv_iconst (v := 2) hx hb dL_law_1120 (by decide) ?_
  refine lv_iadd hx hb dL_law_1121 ?_
  refine va_sld hx hb hX hbl hbA hW.2.2 h2 dL_law_1122 ?_
  refine cX_l (As := [.int (xs (x3 + 1).toNatClampNeg), .int (xs (x3 + 2).toNatClampNeg)]) (rest := []) C hW (c_X5_odds e5) kX5_odds q563 rfl rfl rfl hl.1 ⟨Nat.le_of_ble_eq_true rfl, Nat.le_of_ble_eq_true rfl⟩ hcs (Nat.le_of_ble_eq_true rfl) dL_law_1123 (fun H locs hW => ?_)
  refine lv_aload_n hx hb dL_law_1126 rfl (lv_at hl 2 rfl) ?_
  refine lv_aload_n hx hb dL_law_1127 rfl (lv_at hl 0 rfl) ?_
  refine lv_iload_n hx hb dL_law_1128 rfl (lv_at hl 3 rfl) ?_
  refine lv_iconst (v := 1) hx hb dL_law_1129 (by decide) ?_
  refine lv_iadd hx hb dL_law_1130 ?_
  refine va_sld hx hb hX hbl hbA hW.2.2 h1 dL_law_1131 ?_
  refine lv_aload_n hx hb dL_law_1132 rfl (lv_at hl 0 rfl) ?_
  refine lv_iload_n hx hb dL_law_1133 rfl (lv_at hl 3 rfl) ?_
  refine lv_iconst (v := 2) hx hb dL_law_1134 (by decide) ?_
  refine lv_iadd hx hb dL_law_1135 ?_
  refine va_sld hx hb hX hbl hbA hW.2.2 h2 dL_law_1136 ?_
  refine cY_l (As := [.int (xs (x3 + 1).toNatClampNeg), .int (xs (x3 + 2).toNatClampNeg)]) (rest := [.long r]) C hW (c_X6_odds e6) kX6_odds q1129 rfl rfl rfl hl.1 ⟨Nat.le_of_ble_eq_true rfl, Nat.le_of_ble_eq_true rfl⟩ hcs (Nat.le_of_ble_eq_true rfl) dL_law_1137 (fun H locs hW => ?_)
  refine W.lcmp hx hb dL_law_1140 ?_
  refine lv_if_eq (tgt := 1574) hx hb dL_law_1141 (by decide) (fun _ => ?_) (fun h9 => absurd (by unfold lg_cmp; simp) h9)
  exact kk X' σ' _ _ hR' hW
set_option maxHeartbeats 4000000 in
set_option maxRecDepth 100000 in
theorem law_seed {Rel : Nat → XS → MS → Prop} {z : ZT} {k b Ln : Nat} {xs : Nat → Int32} {x3 : Int32} (hgh : GH G z) (C : Cx p s m args c cL_law 4 "PumpTalkLaw" D cy cz G A) (hX : va_X b Ln xs s s.heap) (hbl : b < s.heap.size) (hbA : ¬ A b) (hk : k < 512) (hstep : St_seed Rel) (hR : Rel k X σ) (h1 : vp_in (x3 + 1) Ln) (hl : lv_has ls 4 [(0, .ref b), (1, .ref (o 9 0)), (2, .ref (a 0)), (3, .int x3)]) (hcs : cells ≤ 600000 ∧ slots ≤ 7302250) (hW : Wd D A s.heap H locs (cLW o a cy cz X σ)) (kk : ∀ (X' : XS) (σ' : MS) (H1 : Heap) (locs1 : List Loc), Rel (k + 1) X' σ' → Wd D A s.heap H1 locs1 (cLW o a cy cz X' σ') → W p l e room_1 s m args below meth c H1 locs1 cells slots Q (F0 m 1574 ls [])) : W p l e room_1 s m args below meth c H locs cells slots Q (F0 m 1146 ls []) := by
  have hx := C.1
  have hb := C.2.1
  obtain ⟨r, X', σ', e5, e6, hR'⟩ := hstep k X σ (xs (x3 + 1).toNatClampNeg) hk hR
  refine lv_aload_n hx hb dL_law_1146 rfl (lv_at hl 1 rfl) ?_
  refine lv_aload_n hx hb dL_law_1147 rfl (lv_at hl 0 rfl) ?_
  refine lv_iload_n hx hb dL_law_1148 rfl (lv_at hl 3 rfl) ?_
  refine lv_iconst (v := 1) hx hb dL_law_1149 (by decide) ?_
  refine lv_iadd hx hb dL_law_1150 ?_
  refine va_sld hx hb hX hbl hbA hW.2.2 h1 dL_law_1151 ?_
  refine cX_i (As := [.int (xs (x3 + 1).toNatClampNeg)]) (rest := []) C hW (c_X5_seed e5) kX5_seed q572 rfl rfl rfl hl.1 ⟨Nat.le_of_ble_eq_true rfl, Nat.le_of_ble_eq_true rfl⟩ hcs (Nat.le_of_ble_eq_true rfl) dL_law_1152 (fun H locs hW => ?_)
  refine lv_aload_n hx hb dL_law_1155 rfl (lv_at hl 2 rfl) ?_
  refine lv_aload_n hx hb dL_law_1156 rfl (lv_at hl 0 rfl) ?_
  refine lv_iload_n hx hb dL_law_1157 rfl (lv_at hl 3 rfl) ?_
  refine lv_iconst (v := 1) hx hb dL_law_1158 (by decide) ?_
  refine lv_iadd hx hb dL_law_1159 ?_
  refine va_sld hx hb hX hbl hbA hW.2.2 h1 dL_law_1160 ?_
  refine cY_i (As := [.int (xs (x3 + 1).toNatClampNeg)]) (rest := [.int r]) C hW (c_X6_seed e6) kX6_seed q1134 rfl rfl rfl hl.1 ⟨Nat.le_of_ble_eq_true rfl, Nat.le_of_ble_eq_true rfl⟩ hcs (Nat.le_of_ble_eq_true rfl) dL_law_1161 (fun H locs hW => ?_)
  refine lv_icmp_eq (tgt := 1574) hx hb dL_law_1164 (by decide) (fun _ => ?_) (fun h9 => absurd rfl h9)
  exact kk X' σ' _ _ hR' hW
set_option maxHeartbeats 4000000 in
set_option maxRecDepth 100000 in
theorem law_feed {Rel : Nat → XS → MS → Prop} {z : ZT} {k b Ln : Nat} {xs : Nat → Int32} {x3 : Int32} (hgh : GH G z) (C : Cx p s m args c cL_law 4 "PumpTalkLaw" D cy cz G A) (hX : va_X b Ln xs s s.heap) (hbl : b < s.heap.size) (hbA : ¬ A b) (hk : k < 512) (hstep : St_feed Rel) (hR : Rel k X σ) (h1 : vp_in (x3 + 1) Ln) (h2 : vp_in (x3 + 2) Ln) (hl : lv_has ls 4 [(0, .ref b), (1, .ref (o 9 0)), (2, .ref (a 0)), (3, .int x3)]) (hcs : cells ≤ 600000 ∧ slots ≤ 7302250) (hW : Wd D A s.heap H locs (cLW o a cy cz X σ)) (kk : ∀ (X' : XS) (σ' : MS) (H1 : Heap) (locs1 : List Loc), Rel (k + 1) X' σ' → Wd D A s.heap H1 locs1 (cLW o a cy cz X' σ') → W p l e room_1 s m args below meth c H1 locs1 cells slots Q (F0 m 1574 ls [])) : W p l e room_1 s m args below meth c H locs cells slots Q (F0 m 1169 ls []) := by
  have hx := C.1
  have hb := C.2.1
  obtain ⟨r, X', σ', e5, e6, hR'⟩ := hstep k X σ (xs (x3 + 1).toNatClampNeg) (xs (x3 + 2).toNatClampNeg) hk hR
  refine lv_aload_n hx hb dL_law_1169 rfl (lv_at hl 1 rfl) ?_
  refine lv_aload_n hx hb dL_law_1170 rfl (lv_at hl 0 rfl) ?_
  refine lv_iload_n hx hb dL_law_1171 rfl (lv_at hl 3 rfl) ?_
  refine lv_iconst (v := 1) hx hb dL_law_1172 (by decide) ?_
  refine lv_iadd hx hb dL_law_1173 ?_
  refine va_sld hx hb hX hbl hbA hW.2.2 h1 dL_law_1174 ?_
  refine lv_aload_n hx hb dL_law_1175 rfl (lv_at hl 0 rfl) ?_
  refine lv_iload_n hx hb dL_law_1176 rfl (lv_at hl 3 rfl) ?_
  refine lv_iconst (v := 2) hx hb dL_law_1177 (by decide) ?_
  refine lv_iadd hx hb dL_law_1178 ?_
  refine va_sld hx hb hX hbl hbA hW.2.2 h2 dL_law_1179 ?_
  refine cX_i (As := [.int (xs (x3 + 1).toNatClampNeg), .int (xs (x3 + 2).toNatClampNeg)]) (rest := []) C hW (c_X5_feed e5) kX5_feed q576 rfl rfl rfl hl.1 ⟨Nat.le_of_ble_eq_true rfl, Nat.le_of_ble_eq_true rfl⟩ hcs (Nat.le_of_ble_eq_true rfl) dL_law_1180 (fun H locs hW => ?_)
  refine lv_aload_n hx hb dL_law_1183 rfl (lv_at hl 2 rfl) ?_
  refine lv_aload_n hx hb dL_law_1184 rfl (lv_at hl 0 rfl) ?_
  refine lv_iload_n hx hb dL_law_1185 rfl (lv_at hl 3 rfl) ?_
  refine lv_iconst (v := 1) hx hb dL_law_1186 (by decide) ?_
  refine lv_iadd hx hb dL_law_1187 ?_
  refine va_sld hx hb hX hbl hbA hW.2.2 h1 dL_law_1188 ?_
  refine lv_aload_n hx hb dL_law_1189 rfl (lv_at hl 0 rfl) ?_
  refine lv_iload_n hx hb dL_law_1190 rfl (lv_at hl 3 rfl) ?_
  refine lv_iconst (v := 2) hx hb dL_law_1191 (by decide) ?_
  refine lv_iadd hx hb dL_law_1192 ?_
  refine va_sld hx hb hX hbl hbA hW.2.2 h2 dL_law_1193 ?_
  refine cY_i (As := [.int (xs (x3 + 1).toNatClampNeg), .int (xs (x3 + 2).toNatClampNeg)]) (rest := [.int r]) C hW (c_X6_feed e6) kX6_feed q1138 rfl rfl rfl hl.1 ⟨Nat.le_of_ble_eq_true rfl, Nat.le_of_ble_eq_true rfl⟩ hcs (Nat.le_of_ble_eq_true rfl) dL_law_1194 (fun H locs hW => ?_)
  refine lv_icmp_eq (tgt := 1574) hx hb dL_law_1197 (by decide) (fun _ => ?_) (fun h9 => absurd rfl h9)
  exact kk X' σ' _ _ hR' hW
set_option maxHeartbeats 4000000 in
set_option maxRecDepth 100000 in
theorem law_wipe {Rel : Nat → XS → MS → Prop} {z : ZT} {k b Ln : Nat} {xs : Nat → Int32} {x3 : Int32} (hgh : GH G z) (C : Cx p s m args c cL_law 4 "PumpTalkLaw" D cy cz G A) (hX : va_X b Ln xs s s.heap) (hbl : b < s.heap.size) (hbA : ¬ A b) (hk : k < 512) (hstep : St_wipe Rel) (hR : Rel k X σ)  (hl : lv_has ls 4 [(0, .ref b), (1, .ref (o 9 0)), (2, .ref (a 0)), (3, .int x3)]) (hcs : cells ≤ 600000 ∧ slots ≤ 7302250) (hW : Wd D A s.heap H locs (cLW o a cy cz X σ)) (kk : ∀ (X' : XS) (σ' : MS) (H1 : Heap) (locs1 : List Loc), Rel (k + 1) X' σ' → Wd D A s.heap H1 locs1 (cLW o a cy cz X' σ') → W p l e room_1 s m args below meth c H1 locs1 cells slots Q (F0 m 1574 ls [])) : W p l e room_1 s m args below meth c H locs cells slots Q (F0 m 1202 ls []) := by
  have hx := C.1
  have hb := C.2.1
  obtain ⟨r, X', σ', e5, e6, hR'⟩ := hstep k X σ hk hR
  refine lv_aload_n hx hb dL_law_1202 rfl (lv_at hl 1 rfl) ?_
  refine cX_i (As := []) (rest := []) C hW (c_X5_wipe e5) kX5_wipe q584 rfl rfl rfl hl.1 ⟨Nat.le_of_ble_eq_true rfl, Nat.le_of_ble_eq_true rfl⟩ hcs (Nat.le_of_ble_eq_true rfl) dL_law_1203 (fun H locs hW => ?_)
  refine lv_aload_n hx hb dL_law_1206 rfl (lv_at hl 2 rfl) ?_
  refine cY_i (As := []) (rest := [.int r]) C hW (c_X6_wipe e6) kX6_wipe q1143 rfl rfl rfl hl.1 ⟨Nat.le_of_ble_eq_true rfl, Nat.le_of_ble_eq_true rfl⟩ hcs (Nat.le_of_ble_eq_true rfl) dL_law_1207 (fun H locs hW => ?_)
  refine lv_icmp_eq (tgt := 1574) hx hb dL_law_1210 (by decide) (fun _ => ?_) (fun h9 => absurd rfl h9)
  exact kk X' σ' _ _ hR' hW
set_option maxHeartbeats 4000000 in
set_option maxRecDepth 100000 in
theorem law_text {Rel : Nat → XS → MS → Prop} {z : ZT} {k b Ln : Nat} {xs : Nat → Int32} {x3 : Int32} (hgh : GH G z) (C : Cx p s m args c cL_law 4 "PumpTalkLaw" D cy cz G A) (hX : va_X b Ln xs s s.heap) (hbl : b < s.heap.size) (hbA : ¬ A b) (hk : k < 512) (hstep : St_text Rel) (hR : Rel k X σ)  (hl : lv_has ls 4 [(0, .ref b), (1, .ref (o 9 0)), (2, .ref (a 0)), (3, .int x3)]) (hcs : cells ≤ 600000 ∧ slots ≤ 7302250) (hW : Wd D A s.heap H locs (cLW o a cy cz X σ)) (kk : ∀ (X' : XS) (σ' : MS) (H1 : Heap) (locs1 : List Loc), Rel (k + 1) X' σ' → Wd D A s.heap H1 locs1 (cLW o a cy cz X' σ') → W p l e room_1 s m args below meth c H1 locs1 cells slots Q (F0 m 1574 ls [])) : W p l e room_1 s m args below meth c H locs cells slots Q (F0 m 1215 ls []) := by
  have hx := C.1
  have hb := C.2.1
  obtain ⟨r, X', σ', e5, e6, hR'⟩ := hstep k X σ hk hR
  refine lv_aload_n hx hb dL_law_1215 rfl (lv_at hl 1 rfl) ?_
  refine cX_i (As := []) (rest := []) C hW (c_X5_text hgh e5) kX5_text q588 rfl rfl rfl hl.1 ⟨Nat.le_of_ble_eq_true rfl, Nat.le_of_ble_eq_true rfl⟩ hcs (Nat.le_of_ble_eq_true rfl) dL_law_1216 (fun H locs hW => ?_)
  refine lv_aload_n hx hb dL_law_1219 rfl (lv_at hl 2 rfl) ?_
  refine cY_i (As := []) (rest := [.int r]) C hW (c_X6_text e6) kX6_text q1147 rfl rfl rfl hl.1 ⟨Nat.le_of_ble_eq_true rfl, Nat.le_of_ble_eq_true rfl⟩ hcs (Nat.le_of_ble_eq_true rfl) dL_law_1220 (fun H locs hW => ?_)
  refine lv_icmp_eq (tgt := 1574) hx hb dL_law_1223 (by decide) (fun _ => ?_) (fun h9 => absurd rfl h9)
  exact kk X' σ' _ _ hR' hW
set_option maxHeartbeats 4000000 in
set_option maxRecDepth 100000 in
theorem law_hold {Rel : Nat → XS → MS → Prop} {z : ZT} {k b Ln : Nat} {xs : Nat → Int32} {x3 : Int32} (hgh : GH G z) (C : Cx p s m args c cL_law 4 "PumpTalkLaw" D cy cz G A) (hX : va_X b Ln xs s s.heap) (hbl : b < s.heap.size) (hbA : ¬ A b) (hk : k < 512) (hstep : St_hold Rel) (hR : Rel k X σ) (h1 : vp_in (x3 + 1) Ln) (h2 : vp_in (x3 + 2) Ln) (hl : lv_has ls 4 [(0, .ref b), (1, .ref (o 9 0)), (2, .ref (a 0)), (3, .int x3)]) (hcs : cells ≤ 600000 ∧ slots ≤ 7302250) (hW : Wd D A s.heap H locs (cLW o a cy cz X σ)) (kk : ∀ (X' : XS) (σ' : MS) (H1 : Heap) (locs1 : List Loc), Rel (k + 1) X' σ' → Wd D A s.heap H1 locs1 (cLW o a cy cz X' σ') → W p l e room_1 s m args below meth c H1 locs1 cells slots Q (F0 m 1574 ls [])) : W p l e room_1 s m args below meth c H locs cells slots Q (F0 m 1228 ls []) := by
  have hx := C.1
  have hb := C.2.1
  obtain ⟨r, X', σ', e5, e6, hR'⟩ := hstep k X σ (xs (x3 + 1).toNatClampNeg) (xs (x3 + 2).toNatClampNeg) hk hR
  refine lv_aload_n hx hb dL_law_1228 rfl (lv_at hl 1 rfl) ?_
  refine lv_aload_n hx hb dL_law_1229 rfl (lv_at hl 0 rfl) ?_
  refine lv_iload_n hx hb dL_law_1230 rfl (lv_at hl 3 rfl) ?_
  refine lv_iconst (v := 1) hx hb dL_law_1231 (by decide) ?_
  refine lv_iadd hx hb dL_law_1232 ?_
  refine va_sld hx hb hX hbl hbA hW.2.2 h1 dL_law_1233 ?_
  refine lv_aload_n hx hb dL_law_1234 rfl (lv_at hl 0 rfl) ?_
  refine lv_iload_n hx hb dL_law_1235 rfl (lv_at hl 3 rfl) ?_
  refine lv_iconst (v := 2) hx hb dL_law_1236 (by decide) ?_
  refine lv_iadd hx hb dL_law_1237 ?_
  refine va_sld hx hb hX hbl hbA hW.2.2 h2 dL_law_1238 ?_
  refine cX_i (As := [.int (xs (x3 + 1).toNatClampNeg), .int (xs (x3 + 2).toNatClampNeg)]) (rest := []) C hW (c_X5_hold e5) kX5_hold q708 rfl rfl rfl hl.1 ⟨Nat.le_of_ble_eq_true rfl, Nat.le_of_ble_eq_true rfl⟩ hcs (Nat.le_of_ble_eq_true rfl) dL_law_1239 (fun H locs hW => ?_)
  refine lv_aload_n hx hb dL_law_1242 rfl (lv_at hl 2 rfl) ?_
  refine lv_aload_n hx hb dL_law_1243 rfl (lv_at hl 0 rfl) ?_
  refine lv_iload_n hx hb dL_law_1244 rfl (lv_at hl 3 rfl) ?_
  refine lv_iconst (v := 1) hx hb dL_law_1245 (by decide) ?_
  refine lv_iadd hx hb dL_law_1246 ?_
  refine va_sld hx hb hX hbl hbA hW.2.2 h1 dL_law_1247 ?_
  refine lv_aload_n hx hb dL_law_1248 rfl (lv_at hl 0 rfl) ?_
  refine lv_iload_n hx hb dL_law_1249 rfl (lv_at hl 3 rfl) ?_
  refine lv_iconst (v := 2) hx hb dL_law_1250 (by decide) ?_
  refine lv_iadd hx hb dL_law_1251 ?_
  refine va_sld hx hb hX hbl hbA hW.2.2 h2 dL_law_1252 ?_
  refine cY_i (As := [.int (xs (x3 + 1).toNatClampNeg), .int (xs (x3 + 2).toNatClampNeg)]) (rest := [.int r]) C hW (c_X6_hold e6) kX6_hold q1230 rfl rfl rfl hl.1 ⟨Nat.le_of_ble_eq_true rfl, Nat.le_of_ble_eq_true rfl⟩ hcs (Nat.le_of_ble_eq_true rfl) dL_law_1253 (fun H locs hW => ?_)
  refine lv_icmp_eq (tgt := 1574) hx hb dL_law_1256 (by decide) (fun _ => ?_) (fun h9 => absurd rfl h9)
  exact kk X' σ' _ _ hR' hW
set_option maxHeartbeats 4000000 in
set_option maxRecDepth 100000 in
theorem law_as {Rel : Nat → XS → MS → Prop} {z : ZT} {k b Ln : Nat} {xs : Nat → Int32} {x3 : Int32} (hgh : GH G z) (C : Cx p s m args c cL_law 4 "PumpTalkLaw" D cy cz G A) (hX : va_X b Ln xs s s.heap) (hbl : b < s.heap.size) (hbA : ¬ A b) (hk : k < 512) (hstep : St_as Rel) (hR : Rel k X σ) (h1 : vp_in (x3 + 1) Ln) (h2 : vp_in (x3 + 2) Ln) (hl : lv_has ls 4 [(0, .ref b), (1, .ref (o 9 0)), (2, .ref (a 0)), (3, .int x3)]) (hcs : cells ≤ 600000 ∧ slots ≤ 7302250) (hW : Wd D A s.heap H locs (cLW o a cy cz X σ)) (kk : ∀ (X' : XS) (σ' : MS) (H1 : Heap) (locs1 : List Loc), Rel (k + 1) X' σ' → Wd D A s.heap H1 locs1 (cLW o a cy cz X' σ') → W p l e room_1 s m args below meth c H1 locs1 cells slots Q (F0 m 1574 ls [])) : W p l e room_1 s m args below meth c H locs cells slots Q (F0 m 1261 ls []) := by
  have hx := C.1
  have hb := C.2.1
  obtain ⟨r, X', σ', e5, e6, hR'⟩ := hstep k X σ (xs (x3 + 1).toNatClampNeg) (xs (x3 + 2).toNatClampNeg) hk hR
  refine lv_aload_n hx hb dL_law_1261 rfl (lv_at hl 1 rfl) ?_
  refine lv_aload_n hx hb dL_law_1262 rfl (lv_at hl 0 rfl) ?_
  refine lv_iload_n hx hb dL_law_1263 rfl (lv_at hl 3 rfl) ?_
  refine lv_iconst (v := 1) hx hb dL_law_1264 (by decide) ?_
  refine lv_iadd hx hb dL_law_1265 ?_
  refine va_sld hx hb hX hbl hbA hW.2.2 h1 dL_law_1266 ?_
  refine lv_aload_n hx hb dL_law_1267 rfl (lv_at hl 0 rfl) ?_
  refine lv_iload_n hx hb dL_law_1268 rfl (lv_at hl 3 rfl) ?_
  refine lv_iconst (v := 2) hx hb dL_law_1269 (by decide) ?_
  refine lv_iadd hx hb dL_law_1270 ?_
  refine va_sld hx hb hX hbl hbA hW.2.2 h2 dL_law_1271 ?_
  refine cX_i (As := [.int (xs (x3 + 1).toNatClampNeg), .int (xs (x3 + 2).toNatClampNeg)]) (rest := []) C hW (c_X5_as hgh e5) kX5_as q712 rfl rfl rfl hl.1 ⟨Nat.le_of_ble_eq_true rfl, Nat.le_of_ble_eq_true rfl⟩ hcs (Nat.le_of_ble_eq_true rfl) dL_law_1272 (fun H locs hW => ?_)
  refine lv_aload_n hx hb dL_law_1275 rfl (lv_at hl 2 rfl) ?_
  refine lv_aload_n hx hb dL_law_1276 rfl (lv_at hl 0 rfl) ?_
  refine lv_iload_n hx hb dL_law_1277 rfl (lv_at hl 3 rfl) ?_
  refine lv_iconst (v := 1) hx hb dL_law_1278 (by decide) ?_
  refine lv_iadd hx hb dL_law_1279 ?_
  refine va_sld hx hb hX hbl hbA hW.2.2 h1 dL_law_1280 ?_
  refine lv_aload_n hx hb dL_law_1281 rfl (lv_at hl 0 rfl) ?_
  refine lv_iload_n hx hb dL_law_1282 rfl (lv_at hl 3 rfl) ?_
  refine lv_iconst (v := 2) hx hb dL_law_1283 (by decide) ?_
  refine lv_iadd hx hb dL_law_1284 ?_
  refine va_sld hx hb hX hbl hbA hW.2.2 h2 dL_law_1285 ?_
  refine cY_i (As := [.int (xs (x3 + 1).toNatClampNeg), .int (xs (x3 + 2).toNatClampNeg)]) (rest := [.int r]) C hW (c_X6_as e6) kX6_as q1237 rfl rfl rfl hl.1 ⟨Nat.le_of_ble_eq_true rfl, Nat.le_of_ble_eq_true rfl⟩ hcs (Nat.le_of_ble_eq_true rfl) dL_law_1286 (fun H locs hW => ?_)
  refine lv_icmp_eq (tgt := 1574) hx hb dL_law_1289 (by decide) (fun _ => ?_) (fun h9 => absurd rfl h9)
  exact kk X' σ' _ _ hR' hW
set_option maxHeartbeats 4000000 in
set_option maxRecDepth 100000 in
theorem law_sheet {Rel : Nat → XS → MS → Prop} {z : ZT} {k b Ln : Nat} {xs : Nat → Int32} {x3 : Int32} (hgh : GH G z) (C : Cx p s m args c cL_law 4 "PumpTalkLaw" D cy cz G A) (hX : va_X b Ln xs s s.heap) (hbl : b < s.heap.size) (hbA : ¬ A b) (hk : k < 512) (hstep : St_sheet Rel) (hR : Rel k X σ) (h1 : vp_in (x3 + 1) Ln) (h2 : vp_in (x3 + 2) Ln) (h3 : vp_in (x3 + 3) Ln) (hl : lv_has ls 4 [(0, .ref b), (1, .ref (o 9 0)), (2, .ref (a 0)), (3, .int x3)]) (hcs : cells ≤ 600000 ∧ slots ≤ 7302250) (hW : Wd D A s.heap H locs (cLW o a cy cz X σ)) (kk : ∀ (X' : XS) (σ' : MS) (H1 : Heap) (locs1 : List Loc), Rel (k + 1) X' σ' → Wd D A s.heap H1 locs1 (cLW o a cy cz X' σ') → W p l e room_1 s m args below meth c H1 locs1 cells slots Q (F0 m 1574 ls [])) : W p l e room_1 s m args below meth c H locs cells slots Q (F0 m 1294 ls []) := by
  have hx := C.1
  have hb := C.2.1
  obtain ⟨r, X', σ', e5, e6, hR'⟩ := hstep k X σ (xs (x3 + 1).toNatClampNeg) (xs (x3 + 2).toNatClampNeg) (xs (x3 + 3).toNatClampNeg) hk hR
  refine lv_aload_n hx hb dL_law_1294 rfl (lv_at hl 1 rfl) ?_
  refine lv_aload_n hx hb dL_law_1295 rfl (lv_at hl 0 rfl) ?_
  refine lv_iload_n hx hb dL_law_1296 rfl (lv_at hl 3 rfl) ?_
  refine lv_iconst (v := 1) hx hb dL_law_1297 (by decide) ?_
  refine lv_iadd hx hb dL_law_1298 ?_
  refine va_sld hx hb hX hbl hbA hW.2.2 h1 dL_law_1299 ?_
  refine lv_aload_n hx hb dL_law_1300 rfl (lv_at hl 0 rfl) ?_
  refine lv_iload_n hx hb dL_law_1301 rfl (lv_at hl 3 rfl) ?_
  refine lv_iconst (v := 2) hx hb dL_law_1302 (by decide) ?_
  refine lv_iadd hx hb dL_law_1303 ?_
  refine va_sld hx hb hX hbl hbA hW.2.2 h2 dL_law_1304 ?_
  refine lv_aload_n hx hb dL_law_1305 rfl (lv_at hl 0 rfl) ?_
  refine lv_iload_n hx hb dL_law_1306 rfl (lv_at hl 3 rfl) ?_
  refine lv_iconst (v := 3) hx hb dL_law_1307 (by decide) ?_
  refine lv_iadd hx hb dL_law_1308 ?_
  refine va_sld hx hb hX hbl hbA hW.2.2 h3 dL_law_1309 ?_
  refine cX_i (As := [.int (xs (x3 + 1).toNatClampNeg), .int (xs (x3 + 2).toNatClampNeg), .int (xs (x3 + 3).toNatClampNeg)]) (rest := []) C hW (c_X5_sheet e5) kX5_sheet q722 rfl rfl rfl hl.1 ⟨Nat.le_of_ble_eq_true rfl, Nat.le_of_ble_eq_true rfl⟩ hcs (Nat.le_of_ble_eq_true rfl) dL_law_1310 (fun H locs hW => ?_)
  refine lv_aload_n hx hb dL_law_1313 rfl (lv_at hl 2 rfl) ?_
  refine lv_aload_n hx hb dL_law_1314 rfl (lv_at hl 0 rfl) ?_
  refine lv_iload_n hx hb dL_law_1315 rfl (lv_at hl 3 rfl) ?_
  refine lv_iconst (v := 1) hx hb dL_law_1316 (by decide) ?_
  refine lv_iadd hx hb dL_law_1317 ?_
  refine va_sld hx hb hX hbl hbA hW.2.2 h1 dL_law_1318 ?_
  refine lv_aload_n hx hb dL_law_1319 rfl (lv_at hl 0 rfl) ?_
  refine lv_iload_n hx hb dL_law_1320 rfl (lv_at hl 3 rfl) ?_
  refine lv_iconst (v := 2) hx hb dL_law_1321 (by decide) ?_
  refine lv_iadd hx hb dL_law_1322 ?_
  refine va_sld hx hb hX hbl hbA hW.2.2 h2 dL_law_1323 ?_
  refine lv_aload_n hx hb dL_law_1324 rfl (lv_at hl 0 rfl) ?_
  refine lv_iload_n hx hb dL_law_1325 rfl (lv_at hl 3 rfl) ?_
  refine lv_iconst (v := 3) hx hb dL_law_1326 (by decide) ?_
  refine lv_iadd hx hb dL_law_1327 ?_
  refine va_sld hx hb hX hbl hbA hW.2.2 h3 dL_law_1328 ?_
  refine cY_i (As := [.int (xs (x3 + 1).toNatClampNeg), .int (xs (x3 + 2).toNatClampNeg), .int (xs (x3 + 3).toNatClampNeg)]) (rest := [.int r]) C hW (c_X6_sheet e6) kX6_sheet q1245 rfl rfl rfl hl.1 ⟨Nat.le_of_ble_eq_true rfl, Nat.le_of_ble_eq_true rfl⟩ hcs (Nat.le_of_ble_eq_true rfl) dL_law_1329 (fun H locs hW => ?_)
  refine lv_icmp_eq (tgt := 1574) hx hb dL_law_1332 (by decide) (fun _ => ?_) (fun h9 => absurd rfl h9)
  exact kk X' σ' _ _ hR' hW
set_option maxHeartbeats 4000000 in
set_option maxRecDepth 100000 in
theorem law_write {Rel : Nat → XS → MS → Prop} {z : ZT} {k b Ln : Nat} {xs : Nat → Int32} {x3 : Int32} (hgh : GH G z) (C : Cx p s m args c cL_law 4 "PumpTalkLaw" D cy cz G A) (hX : va_X b Ln xs s s.heap) (hbl : b < s.heap.size) (hbA : ¬ A b) (hk : k < 512) (hstep : St_write Rel) (hR : Rel k X σ) (h1 : vp_in (x3 + 1) Ln) (h2 : vp_in (x3 + 2) Ln) (h3 : vp_in (x3 + 3) Ln) (hl : lv_has ls 4 [(0, .ref b), (1, .ref (o 9 0)), (2, .ref (a 0)), (3, .int x3)]) (hcs : cells ≤ 600000 ∧ slots ≤ 7302250) (hW : Wd D A s.heap H locs (cLW o a cy cz X σ)) (kk : ∀ (X' : XS) (σ' : MS) (H1 : Heap) (locs1 : List Loc), Rel (k + 1) X' σ' → Wd D A s.heap H1 locs1 (cLW o a cy cz X' σ') → W p l e room_1 s m args below meth c H1 locs1 cells slots Q (F0 m 1574 ls [])) : W p l e room_1 s m args below meth c H locs cells slots Q (F0 m 1337 ls []) := by
  have hx := C.1
  have hb := C.2.1
  obtain ⟨r, X', σ', e5, e6, hR'⟩ := hstep k X σ (xs (x3 + 1).toNatClampNeg) (xs (x3 + 2).toNatClampNeg) (xs (x3 + 3).toNatClampNeg) hk hR
  refine lv_aload_n hx hb dL_law_1337 rfl (lv_at hl 1 rfl) ?_
  refine lv_aload_n hx hb dL_law_1338 rfl (lv_at hl 0 rfl) ?_
  refine lv_iload_n hx hb dL_law_1339 rfl (lv_at hl 3 rfl) ?_
  refine lv_iconst (v := 1) hx hb dL_law_1340 (by decide) ?_
  refine lv_iadd hx hb dL_law_1341 ?_
  refine va_sld hx hb hX hbl hbA hW.2.2 h1 dL_law_1342 ?_
  refine lv_aload_n hx hb dL_law_1343 rfl (lv_at hl 0 rfl) ?_
  refine lv_iload_n hx hb dL_law_1344 rfl (lv_at hl 3 rfl) ?_
  refine lv_iconst (v := 2) hx hb dL_law_1345 (by decide) ?_
  refine lv_iadd hx hb dL_law_1346 ?_
  refine va_sld hx hb hX hbl hbA hW.2.2 h2 dL_law_1347 ?_
  refine lv_aload_n hx hb dL_law_1348 rfl (lv_at hl 0 rfl) ?_
  refine lv_iload_n hx hb dL_law_1349 rfl (lv_at hl 3 rfl) ?_
  refine lv_iconst (v := 3) hx hb dL_law_1350 (by decide) ?_
  refine lv_iadd hx hb dL_law_1351 ?_
  refine va_sld hx hb hX hbl hbA hW.2.2 h3 dL_law_1352 ?_
  refine cX_i (As := [.int (xs (x3 + 1).toNatClampNeg), .int (xs (x3 + 2).toNatClampNeg), .int (xs (x3 + 3).toNatClampNeg)]) (rest := []) C hW (c_X5_write e5) kX5_write q731 rfl rfl rfl hl.1 ⟨Nat.le_of_ble_eq_true rfl, Nat.le_of_ble_eq_true rfl⟩ hcs (Nat.le_of_ble_eq_true rfl) dL_law_1353 (fun H locs hW => ?_)
  refine lv_aload_n hx hb dL_law_1356 rfl (lv_at hl 2 rfl) ?_
  refine lv_aload_n hx hb dL_law_1357 rfl (lv_at hl 0 rfl) ?_
  refine lv_iload_n hx hb dL_law_1358 rfl (lv_at hl 3 rfl) ?_
  refine lv_iconst (v := 1) hx hb dL_law_1359 (by decide) ?_
  refine lv_iadd hx hb dL_law_1360 ?_
  refine va_sld hx hb hX hbl hbA hW.2.2 h1 dL_law_1361 ?_
  refine lv_aload_n hx hb dL_law_1362 rfl (lv_at hl 0 rfl) ?_
  refine lv_iload_n hx hb dL_law_1363 rfl (lv_at hl 3 rfl) ?_
  refine lv_iconst (v := 2) hx hb dL_law_1364 (by decide) ?_
  refine lv_iadd hx hb dL_law_1365 ?_
  refine va_sld hx hb hX hbl hbA hW.2.2 h2 dL_law_1366 ?_
  refine lv_aload_n hx hb dL_law_1367 rfl (lv_at hl 0 rfl) ?_
  refine lv_iload_n hx hb dL_law_1368 rfl (lv_at hl 3 rfl) ?_
  refine lv_iconst (v := 3) hx hb dL_law_1369 (by decide) ?_
  refine lv_iadd hx hb dL_law_1370 ?_
  refine va_sld hx hb hX hbl hbA hW.2.2 h3 dL_law_1371 ?_
  refine cY_i (As := [.int (xs (x3 + 1).toNatClampNeg), .int (xs (x3 + 2).toNatClampNeg), .int (xs (x3 + 3).toNatClampNeg)]) (rest := [.int r]) C hW (c_X6_write e6) kX6_write q1250 rfl rfl rfl hl.1 ⟨Nat.le_of_ble_eq_true rfl, Nat.le_of_ble_eq_true rfl⟩ hcs (Nat.le_of_ble_eq_true rfl) dL_law_1372 (fun H locs hW => ?_)
  refine lv_icmp_eq (tgt := 1574) hx hb dL_law_1375 (by decide) (fun _ => ?_) (fun h9 => absurd rfl h9)
  exact kk X' σ' _ _ hR' hW
set_option maxHeartbeats 4000000 in
set_option maxRecDepth 100000 in
theorem law_copy {Rel : Nat → XS → MS → Prop} {z : ZT} {k b Ln : Nat} {xs : Nat → Int32} {x3 : Int32} (hgh : GH G z) (C : Cx p s m args c cL_law 4 "PumpTalkLaw" D cy cz G A) (hX : va_X b Ln xs s s.heap) (hbl : b < s.heap.size) (hbA : ¬ A b) (hk : k < 512) (hstep : St_copy Rel) (hR : Rel k X σ) (h1 : vp_in (x3 + 1) Ln) (h2 : vp_in (x3 + 2) Ln) (h3 : vp_in (x3 + 3) Ln) (h4 : vp_in (x3 + 4) Ln) (h5 : vp_in (x3 + 5) Ln) (hl : lv_has ls 4 [(0, .ref b), (1, .ref (o 9 0)), (2, .ref (a 0)), (3, .int x3)]) (hcs : cells ≤ 600000 ∧ slots ≤ 7302250) (hW : Wd D A s.heap H locs (cLW o a cy cz X σ)) (kk : ∀ (X' : XS) (σ' : MS) (H1 : Heap) (locs1 : List Loc), Rel (k + 1) X' σ' → Wd D A s.heap H1 locs1 (cLW o a cy cz X' σ') → W p l e room_1 s m args below meth c H1 locs1 cells slots Q (F0 m 1574 ls [])) : W p l e room_1 s m args below meth c H locs cells slots Q (F0 m 1380 ls []) := by
  have hx := C.1
  have hb := C.2.1
  obtain ⟨r, X', σ', e5, e6, hR'⟩ := hstep k X σ (xs (x3 + 1).toNatClampNeg) (xs (x3 + 2).toNatClampNeg) (xs (x3 + 3).toNatClampNeg) (xs (x3 + 4).toNatClampNeg) (xs (x3 + 5).toNatClampNeg) hk hR
  refine lv_aload_n hx hb dL_law_1380 rfl (lv_at hl 1 rfl) ?_
  refine lv_aload_n hx hb dL_law_1381 rfl (lv_at hl 0 rfl) ?_
  refine lv_iload_n hx hb dL_law_1382 rfl (lv_at hl 3 rfl) ?_
  refine lv_iconst (v := 1) hx hb dL_law_1383 (by decide) ?_
  refine lv_iadd hx hb dL_law_1384 ?_
  refine va_sld hx hb hX hbl hbA hW.2.2 h1 dL_law_1385 ?_
  refine lv_aload_n hx hb dL_law_1386 rfl (lv_at hl 0 rfl) ?_
  refine lv_iload_n hx hb dL_law_1387 rfl (lv_at hl 3 rfl) ?_
  refine lv_iconst (v := 2) hx hb dL_law_1388 (by decide) ?_
  refine lv_iadd hx hb dL_law_1389 ?_
  refine va_sld hx hb hX hbl hbA hW.2.2 h2 dL_law_1390 ?_
  refine lv_aload_n hx hb dL_law_1391 rfl (lv_at hl 0 rfl) ?_
  refine lv_iload_n hx hb dL_law_1392 rfl (lv_at hl 3 rfl) ?_
  refine lv_iconst (v := 3) hx hb dL_law_1393 (by decide) ?_
  refine lv_iadd hx hb dL_law_1394 ?_
  refine va_sld hx hb hX hbl hbA hW.2.2 h3 dL_law_1395 ?_
  refine lv_aload_n hx hb dL_law_1396 rfl (lv_at hl 0 rfl) ?_
  refine lv_iload_n hx hb dL_law_1397 rfl (lv_at hl 3 rfl) ?_
  refine lv_iconst (v := 4) hx hb dL_law_1398 (by decide) ?_
  refine lv_iadd hx hb dL_law_1399 ?_
  refine va_sld hx hb hX hbl hbA hW.2.2 h4 dL_law_1400 ?_
  refine lv_aload_n hx hb dL_law_1401 rfl (lv_at hl 0 rfl) ?_
  refine lv_iload_n hx hb dL_law_1402 rfl (lv_at hl 3 rfl) ?_
  refine lv_iconst (v := 5) hx hb dL_law_1403 (by decide) ?_
  refine lv_iadd hx hb dL_law_1404 ?_
  refine va_sld hx hb hX hbl hbA hW.2.2 h5 dL_law_1405 ?_
  refine cX_i (As := [.int (xs (x3 + 1).toNatClampNeg), .int (xs (x3 + 2).toNatClampNeg), .int (xs (x3 + 3).toNatClampNeg), .int (xs (x3 + 4).toNatClampNeg), .int (xs (x3 + 5).toNatClampNeg)]) (rest := []) C hW (c_X5_copy e5) kX5_copy q739 rfl rfl rfl hl.1 ⟨Nat.le_of_ble_eq_true rfl, Nat.le_of_ble_eq_true rfl⟩ hcs (Nat.le_of_ble_eq_true rfl) dL_law_1406 (fun H locs hW => ?_)
  refine lv_aload_n hx hb dL_law_1409 rfl (lv_at hl 2 rfl) ?_
  refine lv_aload_n hx hb dL_law_1410 rfl (lv_at hl 0 rfl) ?_
  refine lv_iload_n hx hb dL_law_1411 rfl (lv_at hl 3 rfl) ?_
  refine lv_iconst (v := 1) hx hb dL_law_1412 (by decide) ?_
  refine lv_iadd hx hb dL_law_1413 ?_
  refine va_sld hx hb hX hbl hbA hW.2.2 h1 dL_law_1414 ?_
  refine lv_aload_n hx hb dL_law_1415 rfl (lv_at hl 0 rfl) ?_
  refine lv_iload_n hx hb dL_law_1416 rfl (lv_at hl 3 rfl) ?_
  refine lv_iconst (v := 2) hx hb dL_law_1417 (by decide) ?_
  refine lv_iadd hx hb dL_law_1418 ?_
  refine va_sld hx hb hX hbl hbA hW.2.2 h2 dL_law_1419 ?_
  refine lv_aload_n hx hb dL_law_1420 rfl (lv_at hl 0 rfl) ?_
  refine lv_iload_n hx hb dL_law_1421 rfl (lv_at hl 3 rfl) ?_
  refine lv_iconst (v := 3) hx hb dL_law_1422 (by decide) ?_
  refine lv_iadd hx hb dL_law_1423 ?_
  refine va_sld hx hb hX hbl hbA hW.2.2 h3 dL_law_1424 ?_
  refine lv_aload_n hx hb dL_law_1425 rfl (lv_at hl 0 rfl) ?_
  refine lv_iload_n hx hb dL_law_1426 rfl (lv_at hl 3 rfl) ?_
  refine lv_iconst (v := 4) hx hb dL_law_1427 (by decide) ?_
  refine lv_iadd hx hb dL_law_1428 ?_
  refine va_sld hx hb hX hbl hbA hW.2.2 h4 dL_law_1429 ?_
  refine lv_aload_n hx hb dL_law_1430 rfl (lv_at hl 0 rfl) ?_
  refine lv_iload_n hx hb dL_law_1431 rfl (lv_at hl 3 rfl) ?_
  refine lv_iconst (v := 5) hx hb dL_law_1432 (by decide) ?_
  refine lv_iadd hx hb dL_law_1433 ?_
  refine va_sld hx hb hX hbl hbA hW.2.2 h5 dL_law_1434 ?_
  refine cY_i (As := [.int (xs (x3 + 1).toNatClampNeg), .int (xs (x3 + 2).toNatClampNeg), .int (xs (x3 + 3).toNatClampNeg), .int (xs (x3 + 4).toNatClampNeg), .int (xs (x3 + 5).toNatClampNeg)]) (rest := [.int r]) C hW (c_X6_copy e6) kX6_copy q1257 rfl rfl rfl hl.1 ⟨Nat.le_of_ble_eq_true rfl, Nat.le_of_ble_eq_true rfl⟩ hcs (Nat.le_of_ble_eq_true rfl) dL_law_1435 (fun H locs hW => ?_)
  refine lv_icmp_eq (tgt := 1574) hx hb dL_law_1438 (by decide) (fun _ => ?_) (fun h9 => absurd rfl h9)
  exact kk X' σ' _ _ hR' hW
set_option maxHeartbeats 4000000 in
set_option maxRecDepth 100000 in
theorem law_load {Rel : Nat → XS → MS → Prop} {z : ZT} {k b Ln : Nat} {xs : Nat → Int32} {x3 : Int32} (hgh : GH G z) (C : Cx p s m args c cL_law 4 "PumpTalkLaw" D cy cz G A) (hX : va_X b Ln xs s s.heap) (hbl : b < s.heap.size) (hbA : ¬ A b) (hk : k < 512) (hstep : St_load Rel) (hR : Rel k X σ) (h1 : vp_in (x3 + 1) Ln) (hl : lv_has ls 4 [(0, .ref b), (1, .ref (o 9 0)), (2, .ref (a 0)), (3, .int x3)]) (hcs : cells ≤ 600000 ∧ slots ≤ 7302250) (hW : Wd D A s.heap H locs (cLW o a cy cz X σ)) (kk : ∀ (X' : XS) (σ' : MS) (H1 : Heap) (locs1 : List Loc), Rel (k + 1) X' σ' → Wd D A s.heap H1 locs1 (cLW o a cy cz X' σ') → W p l e room_1 s m args below meth c H1 locs1 cells slots Q (F0 m 1574 ls [])) : W p l e room_1 s m args below meth c H locs cells slots Q (F0 m 1443 ls []) := by
  have hx := C.1
  have hb := C.2.1
  obtain ⟨r, X', σ', e5, e6, hR'⟩ := hstep k X σ (xs (x3 + 1).toNatClampNeg) hk hR
  refine lv_aload_n hx hb dL_law_1443 rfl (lv_at hl 1 rfl) ?_
  refine lv_aload_n hx hb dL_law_1444 rfl (lv_at hl 0 rfl) ?_
  refine lv_iload_n hx hb dL_law_1445 rfl (lv_at hl 3 rfl) ?_
  refine lv_iconst (v := 1) hx hb dL_law_1446 (by decide) ?_
  refine lv_iadd hx hb dL_law_1447 ?_
  refine va_sld hx hb hX hbl hbA hW.2.2 h1 dL_law_1448 ?_
  refine cX_i (As := [.int (xs (x3 + 1).toNatClampNeg)]) (rest := []) C hW (c_X5_load e5) kX5_load q748 rfl rfl rfl hl.1 ⟨Nat.le_of_ble_eq_true rfl, Nat.le_of_ble_eq_true rfl⟩ hcs (Nat.le_of_ble_eq_true rfl) dL_law_1449 (fun H locs hW => ?_)
  refine lv_aload_n hx hb dL_law_1452 rfl (lv_at hl 2 rfl) ?_
  refine lv_aload_n hx hb dL_law_1453 rfl (lv_at hl 0 rfl) ?_
  refine lv_iload_n hx hb dL_law_1454 rfl (lv_at hl 3 rfl) ?_
  refine lv_iconst (v := 1) hx hb dL_law_1455 (by decide) ?_
  refine lv_iadd hx hb dL_law_1456 ?_
  refine va_sld hx hb hX hbl hbA hW.2.2 h1 dL_law_1457 ?_
  refine cY_i (As := [.int (xs (x3 + 1).toNatClampNeg)]) (rest := [.int r]) C hW (c_X6_load e6) kX6_load q1261 rfl rfl rfl hl.1 ⟨Nat.le_of_ble_eq_true rfl, Nat.le_of_ble_eq_true rfl⟩ hcs (Nat.le_of_ble_eq_true rfl) dL_law_1458 (fun H locs hW => ?_)
  refine lv_icmp_eq (tgt := 1574) hx hb dL_law_1461 (by decide) (fun _ => ?_) (fun h9 => absurd rfl h9)
  exact kk X' σ' _ _ hR' hW
set_option maxHeartbeats 4000000 in
set_option maxRecDepth 100000 in
theorem law_judge {Rel : Nat → XS → MS → Prop} {z : ZT} {k b Ln : Nat} {xs : Nat → Int32} {x3 : Int32} (hgh : GH G z) (C : Cx p s m args c cL_law 4 "PumpTalkLaw" D cy cz G A) (hX : va_X b Ln xs s s.heap) (hbl : b < s.heap.size) (hbA : ¬ A b) (hk : k < 512) (hstep : St_judge Rel) (hR : Rel k X σ) (h1 : vp_in (x3 + 1) Ln) (hl : lv_has ls 4 [(0, .ref b), (1, .ref (o 9 0)), (2, .ref (a 0)), (3, .int x3)]) (hcs : cells ≤ 600000 ∧ slots ≤ 7302250) (hW : Wd D A s.heap H locs (cLW o a cy cz X σ)) (kk : ∀ (X' : XS) (σ' : MS) (H1 : Heap) (locs1 : List Loc), Rel (k + 1) X' σ' → Wd D A s.heap H1 locs1 (cLW o a cy cz X' σ') → W p l e room_1 s m args below meth c H1 locs1 cells slots Q (F0 m 1574 ls [])) : W p l e room_1 s m args below meth c H locs cells slots Q (F0 m 1466 ls []) := by
  have hx := C.1
  have hb := C.2.1
  obtain ⟨r, X', σ', e5, e6, hR'⟩ := hstep k X σ (xs (x3 + 1).toNatClampNeg) hk hR
  refine lv_aload_n hx hb dL_law_1466 rfl (lv_at hl 1 rfl) ?_
  refine lv_aload_n hx hb dL_law_1467 rfl (lv_at hl 0 rfl) ?_
  refine lv_iload_n hx hb dL_law_1468 rfl (lv_at hl 3 rfl) ?_
  refine lv_iconst (v := 1) hx hb dL_law_1469 (by decide) ?_
  refine lv_iadd hx hb dL_law_1470 ?_
  refine va_sld hx hb hX hbl hbA hW.2.2 h1 dL_law_1471 ?_
  refine cX_i (As := [.int (xs (x3 + 1).toNatClampNeg)]) (rest := []) C hW (c_X5_judge e5) kX5_judge q753 rfl rfl rfl hl.1 ⟨Nat.le_of_ble_eq_true rfl, Nat.le_of_ble_eq_true rfl⟩ hcs (Nat.le_of_ble_eq_true rfl) dL_law_1472 (fun H locs hW => ?_)
  refine lv_aload_n hx hb dL_law_1475 rfl (lv_at hl 2 rfl) ?_
  refine lv_aload_n hx hb dL_law_1476 rfl (lv_at hl 0 rfl) ?_
  refine lv_iload_n hx hb dL_law_1477 rfl (lv_at hl 3 rfl) ?_
  refine lv_iconst (v := 1) hx hb dL_law_1478 (by decide) ?_
  refine lv_iadd hx hb dL_law_1479 ?_
  refine va_sld hx hb hX hbl hbA hW.2.2 h1 dL_law_1480 ?_
  refine cY_i (As := [.int (xs (x3 + 1).toNatClampNeg)]) (rest := [.int r]) C hW (c_X6_judge e6) kX6_judge q1265 rfl rfl rfl hl.1 ⟨Nat.le_of_ble_eq_true rfl, Nat.le_of_ble_eq_true rfl⟩ hcs (Nat.le_of_ble_eq_true rfl) dL_law_1481 (fun H locs hW => ?_)
  refine lv_icmp_eq (tgt := 1574) hx hb dL_law_1484 (by decide) (fun _ => ?_) (fun h9 => absurd rfl h9)
  exact kk X' σ' _ _ hR' hW
set_option maxHeartbeats 4000000 in
set_option maxRecDepth 100000 in
theorem law_image {Rel : Nat → XS → MS → Prop} {z : ZT} {k b Ln : Nat} {xs : Nat → Int32} {x3 : Int32} (hgh : GH G z) (C : Cx p s m args c cL_law 4 "PumpTalkLaw" D cy cz G A) (hX : va_X b Ln xs s s.heap) (hbl : b < s.heap.size) (hbA : ¬ A b) (hk : k < 512) (hstep : St_image Rel) (hR : Rel k X σ)  (hl : lv_has ls 4 [(0, .ref b), (1, .ref (o 9 0)), (2, .ref (a 0)), (3, .int x3)]) (hcs : cells ≤ 600000 ∧ slots ≤ 7302250) (hW : Wd D A s.heap H locs (cLW o a cy cz X σ)) (kk : ∀ (X' : XS) (σ' : MS) (H1 : Heap) (locs1 : List Loc), Rel (k + 1) X' σ' → Wd D A s.heap H1 locs1 (cLW o a cy cz X' σ') → W p l e room_1 s m args below meth c H1 locs1 cells slots Q (F0 m 1574 ls [])) : W p l e room_1 s m args below meth c H locs cells slots Q (F0 m 1489 ls []) := by
  have hx := C.1
  have hb := C.2.1
  obtain ⟨r, X', σ', e5, e6, hR'⟩ := hstep k X σ hk hR
  refine lv_aload_n hx hb dL_law_1489 rfl (lv_at hl 1 rfl) ?_
  refine cX_i (As := []) (rest := []) C hW (c_X5_image e5) kX5_image q757 rfl rfl rfl hl.1 ⟨Nat.le_of_ble_eq_true rfl, Nat.le_of_ble_eq_true rfl⟩ hcs (Nat.le_of_ble_eq_true rfl) dL_law_1490 (fun H locs hW => ?_)
  refine lv_aload_n hx hb dL_law_1493 rfl (lv_at hl 2 rfl) ?_
  refine cY_i (As := []) (rest := [.int r]) C hW (c_X6_image e6) kX6_image q1269 rfl rfl rfl hl.1 ⟨Nat.le_of_ble_eq_true rfl, Nat.le_of_ble_eq_true rfl⟩ hcs (Nat.le_of_ble_eq_true rfl) dL_law_1494 (fun H locs hW => ?_)
  refine lv_icmp_eq (tgt := 1574) hx hb dL_law_1497 (by decide) (fun _ => ?_) (fun h9 => absurd rfl h9)
  exact kk X' σ' _ _ hR' hW
set_option maxHeartbeats 4000000 in
set_option maxRecDepth 100000 in
theorem law_undo {Rel : Nat → XS → MS → Prop} {z : ZT} {k b Ln : Nat} {xs : Nat → Int32} {x3 : Int32} (hgh : GH G z) (C : Cx p s m args c cL_law 4 "PumpTalkLaw" D cy cz G A) (hX : va_X b Ln xs s s.heap) (hbl : b < s.heap.size) (hbA : ¬ A b) (hk : k < 512) (hstep : St_undo Rel) (hR : Rel k X σ)  (hl : lv_has ls 4 [(0, .ref b), (1, .ref (o 9 0)), (2, .ref (a 0)), (3, .int x3)]) (hcs : cells ≤ 600000 ∧ slots ≤ 7302250) (hW : Wd D A s.heap H locs (cLW o a cy cz X σ)) (kk : ∀ (X' : XS) (σ' : MS) (H1 : Heap) (locs1 : List Loc), Rel (k + 1) X' σ' → Wd D A s.heap H1 locs1 (cLW o a cy cz X' σ') → W p l e room_1 s m args below meth c H1 locs1 cells slots Q (F0 m 1574 ls [])) : W p l e room_1 s m args below meth c H locs cells slots Q (F0 m 1502 ls []) := by
  have hx := C.1
  have hb := C.2.1
  obtain ⟨r, X', σ', e5, e6, hR'⟩ := hstep k X σ hk hR
  refine lv_aload_n hx hb dL_law_1502 rfl (lv_at hl 1 rfl) ?_
  refine cX_i (As := []) (rest := []) C hW (c_X5_undo e5) kX5_undo q761 rfl rfl rfl hl.1 ⟨Nat.le_of_ble_eq_true rfl, Nat.le_of_ble_eq_true rfl⟩ hcs (Nat.le_of_ble_eq_true rfl) dL_law_1503 (fun H locs hW => ?_)
  refine lv_aload_n hx hb dL_law_1506 rfl (lv_at hl 2 rfl) ?_
  refine cY_i (As := []) (rest := [.int r]) C hW (c_X6_undo e6) kX6_undo q1273 rfl rfl rfl hl.1 ⟨Nat.le_of_ble_eq_true rfl, Nat.le_of_ble_eq_true rfl⟩ hcs (Nat.le_of_ble_eq_true rfl) dL_law_1507 (fun H locs hW => ?_)
  refine lv_icmp_eq (tgt := 1574) hx hb dL_law_1510 (by decide) (fun _ => ?_) (fun h9 => absurd rfl h9)
  exact kk X' σ' _ _ hR' hW
set_option maxHeartbeats 4000000 in
set_option maxRecDepth 100000 in
theorem law_tear {Rel : Nat → XS → MS → Prop} {z : ZT} {k b Ln : Nat} {xs : Nat → Int32} {x3 : Int32} (hgh : GH G z) (C : Cx p s m args c cL_law 4 "PumpTalkLaw" D cy cz G A) (hX : va_X b Ln xs s s.heap) (hbl : b < s.heap.size) (hbA : ¬ A b) (hk : k < 512) (hstep : St_tear Rel) (hR : Rel k X σ)  (hl : lv_has ls 4 [(0, .ref b), (1, .ref (o 9 0)), (2, .ref (a 0)), (3, .int x3)]) (hcs : cells ≤ 600000 ∧ slots ≤ 7302250) (hW : Wd D A s.heap H locs (cLW o a cy cz X σ)) (kk : ∀ (X' : XS) (σ' : MS) (H1 : Heap) (locs1 : List Loc), Rel (k + 1) X' σ' → Wd D A s.heap H1 locs1 (cLW o a cy cz X' σ') → W p l e room_1 s m args below meth c H1 locs1 cells slots Q (F0 m 1574 ls [])) : W p l e room_1 s m args below meth c H locs cells slots Q (F0 m 1515 ls []) := by
  have hx := C.1
  have hb := C.2.1
  obtain ⟨r, X', σ', e5, e6, hR'⟩ := hstep k X σ hk hR
  refine lv_aload_n hx hb dL_law_1515 rfl (lv_at hl 1 rfl) ?_
  refine cX_i (As := []) (rest := []) C hW (c_X5_tear e5) kX5_tear q765 rfl rfl rfl hl.1 ⟨Nat.le_of_ble_eq_true rfl, Nat.le_of_ble_eq_true rfl⟩ hcs (Nat.le_of_ble_eq_true rfl) dL_law_1516 (fun H locs hW => ?_)
  refine lv_aload_n hx hb dL_law_1519 rfl (lv_at hl 2 rfl) ?_
  refine cY_i (As := []) (rest := [.int r]) C hW (c_X6_tear e6) kX6_tear q1277 rfl rfl rfl hl.1 ⟨Nat.le_of_ble_eq_true rfl, Nat.le_of_ble_eq_true rfl⟩ hcs (Nat.le_of_ble_eq_true rfl) dL_law_1520 (fun H locs hW => ?_)
  refine lv_icmp_eq (tgt := 1574) hx hb dL_law_1523 (by decide) (fun _ => ?_) (fun h9 => absurd rfl h9)
  exact kk X' σ' _ _ hR' hW
set_option maxHeartbeats 4000000 in
set_option maxRecDepth 100000 in
theorem law_count {Rel : Nat → XS → MS → Prop} {z : ZT} {k b Ln : Nat} {xs : Nat → Int32} {x3 : Int32} (hgh : GH G z) (C : Cx p s m args c cL_law 4 "PumpTalkLaw" D cy cz G A) (hX : va_X b Ln xs s s.heap) (hbl : b < s.heap.size) (hbA : ¬ A b) (hk : k < 512) (hstep : St_count Rel) (hR : Rel k X σ) (h1 : vp_in (x3 + 1) Ln) (hl : lv_has ls 4 [(0, .ref b), (1, .ref (o 9 0)), (2, .ref (a 0)), (3, .int x3)]) (hcs : cells ≤ 600000 ∧ slots ≤ 7302250) (hW : Wd D A s.heap H locs (cLW o a cy cz X σ)) (kk : ∀ (X' : XS) (σ' : MS) (H1 : Heap) (locs1 : List Loc), Rel (k + 1) X' σ' → Wd D A s.heap H1 locs1 (cLW o a cy cz X' σ') → W p l e room_1 s m args below meth c H1 locs1 cells slots Q (F0 m 1574 ls [])) : W p l e room_1 s m args below meth c H locs cells slots Q (F0 m 1528 ls []) := by
  have hx := C.1
  have hb := C.2.1
  obtain ⟨r, X', σ', e5, e6, hR'⟩ := hstep k X σ (xs (x3 + 1).toNatClampNeg) hk hR
  refine lv_aload_n hx hb dL_law_1528 rfl (lv_at hl 1 rfl) ?_
  refine lv_aload_n hx hb dL_law_1529 rfl (lv_at hl 0 rfl) ?_
  refine lv_iload_n hx hb dL_law_1530 rfl (lv_at hl 3 rfl) ?_
  refine lv_iconst (v := 1) hx hb dL_law_1531 (by decide) ?_
  refine lv_iadd hx hb dL_law_1532 ?_
  refine va_sld hx hb hX hbl hbA hW.2.2 h1 dL_law_1533 ?_
  refine cX_i (As := [.int (xs (x3 + 1).toNatClampNeg)]) (rest := []) C hW (c_X5_count e5) kX5_count q769 rfl rfl rfl hl.1 ⟨Nat.le_of_ble_eq_true rfl, Nat.le_of_ble_eq_true rfl⟩ hcs (Nat.le_of_ble_eq_true rfl) dL_law_1534 (fun H locs hW => ?_)
  refine lv_aload_n hx hb dL_law_1537 rfl (lv_at hl 2 rfl) ?_
  refine lv_aload_n hx hb dL_law_1538 rfl (lv_at hl 0 rfl) ?_
  refine lv_iload_n hx hb dL_law_1539 rfl (lv_at hl 3 rfl) ?_
  refine lv_iconst (v := 1) hx hb dL_law_1540 (by decide) ?_
  refine lv_iadd hx hb dL_law_1541 ?_
  refine va_sld hx hb hX hbl hbA hW.2.2 h1 dL_law_1542 ?_
  refine cY_i (As := [.int (xs (x3 + 1).toNatClampNeg)]) (rest := [.int r]) C hW (c_X6_count e6) kX6_count q1281 rfl rfl rfl hl.1 ⟨Nat.le_of_ble_eq_true rfl, Nat.le_of_ble_eq_true rfl⟩ hcs (Nat.le_of_ble_eq_true rfl) dL_law_1543 (fun H locs hW => ?_)
  refine lv_icmp_eq (tgt := 1574) hx hb dL_law_1546 (by decide) (fun _ => ?_) (fun h9 => absurd rfl h9)
  exact kk X' σ' _ _ hR' hW
set_option maxHeartbeats 4000000 in
set_option maxRecDepth 100000 in
theorem law_status {Rel : Nat → XS → MS → Prop} {z : ZT} {k b Ln : Nat} {xs : Nat → Int32} {x3 : Int32} (hgh : GH G z) (C : Cx p s m args c cL_law 4 "PumpTalkLaw" D cy cz G A) (hX : va_X b Ln xs s s.heap) (hbl : b < s.heap.size) (hbA : ¬ A b) (hk : k < 512) (hstep : St_status Rel) (hR : Rel k X σ) (h1 : vp_in (x3 + 1) Ln) (hl : lv_has ls 4 [(0, .ref b), (1, .ref (o 9 0)), (2, .ref (a 0)), (3, .int x3)]) (hcs : cells ≤ 600000 ∧ slots ≤ 7302250) (hW : Wd D A s.heap H locs (cLW o a cy cz X σ)) (kk : ∀ (X' : XS) (σ' : MS) (H1 : Heap) (locs1 : List Loc), Rel (k + 1) X' σ' → Wd D A s.heap H1 locs1 (cLW o a cy cz X' σ') → W p l e room_1 s m args below meth c H1 locs1 cells slots Q (F0 m 1574 ls [])) : W p l e room_1 s m args below meth c H locs cells slots Q (F0 m 1551 ls []) := by
  have hx := C.1
  have hb := C.2.1
  obtain ⟨r, X', σ', e5, e6, hR'⟩ := hstep k X σ (xs (x3 + 1).toNatClampNeg) hk hR
  refine lv_aload_n hx hb dL_law_1551 rfl (lv_at hl 1 rfl) ?_
  refine lv_aload_n hx hb dL_law_1552 rfl (lv_at hl 0 rfl) ?_
  refine lv_iload_n hx hb dL_law_1553 rfl (lv_at hl 3 rfl) ?_
  refine lv_iconst (v := 1) hx hb dL_law_1554 (by decide) ?_
  refine lv_iadd hx hb dL_law_1555 ?_
  refine va_sld hx hb hX hbl hbA hW.2.2 h1 dL_law_1556 ?_
  refine cX_i (As := [.int (xs (x3 + 1).toNatClampNeg)]) (rest := []) C hW (c_X5_status e5) kX5_status q777 rfl rfl rfl hl.1 ⟨Nat.le_of_ble_eq_true rfl, Nat.le_of_ble_eq_true rfl⟩ hcs (Nat.le_of_ble_eq_true rfl) dL_law_1557 (fun H locs hW => ?_)
  refine lv_aload_n hx hb dL_law_1560 rfl (lv_at hl 2 rfl) ?_
  refine lv_aload_n hx hb dL_law_1561 rfl (lv_at hl 0 rfl) ?_
  refine lv_iload_n hx hb dL_law_1562 rfl (lv_at hl 3 rfl) ?_
  refine lv_iconst (v := 1) hx hb dL_law_1563 (by decide) ?_
  refine lv_iadd hx hb dL_law_1564 ?_
  refine va_sld hx hb hX hbl hbA hW.2.2 h1 dL_law_1565 ?_
  refine cY_i (As := [.int (xs (x3 + 1).toNatClampNeg)]) (rest := [.int r]) C hW (c_X6_status e6) kX6_status q1289 rfl rfl rfl hl.1 ⟨Nat.le_of_ble_eq_true rfl, Nat.le_of_ble_eq_true rfl⟩ hcs (Nat.le_of_ble_eq_true rfl) dL_law_1566 (fun H locs hW => ?_)
  refine lv_icmp_eq (tgt := 1574) hx hb dL_law_1569 (by decide) (fun _ => ?_) (fun h9 => absurd rfl h9)
  exact kk X' σ' _ _ hR' hW
def StAll (Rel : Nat → XS → MS → Prop) : Prop := St_person Rel ∧ St_of Rel ∧ St_change Rel ∧ St_reply Rel ∧ St_apart Rel ∧ St_pair Rel ∧ St_rest Rel ∧ St_subject Rel ∧ St_go Rel ∧ St_now Rel ∧ St_ahead Rel ∧ St_view Rel ∧ St_dry Rel ∧ St_filled Rel ∧ St_round Rel ∧ St_gives Rel ∧ St_best Rel ∧ St_partner Rel ∧ St_subjectFor Rel ∧ St_matched Rel ∧ St_matchOf Rel ∧ St_kindFor Rel ∧ St_viewFor Rel ∧ St_voiceFor Rel ∧ St_fits Rel ∧ St_thought Rel ∧ St_kinds Rel ∧ St_quarrels Rel ∧ St_odds Rel ∧ St_seed Rel ∧ St_feed Rel ∧ St_wipe Rel ∧ St_text Rel ∧ St_hold Rel ∧ St_as Rel ∧ St_sheet Rel ∧ St_write Rel ∧ St_copy Rel ∧ St_load Rel ∧ St_judge Rel ∧ St_image Rel ∧ St_undo Rel ∧ St_tear Rel ∧ St_count Rel ∧ St_status Rel
theorem law_le {k L : Nat} (hL : L ≤ 3072) (hk : 6 * k ≤ L) (h : ¬ nI L - 6 < nI (6 * k)) : 6 * k + 6 ≤ L := by
  have e : (nI L - 6).toInt = (L : Int) - 6 := pk_sub_toInt (a := L) (b := 6) (by omega) (by omega)
  have e2 : (nI (6 * k)).toInt = ((6 * k : Nat) : Int) := nI_toInt (by omega)
  rw [Int32.lt_iff_toInt_lt, e, e2] at h
  omega
set_option maxHeartbeats 4000000 in
set_option maxRecDepth 100000 in
theorem law_loop {Rel : Nat → XS → MS → Prop} {z : ZT} {b Ln : Nat} {xs : Nat → Int32} (hgh : GH G z) (C : Cx p s m #[Value.ref b] c cL_law 4 "PumpTalkLaw" D cy cz G (fun q : Nat => s.heap.size ≤ q)) (hr : meth.sig.returnType = ret) (hlk : meth.locks = false) (hX : va_X b Ln xs s s.heap) (hbl : b < s.heap.size) (hL : Ln ≤ 3072) (hst : StAll Rel) (hkeep : ∀ k X σ, Rel k X σ → Rel (k + 1) X σ) (hcs : cells ≤ 600000 ∧ slots ≤ 7302250) :
    ∀ (n k : Nat) (x3 : Int32), 6 * k ≤ Ln → Ln + 6 ≤ 6 * k + 6 * n → x3 = nI (6 * k) → ∀ (X : XS) (σ : MS), Rel k X σ → ∀ (H : Heap) (locs : List Loc) (ls : Array Slot), Wd D (fun q : Nat => s.heap.size ≤ q) s.heap H locs (cLW o a cy cz X σ) → lv_has ls 4 [(0, .ref b), (1, .ref (o 9 0)), (2, .ref (a 0)), (3, .int x3)] → W p l e room_1 s m #[Value.ref b] below meth c H locs cells slots (lw_Z below #[Value.ref b] s) (F0 m 18 ls []) := by
  have hx := C.1
  have hb := C.2.1
  have hbA : ¬ (fun q : Nat => s.heap.size ≤ q) b := Nat.not_le.mpr hbl
  obtain ⟨s0, s1, s2, s3, s4, s5, s6, s7, s8, s9, s10, s11, s12, s13, s14, s15, s16, s17, s18, s19, s20, s21, s22, s23, s24, s25, s26, s27, s28, s29, s30, s31, s32, s33, s34, s35, s36, s37, s38, s39, s40, s41, s42, s43, s44⟩ := hst
  intro n
  induction n with
  | zero =>
    intro k x3 h1 h2
    exact absurd h2 (by omega)
  | succ n ih =>
    intro k x3 hk1 hk2 ex3 X σ hR H locs ls hW hl
    refine lv_iload_n hx hb dL_law_18 rfl (lv_at hl 3 rfl) ?_
    refine lv_aload_n hx hb dL_law_19 rfl (lv_at hl 0 rfl) ?_
    refine va_slen hx hb hX hbl hbA hW.2.2 dL_law_20 ?_
    refine lv_bipush (v := 6) hx hb dL_law_21 (by decide) ?_
    refine lv_isub hx hb dL_law_23 ?_
    refine lv_icmp_gt (tgt := 1580) hx hb dL_law_24 (by decide) (fun hc => ?_) (fun hc => ?_)
    · refine lv_iconst (v := 1) hx hb dL_law_1580 (by decide) ?_
      refine va_forget (fun q hq => hW.2.2.2.2 q hq) ?_
      refine W.widen (k := 600000) (n := 7302250) hcs.1 hcs.2 ?_
      exact lw_ret hx hb hr hlk dL_law_1581
    · have hle : 6 * k + 6 ≤ Ln := law_le hL (by omega) (ex3 ▸ hc)
      have hk : k < 512 := by omega
      have h0 : vp_in x3 Ln := by rw [ex3]; exact vp_in_nI (by omega) (by omega)
      have h1 : vp_in (x3 + 1) Ln := by rw [ex3, show (1 : Int32) = nI 1 from rfl, nI_add]; exact vp_in_nI (by omega) (by omega)
      have h2 : vp_in (x3 + 2) Ln := by rw [ex3, show (2 : Int32) = nI 2 from rfl, nI_add]; exact vp_in_nI (by omega) (by omega)
      have h3 : vp_in (x3 + 3) Ln := by rw [ex3, show (3 : Int32) = nI 3 from rfl, nI_add]; exact vp_in_nI (by omega) (by omega)
      have h4 : vp_in (x3 + 4) Ln := by rw [ex3, show (4 : Int32) = nI 4 from rfl, nI_add]; exact vp_in_nI (by omega) (by omega)
      have h5 : vp_in (x3 + 5) Ln := by rw [ex3, show (5 : Int32) = nI 5 from rfl, nI_add]; exact vp_in_nI (by omega) (by omega)
      have back : ∀ (X' : XS) (σ' : MS) (H1 : Heap) (locs1 : List Loc), Rel (k + 1) X' σ' → Wd D (fun q : Nat => s.heap.size ≤ q) s.heap H1 locs1 (cLW o a cy cz X' σ') → W p l e room_1 s m #[Value.ref b] below meth c H1 locs1 cells slots (lw_Z below #[Value.ref b] s) (F0 m 1574 ls []) := by
        intro X' σ' H1 locs1 hR' hW'
        refine lv_iinc (v := x3 + 6) (lv' := [(3, .int (x3 + 6)), (0, .ref b), (1, .ref (o 9 0)), (2, .ref (a 0))]) hx hb dL_law_1574 hl (k := 3) rfl (congrArg (fun z : Int32 => x3 + z) (by decide)) (by decide) rfl (fun ls hl => ?_)
        refine lv_goto (tgt := 18) hx hb dL_law_1577 (by decide) ?_
        exact ih (k + 1) (x3 + 6) (by omega) (by omega) (by rw [ex3, show (6 : Int32) = nI 6 from rfl, nI_add]; rfl) X' σ' hR' _ _ _ hW' (lv_sub hl [1, 2, 3, 0] rfl)
      refine lv_aload_n hx hb dL_law_27 rfl (lv_at hl 0 rfl) ?_
      refine lv_iload_n hx hb dL_law_28 rfl (lv_at hl 3 rfl) ?_
      refine va_sld hx hb hX hbl hbA hW.2.2 h0 dL_law_29 ?_
      refine lv_bipush (v := 63) hx hb dL_law_30 (by decide) ?_
      refine lv_iand hx hb dL_law_32 ?_
      obtain ⟨j, hj64, hj⟩ := pk_andE (xs x3.toNatClampNeg) (m := 63) 6 (by decide)
      rcases Nat.lt_or_ge j 45 with hj45 | hj45
      · rcases (show j = 0 ∨ j = 1 ∨ j = 2 ∨ j = 3 ∨ j = 4 ∨ j = 5 ∨ j = 6 ∨ j = 7 ∨ j = 8 ∨ j = 9 ∨ j = 10 ∨ j = 11 ∨ j = 12 ∨ j = 13 ∨ j = 14 ∨ j = 15 ∨ j = 16 ∨ j = 17 ∨ j = 18 ∨ j = 19 ∨ j = 20 ∨ j = 21 ∨ j = 22 ∨ j = 23 ∨ j = 24 ∨ j = 25 ∨ j = 26 ∨ j = 27 ∨ j = 28 ∨ j = 29 ∨ j = 30 ∨ j = 31 ∨ j = 32 ∨ j = 33 ∨ j = 34 ∨ j = 35 ∨ j = 36 ∨ j = 37 ∨ j = 38 ∨ j = 39 ∨ j = 40 ∨ j = 41 ∨ j = 42 ∨ j = 43 ∨ j = 44 by omega) with rfl | rfl | rfl | rfl | rfl | rfl | rfl | rfl | rfl | rfl | rfl | rfl | rfl | rfl | rfl | rfl | rfl | rfl | rfl | rfl | rfl | rfl | rfl | rfl | rfl | rfl | rfl | rfl | rfl | rfl | rfl | rfl | rfl | rfl | rfl | rfl | rfl | rfl | rfl | rfl | rfl | rfl | rfl | rfl | rfl
        · refine lv_tableIn (tgt := 228) (off := 195) hx hb dL_law_33 (by rw [hj]; decide) (by rw [hj]; decide) (by rw [hj]; rfl) (by decide) ?_
          exact law_person hgh C hX hbl hbA hk s0 hR h1 hl hcs hW back
        · refine lv_tableIn (tgt := 251) (off := 218) hx hb dL_law_33 (by rw [hj]; decide) (by rw [hj]; decide) (by rw [hj]; rfl) (by decide) ?_
          exact law_of hgh C hX hbl hbA hk s1 hR h1 h2 hl hcs hW back
        · refine lv_tableIn (tgt := 284) (off := 251) hx hb dL_law_33 (by rw [hj]; decide) (by rw [hj]; decide) (by rw [hj]; rfl) (by decide) ?_
          exact law_change hgh C hX hbl hbA hk s2 hR h1 h2 h3 hl hcs hW back
        · refine lv_tableIn (tgt := 327) (off := 294) hx hb dL_law_33 (by rw [hj]; decide) (by rw [hj]; decide) (by rw [hj]; rfl) (by decide) ?_
          exact law_reply hgh C hX hbl hbA hk s3 hR h1 h2 h3 hl hcs hW back
        · refine lv_tableIn (tgt := 370) (off := 337) hx hb dL_law_33 (by rw [hj]; decide) (by rw [hj]; decide) (by rw [hj]; rfl) (by decide) ?_
          exact law_apart hgh C hX hbl hbA hk s4 hR h1 h2 h3 hl hcs hW back
        · refine lv_tableIn (tgt := 413) (off := 380) hx hb dL_law_33 (by rw [hj]; decide) (by rw [hj]; decide) (by rw [hj]; rfl) (by decide) ?_
          exact law_pair hgh C hX hbl hbA hk s5 hR h1 h2 hl hcs hW back
        · refine lv_tableIn (tgt := 446) (off := 413) hx hb dL_law_33 (by rw [hj]; decide) (by rw [hj]; decide) (by rw [hj]; rfl) (by decide) ?_
          exact law_rest hgh C hX hbl hbA hk s6 hR hl hcs hW back
        · refine lv_tableIn (tgt := 459) (off := 426) hx hb dL_law_33 (by rw [hj]; decide) (by rw [hj]; decide) (by rw [hj]; rfl) (by decide) ?_
          exact law_subject hgh C hX hbl hbA hk s7 hR h1 hl hcs hW back
        · refine lv_tableIn (tgt := 482) (off := 449) hx hb dL_law_33 (by rw [hj]; decide) (by rw [hj]; decide) (by rw [hj]; rfl) (by decide) ?_
          exact law_go hgh C hX hbl hbA hk s8 hR h1 hl hcs hW back
        · refine lv_tableIn (tgt := 505) (off := 472) hx hb dL_law_33 (by rw [hj]; decide) (by rw [hj]; decide) (by rw [hj]; rfl) (by decide) ?_
          exact law_now hgh C hX hbl hbA hk s9 hR h1 hl hcs hW back
        · refine lv_tableIn (tgt := 528) (off := 495) hx hb dL_law_33 (by rw [hj]; decide) (by rw [hj]; decide) (by rw [hj]; rfl) (by decide) ?_
          exact law_ahead hgh C hX hbl hbA hk s10 hR h1 hl hcs hW back
        · refine lv_tableIn (tgt := 551) (off := 518) hx hb dL_law_33 (by rw [hj]; decide) (by rw [hj]; decide) (by rw [hj]; rfl) (by decide) ?_
          exact law_view hgh C hX hbl hbA hk s11 hR h1 h2 h3 hl hcs hW back
        · refine lv_tableIn (tgt := 594) (off := 561) hx hb dL_law_33 (by rw [hj]; decide) (by rw [hj]; decide) (by rw [hj]; rfl) (by decide) ?_
          exact law_dry hgh C hX hbl hbA hk s12 hR hl hcs hW back
        · refine lv_tableIn (tgt := 607) (off := 574) hx hb dL_law_33 (by rw [hj]; decide) (by rw [hj]; decide) (by rw [hj]; rfl) (by decide) ?_
          exact law_filled hgh C hX hbl hbA hk s13 hR h1 hl hcs hW back
        · refine lv_tableIn (tgt := 630) (off := 597) hx hb dL_law_33 (by rw [hj]; decide) (by rw [hj]; decide) (by rw [hj]; rfl) (by decide) ?_
          exact law_round hgh C hX hbl hbA hk s14 hR hl hcs hW back
        · refine lv_tableIn (tgt := 643) (off := 610) hx hb dL_law_33 (by rw [hj]; decide) (by rw [hj]; decide) (by rw [hj]; rfl) (by decide) ?_
          exact law_gives hgh C hX hbl hbA hk s15 hR h1 h2 h3 hl hcs hW back
        · refine lv_tableIn (tgt := 686) (off := 653) hx hb dL_law_33 (by rw [hj]; decide) (by rw [hj]; decide) (by rw [hj]; rfl) (by decide) ?_
          exact law_best hgh C hX hbl hbA hk s16 hR h1 hl hcs hW back
        · refine lv_tableIn (tgt := 709) (off := 676) hx hb dL_law_33 (by rw [hj]; decide) (by rw [hj]; decide) (by rw [hj]; rfl) (by decide) ?_
          exact law_partner hgh C hX hbl hbA hk s17 hR h1 h2 hl hcs hW back
        · refine lv_tableIn (tgt := 742) (off := 709) hx hb dL_law_33 (by rw [hj]; decide) (by rw [hj]; decide) (by rw [hj]; rfl) (by decide) ?_
          exact law_subjectFor hgh C hX hbl hbA hk s18 hR h1 h2 h3 hl hcs hW back
        · refine lv_tableIn (tgt := 785) (off := 752) hx hb dL_law_33 (by rw [hj]; decide) (by rw [hj]; decide) (by rw [hj]; rfl) (by decide) ?_
          exact law_matched hgh C hX hbl hbA hk s19 hR h1 hl hcs hW back
        · refine lv_tableIn (tgt := 808) (off := 775) hx hb dL_law_33 (by rw [hj]; decide) (by rw [hj]; decide) (by rw [hj]; rfl) (by decide) ?_
          exact law_matchOf hgh C hX hbl hbA hk s20 hR h1 h2 hl hcs hW back
        · refine lv_tableIn (tgt := 841) (off := 808) hx hb dL_law_33 (by rw [hj]; decide) (by rw [hj]; decide) (by rw [hj]; rfl) (by decide) ?_
          exact law_kindFor hgh C hX hbl hbA hk s21 hR h1 h2 h3 hl hcs hW back
        · refine lv_tableIn (tgt := 884) (off := 851) hx hb dL_law_33 (by rw [hj]; decide) (by rw [hj]; decide) (by rw [hj]; rfl) (by decide) ?_
          exact law_viewFor hgh C hX hbl hbA hk s22 hR h1 h2 h3 h4 hl hcs hW back
        · refine lv_tableIn (tgt := 937) (off := 904) hx hb dL_law_33 (by rw [hj]; decide) (by rw [hj]; decide) (by rw [hj]; rfl) (by decide) ?_
          exact law_voiceFor hgh C hX hbl hbA hk s23 hR h1 h2 h3 h4 hl hcs hW back
        · refine lv_tableIn (tgt := 990) (off := 957) hx hb dL_law_33 (by rw [hj]; decide) (by rw [hj]; decide) (by rw [hj]; rfl) (by decide) ?_
          exact law_fits hgh C hX hbl hbA hk s24 hR h1 h2 hl hcs hW back
        · refine lv_tableIn (tgt := 1023) (off := 990) hx hb dL_law_33 (by rw [hj]; decide) (by rw [hj]; decide) (by rw [hj]; rfl) (by decide) ?_
          exact law_thought hgh C hX hbl hbA hk s25 hR h1 h2 hl hcs hW back
        · refine lv_tableIn (tgt := 1056) (off := 1023) hx hb dL_law_33 (by rw [hj]; decide) (by rw [hj]; decide) (by rw [hj]; rfl) (by decide) ?_
          exact law_kinds hgh C hX hbl hbA hk s26 hR h1 h2 hl hcs hW back
        · refine lv_tableIn (tgt := 1089) (off := 1056) hx hb dL_law_33 (by rw [hj]; decide) (by rw [hj]; decide) (by rw [hj]; rfl) (by decide) ?_
          exact law_quarrels hgh C hX hbl hbA hk s27 hR h1 hl hcs hW back
        · refine lv_tableIn (tgt := 1112) (off := 1079) hx hb dL_law_33 (by rw [hj]; decide) (by rw [hj]; decide) (by rw [hj]; rfl) (by decide) ?_
          exact law_odds hgh C hX hbl hbA hk s28 hR h1 h2 hl hcs hW back
        · refine lv_tableIn (tgt := 1146) (off := 1113) hx hb dL_law_33 (by rw [hj]; decide) (by rw [hj]; decide) (by rw [hj]; rfl) (by decide) ?_
          exact law_seed hgh C hX hbl hbA hk s29 hR h1 hl hcs hW back
        · refine lv_tableIn (tgt := 1169) (off := 1136) hx hb dL_law_33 (by rw [hj]; decide) (by rw [hj]; decide) (by rw [hj]; rfl) (by decide) ?_
          exact law_feed hgh C hX hbl hbA hk s30 hR h1 h2 hl hcs hW back
        · refine lv_tableIn (tgt := 1202) (off := 1169) hx hb dL_law_33 (by rw [hj]; decide) (by rw [hj]; decide) (by rw [hj]; rfl) (by decide) ?_
          exact law_wipe hgh C hX hbl hbA hk s31 hR hl hcs hW back
        · refine lv_tableIn (tgt := 1215) (off := 1182) hx hb dL_law_33 (by rw [hj]; decide) (by rw [hj]; decide) (by rw [hj]; rfl) (by decide) ?_
          exact law_text hgh C hX hbl hbA hk s32 hR hl hcs hW back
        · refine lv_tableIn (tgt := 1228) (off := 1195) hx hb dL_law_33 (by rw [hj]; decide) (by rw [hj]; decide) (by rw [hj]; rfl) (by decide) ?_
          exact law_hold hgh C hX hbl hbA hk s33 hR h1 h2 hl hcs hW back
        · refine lv_tableIn (tgt := 1261) (off := 1228) hx hb dL_law_33 (by rw [hj]; decide) (by rw [hj]; decide) (by rw [hj]; rfl) (by decide) ?_
          exact law_as hgh C hX hbl hbA hk s34 hR h1 h2 hl hcs hW back
        · refine lv_tableIn (tgt := 1294) (off := 1261) hx hb dL_law_33 (by rw [hj]; decide) (by rw [hj]; decide) (by rw [hj]; rfl) (by decide) ?_
          exact law_sheet hgh C hX hbl hbA hk s35 hR h1 h2 h3 hl hcs hW back
        · refine lv_tableIn (tgt := 1337) (off := 1304) hx hb dL_law_33 (by rw [hj]; decide) (by rw [hj]; decide) (by rw [hj]; rfl) (by decide) ?_
          exact law_write hgh C hX hbl hbA hk s36 hR h1 h2 h3 hl hcs hW back
        · refine lv_tableIn (tgt := 1380) (off := 1347) hx hb dL_law_33 (by rw [hj]; decide) (by rw [hj]; decide) (by rw [hj]; rfl) (by decide) ?_
          exact law_copy hgh C hX hbl hbA hk s37 hR h1 h2 h3 h4 h5 hl hcs hW back
        · refine lv_tableIn (tgt := 1443) (off := 1410) hx hb dL_law_33 (by rw [hj]; decide) (by rw [hj]; decide) (by rw [hj]; rfl) (by decide) ?_
          exact law_load hgh C hX hbl hbA hk s38 hR h1 hl hcs hW back
        · refine lv_tableIn (tgt := 1466) (off := 1433) hx hb dL_law_33 (by rw [hj]; decide) (by rw [hj]; decide) (by rw [hj]; rfl) (by decide) ?_
          exact law_judge hgh C hX hbl hbA hk s39 hR h1 hl hcs hW back
        · refine lv_tableIn (tgt := 1489) (off := 1456) hx hb dL_law_33 (by rw [hj]; decide) (by rw [hj]; decide) (by rw [hj]; rfl) (by decide) ?_
          exact law_image hgh C hX hbl hbA hk s40 hR hl hcs hW back
        · refine lv_tableIn (tgt := 1502) (off := 1469) hx hb dL_law_33 (by rw [hj]; decide) (by rw [hj]; decide) (by rw [hj]; rfl) (by decide) ?_
          exact law_undo hgh C hX hbl hbA hk s41 hR hl hcs hW back
        · refine lv_tableIn (tgt := 1515) (off := 1482) hx hb dL_law_33 (by rw [hj]; decide) (by rw [hj]; decide) (by rw [hj]; rfl) (by decide) ?_
          exact law_tear hgh C hX hbl hbA hk s42 hR hl hcs hW back
        · refine lv_tableIn (tgt := 1528) (off := 1495) hx hb dL_law_33 (by rw [hj]; decide) (by rw [hj]; decide) (by rw [hj]; rfl) (by decide) ?_
          exact law_count hgh C hX hbl hbA hk s43 hR h1 hl hcs hW back
        · refine lv_tableIn (tgt := 1551) (off := 1518) hx hb dL_law_33 (by rw [hj]; decide) (by rw [hj]; decide) (by rw [hj]; rfl) (by decide) ?_
          exact law_status hgh C hX hbl hbA hk s44 hR h1 hl hcs hW back
      · refine lv_tableOut (tgt := 1574) hx hb dL_law_33 (by rw [hj, nI_toInt (by omega)]; omega) (by decide) ?_
        exact back X σ _ _ (hkeep k X σ hR) hW
end LAW
