def abv (j : Nat) : Int32 := ([-1, 0, 0, 2, 3, 0, 1] : List Int32).getD j 0
def strL : List Nat := [4, 6, 6, 7, 3, 6, 6, 5, 6, 4, 2]
def strB : List (List Int32) := [[100, 101, 97, 102], [108, 97, 119, 121, 101, 114], [109, 97, 115, 116, 101, 114], [116, 114, 105, 110, 105, 116, 121], [119, 101, 100], [102, 114, 105, 101, 110, 100], [112, 101, 114, 115, 111, 110], [118, 111, 105, 99, 101], [116, 104, 105, 110, 107, 115], [112, 97, 105, 114], [111, 110]]
abbrev ZT : Type := Nat × (Nat → Nat) × (Nat → Nat)
/-- the facts: the nest's link, Kinds.ABOVE, the texts, String's own statics -/
def GF (z : ZT) (A : Nat → Prop) (U : State) (H : Heap) : Prop := va_Nw (.methodLinkNest "PumpTalk$Matching" 18 yX5_pairNumber "PumpTalk") U ∧ (va_Z "PumpTalk$Kinds" "ABOVE" "[I" (.ref z.1) A U H ∧ va_T .int z.1 7 (fun j => .int (abv j)) A U H) ∧ vk_S 11 strL strB z.2.1 z.2.2 A U H ∧ (vk_R "PumpTalk$Kinds" 15 "deaf" (z.2.1 0) U ∧ vk_R "PumpTalk$Kinds" 17 "lawyer" (z.2.1 1) U ∧ vk_R "PumpTalk$Kinds" 19 "master" (z.2.1 2) U ∧ vk_R "PumpTalk$Kinds" 21 "trinity" (z.2.1 3) U ∧ vk_R "PumpTalk$Kinds" 23 "wed" (z.2.1 4) U ∧ vk_R "PumpTalk$Kinds" 25 "friend" (z.2.1 5) U ∧ vk_R "PumpTalk$Kinds" 27 "person" (z.2.1 6) U ∧ vk_R "PumpTalk$Reader" 76 "voice" (z.2.1 7) U ∧ vk_R "PumpTalk$Reader" 85 "thinks" (z.2.1 8) U ∧ vk_R "PumpTalk$Reader" 56 "pair" (z.2.1 9) U ∧ vk_R "PumpTalk$Reader" 61 "on" (z.2.1 10) U) ∧ va_Z "java/lang/String" "COMPACT_STRINGS" "Z" (.int 1) A U H ∧ va_Zq "jdk/internal/util/Preconditions" "SIOOBE_FORMATTER" "Ljava/util/function/BiFunction;" A U H
def GH (G : GT) (z : ZT) : Prop := ∀ (A : Nat → Prop) (U : State) (H : Heap), G A U H → GF z A U H

section OUT
variable {p : Program} {l : Launch} {e : Env} {s : State} {m : MethodId} {below : List Frame} {meth : Method} {c : Code} {cc : ByteArray} {D : va_G} {cy cz : ClassId} {G : GT} {A : Nat → Prop} {H : Heap} {locs : List Loc} {ls : Array Slot} {args : Array Value} {R : Room} {nL pc : Nat} {own : String} {w w' wc wc' wr : va_W} {rest : List Value} {Q : State → Prop} {cells slots : Nat}
theorem cN_i {y : MethodName} {bytes : ByteArray} {maxL fr lo k index : Nat} {rt : Option FieldType} {As : List Value} {r : Int32} {st0 : List Value} (C : Cx p s m args c cc nL own D cy cz G A) (hW : Wd D A s.heap H locs w)
    (hM : CtI l D cy cz G y bytes maxL rt fr lo As [] [] r) (hq : KS y bytes maxL rt k) {host : String} (hlk : va_Nw (.methodLinkNest own index y host) s) (hst : st0 = (As.reverse ++ rest)) (hk : As.length = k) (hls : ls.size = nL) (hR : fr + 1 ≤ R.frames ∧ 8 + (maxL + 11) + lo ≤ R.locals) (hcs : cells ≤ R.cells ∧ slots ≤ R.slots) (hrm : (rest.map fun v => v.category).sum ≤ 8) (hdg : decode cc pc = .ok (.invokestatic index, 3))
    (kk : ∀ (H1 : Heap) (locs1 : List Loc), Wd D A s.heap H1 locs1 w → W p l e R s m args below meth c H1 locs1 cells slots Q (F0 m (pc + 3) ls (.int r :: rest))) : W p l e R s m args below meth c H locs cells slots Q (F0 m pc ls st0) := by
  subst hst
  have hA := C.2.2.2.2.2.2.2
  have hG := C.2.2.2.2.2.2.1
  have hF : ∀ q, va_A [] H.size q → A q := fun q h => by
    rcases h with ⟨k, e, h⟩ | h
    · simp at h
    · exact hA q (Nat.le_trans hW.2.2.1 h)
  obtain ⟨hP, hD, hS⟩ := hW
  obtain ⟨hx, hb, hml, hown, hts, hK, -, -⟩ := C
  refine va_calli (va_runSN (As := As) (rest := rest) ⟨hx, hb, hml, hown, hts⟩ (hM H.size) ⟨va_cnB k hts (gi_0 hq.2.2.1) rfl rfl rfl hlk (hts _ hq.2.1) ⟨hq.2.2.2.1, hq.2.2.2.2.1, hq.2.2.2.2.2⟩ hR, hts _ hq.1, trivial⟩ ⟨pw_blind, fun U hU hw => ⟨rfl, by rw [hU], by rw [hU]; exact (fun k q h => by simp at h), va_K.moved hw.alike hK, ⟨fun i j p q h => by simp at h, fun k q h => by simp at h⟩, hG.1, g_at hG hS hF hU hw⟩⟩ rfl hk hls rfl (lv_room hrm) hdg ⟨hcs.1, hcs.2⟩) hS (fun q _ h => hF q h) hF (fun r1 u t H1 locs1 ht hvm hw hB hz1 hk1 hS1 => ?_)
  subst hw
  exact kk H1 locs1 ⟨fun j q hj => (hP j q hj).kept (hk1 q.1 (hP j q hj).lt (fun h => by
    rcases h with ⟨k2, e2, h2⟩ | h2
    · simp at h2
    · exact absurd (hP j q hj).lt (Nat.not_lt.mpr h2))), hD, hS1⟩
end OUT
theorem vp_lt {i : Int32} {n : Nat} (h : vp_in i n) : i.toNatClampNeg < n := Nat.not_le.mp fun q => h (Or.inr q)
