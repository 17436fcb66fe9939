/-- what the constructors need besides -/
def GE (U : State) : Prop := va_Nw (.methodLinkNest "PumpTalk" 28 yX2_init "PumpTalk") U ∧ va_Nw (.methodLinkNest "PumpTalk" 35 yX1_init "PumpTalk") U ∧ va_Nw (.methodLinkNest "PumpTalk" 50 yX3_init "PumpTalk") U ∧ va_AO "PumpTalk$Sheet" U
def GG (z : ZT) : GT := fun A U H => GF z A U H ∧ GE U
theorem gg_h (z : ZT) : GH (GG z) z := fun _ _ _ h => h.1
theorem gg_c (z : ZT) : GC (GG z) := fun _ _ _ h => h.2
theorem gg_ok (z : ZT) : GOk (GG z) := by
  refine ⟨?_, ?_, ?_⟩
  · intro A u U H hw h
    obtain ⟨⟨h1, h2, h3, h4, h5, h6⟩, e1, e2, e3, e4⟩ := h
    exact ⟨⟨va_Nw.warmM hw h1, ⟨va_Z.moved hw.alike h2.1, va_T.moved hw.alike h2.2⟩, vk_S.moved hw.alike h3, ⟨vk_R.warm hw h4.1, vk_R.warm hw h4.2.1, vk_R.warm hw h4.2.2.1, vk_R.warm hw h4.2.2.2.1, vk_R.warm hw h4.2.2.2.2.1, vk_R.warm hw h4.2.2.2.2.2.1, vk_R.warm hw h4.2.2.2.2.2.2.1, vk_R.warm hw h4.2.2.2.2.2.2.2.1, vk_R.warm hw h4.2.2.2.2.2.2.2.2.1, vk_R.warm hw h4.2.2.2.2.2.2.2.2.2.1, vk_R.warm hw h4.2.2.2.2.2.2.2.2.2.2⟩, va_Z.moved hw.alike h5, va_Zq.moved hw.alike h6⟩, va_Nw.warmM hw e1, va_Nw.warmM hw e2, va_Nw.warmM hw e3, va_AO.moved hw.alike e4⟩
  · intro A U H H1 hq h
    obtain ⟨⟨h1, h2, h3, h4, h5, h6⟩, he⟩ := h
    exact ⟨⟨h1, ⟨h2.1.kept hq, h2.2.kept hq⟩, h3.kept hq, h4, h5.kept hq, h6.kept hq⟩, he⟩
  · intro A B U H hAB h
    obtain ⟨⟨h1, h2, h3, h4, h5, h6⟩, he⟩ := h
    exact ⟨⟨h1, ⟨h2.1.narrow hAB, h2.2.narrow hAB⟩, h3.narrow hAB, h4, h5.narrow hAB, h6.narrow hAB⟩, he⟩
def strT : List Term := [.string "PumpTalk$Kinds" 15, .string "PumpTalk$Kinds" 17, .string "PumpTalk$Kinds" 19, .string "PumpTalk$Kinds" 21, .string "PumpTalk$Kinds" 23, .string "PumpTalk$Kinds" 25, .string "PumpTalk$Kinds" 27, .string "PumpTalk$Reader" 76, .string "PumpTalk$Reader" 85, .string "PumpTalk$Reader" 56, .string "PumpTalk$Reader" 61]
set_option maxRecDepth 100000 in
set_option maxHeartbeats 4000000 in
theorem outs {s : State} {b : Nat} (hgv : (Jvm.Cond.and given_1 narrow_1).before #[Value.ref b] s = true) (hts : ∀ w ∈ lw_tbl, w.before #[Value.ref b] s = true) : ∃ z : ZT, GG z (fun q : Nat => s.heap.size ≤ q) s s.heap := by
  have hs := flat_of_before _ hgv
  have hA : ∀ a : Nat, a < s.heap.size → ¬ (fun q : Nat => s.heap.size ≤ q) a := fun a h => Nat.not_le.mpr h
  have har : (Cond.arrayOf (.static "PumpTalk$Kinds" "ABOVE" "[I") .int).before #[Value.ref b] s = true := hs _ (by decide +kernel)
  have hel : ∀ j : Nat, j < 7 → (Term.elem (.static "PumpTalk$Kinds" "ABOVE" "[I") (.int (Int32.ofNat j))).eval #[Value.ref b] s none [] s = some (.int (abv j)) := by
    intro j hj
    rcases (show j = 0 ∨ j = 1 ∨ j = 2 ∨ j = 3 ∨ j = 4 ∨ j = 5 ∨ j = 6 by omega) with rfl | rfl | rfl | rfl | rfl | rfl | rfl <;> exact va_eqt (hs _ (by decide +kernel))
  obtain ⟨tA, hv, hT⟩ := va_Tof (N := 7) (f := fun j => .int (abv j)) (A := fun q : Nat => s.heap.size ≤ q) (by decide) har (va_eqt (hs (Cond.eq (.length (.static "PumpTalk$Kinds" "ABOVE" "[I")) (.int 7)) (by decide +kernel))) hel hA
  have hZ := va_Zref (A := fun q : Nat => s.heap.size ≤ q) (hts _ (List.mem_of_getElem? (i := 720) (by decide +kernel))) (hts _ (List.mem_of_getElem? (i := 73) (by decide +kernel))) hv hA
  obtain ⟨adK, adV, hS, hev⟩ := vk_Sof (N := 11) (tm := fun i => strT.getD i (.int 0)) (len := strL) (byt := strB) (A := fun q : Nat => s.heap.size ≤ q)
    (fun i hi => Nat.lt_trans (strL_lt i hi) (by decide))
    (fun i hi => by rcases (show i = 0 ∨ i = 1 ∨ i = 2 ∨ i = 3 ∨ i = 4 ∨ i = 5 ∨ i = 6 ∨ i = 7 ∨ i = 8 ∨ i = 9 ∨ i = 10 by omega) with rfl | rfl | rfl | rfl | rfl | rfl | rfl | rfl | rfl | rfl | rfl <;> exact hs _ (by decide +kernel))
    (fun i hi => by rcases (show i = 0 ∨ i = 1 ∨ i = 2 ∨ i = 3 ∨ i = 4 ∨ i = 5 ∨ i = 6 ∨ i = 7 ∨ i = 8 ∨ i = 9 ∨ i = 10 by omega) with rfl | rfl | rfl | rfl | rfl | rfl | rfl | rfl | rfl | rfl | rfl <;> exact hs _ (by decide +kernel))
    (fun i hi => by rcases (show i = 0 ∨ i = 1 ∨ i = 2 ∨ i = 3 ∨ i = 4 ∨ i = 5 ∨ i = 6 ∨ i = 7 ∨ i = 8 ∨ i = 9 ∨ i = 10 by omega) with rfl | rfl | rfl | rfl | rfl | rfl | rfl | rfl | rfl | rfl | rfl <;> exact hs _ (by decide +kernel))
    (fun i hi => by rcases (show i = 0 ∨ i = 1 ∨ i = 2 ∨ i = 3 ∨ i = 4 ∨ i = 5 ∨ i = 6 ∨ i = 7 ∨ i = 8 ∨ i = 9 ∨ i = 10 by omega) with rfl | rfl | rfl | rfl | rfl | rfl | rfl | rfl | rfl | rfl | rfl <;> exact hs _ (by decide +kernel))
    (fun i hi j hj => by
      rcases (show i = 0 ∨ i = 1 ∨ i = 2 ∨ i = 3 ∨ i = 4 ∨ i = 5 ∨ i = 6 ∨ i = 7 ∨ i = 8 ∨ i = 9 ∨ i = 10 by omega) with rfl | rfl | rfl | rfl | rfl | rfl | rfl | rfl | rfl | rfl | rfl
      · have hj : j < 4 := hj
        rcases (show j = 0 ∨ j = 1 ∨ j = 2 ∨ j = 3 by omega) with rfl | rfl | rfl | rfl <;> exact hs _ (by decide +kernel)
      · have hj : j < 6 := hj
        rcases (show j = 0 ∨ j = 1 ∨ j = 2 ∨ j = 3 ∨ j = 4 ∨ j = 5 by omega) with rfl | rfl | rfl | rfl | rfl | rfl <;> exact hs _ (by decide +kernel)
      · have hj : j < 6 := hj
        rcases (show j = 0 ∨ j = 1 ∨ j = 2 ∨ j = 3 ∨ j = 4 ∨ j = 5 by omega) with rfl | rfl | rfl | rfl | rfl | rfl <;> exact hs _ (by decide +kernel)
      · have hj : j < 7 := hj
        rcases (show j = 0 ∨ j = 1 ∨ j = 2 ∨ j = 3 ∨ j = 4 ∨ j = 5 ∨ j = 6 by omega) with rfl | rfl | rfl | rfl | rfl | rfl | rfl <;> exact hs _ (by decide +kernel)
      · have hj : j < 3 := hj
        rcases (show j = 0 ∨ j = 1 ∨ j = 2 by omega) with rfl | rfl | rfl <;> exact hs _ (by decide +kernel)
      · have hj : j < 6 := hj
        rcases (show j = 0 ∨ j = 1 ∨ j = 2 ∨ j = 3 ∨ j = 4 ∨ j = 5 by omega) with rfl | rfl | rfl | rfl | rfl | rfl <;> exact hs _ (by decide +kernel)
      · have hj : j < 6 := hj
        rcases (show j = 0 ∨ j = 1 ∨ j = 2 ∨ j = 3 ∨ j = 4 ∨ j = 5 by omega) with rfl | rfl | rfl | rfl | rfl | rfl <;> exact hs _ (by decide +kernel)
      · have hj : j < 5 := hj
        rcases (show j = 0 ∨ j = 1 ∨ j = 2 ∨ j = 3 ∨ j = 4 by omega) with rfl | rfl | rfl | rfl | rfl <;> exact hs _ (by decide +kernel)
      · have hj : j < 6 := hj
        rcases (show j = 0 ∨ j = 1 ∨ j = 2 ∨ j = 3 ∨ j = 4 ∨ j = 5 by omega) with rfl | rfl | rfl | rfl | rfl | rfl <;> exact hs _ (by decide +kernel)
      · have hj : j < 4 := hj
        rcases (show j = 0 ∨ j = 1 ∨ j = 2 ∨ j = 3 by omega) with rfl | rfl | rfl | rfl <;> exact hs _ (by decide +kernel)
      · have hj : j < 2 := hj
        rcases (show j = 0 ∨ j = 1 by omega) with rfl | rfl <;> exact hs _ (by decide +kernel))
    (fun i j hi hj hij => by
      rcases (show i = 0 ∨ i = 1 ∨ i = 2 ∨ i = 3 ∨ i = 4 ∨ i = 5 ∨ i = 6 ∨ i = 7 ∨ i = 8 ∨ i = 9 ∨ i = 10 by omega) with rfl | rfl | rfl | rfl | rfl | rfl | rfl | rfl | rfl | rfl | rfl
      · rcases (show j = 0 ∨ j = 1 ∨ j = 2 ∨ j = 3 ∨ j = 4 ∨ j = 5 ∨ j = 6 ∨ j = 7 ∨ j = 8 ∨ j = 9 ∨ j = 10 by omega) with rfl | rfl | rfl | rfl | rfl | rfl | rfl | rfl | rfl | rfl | rfl
        · exact absurd rfl hij
        · exact Or.inl (hs _ (by decide +kernel))
        · exact Or.inl (hs _ (by decide +kernel))
        · exact Or.inl (hs _ (by decide +kernel))
        · exact Or.inl (hs _ (by decide +kernel))
        · exact Or.inl (hs _ (by decide +kernel))
        · exact Or.inl (hs _ (by decide +kernel))
        · exact Or.inl (hs _ (by decide +kernel))
        · exact Or.inl (hs _ (by decide +kernel))
        · exact Or.inl (hs _ (by decide +kernel))
        · exact Or.inl (hs _ (by decide +kernel))
      · rcases (show j = 0 ∨ j = 1 ∨ j = 2 ∨ j = 3 ∨ j = 4 ∨ j = 5 ∨ j = 6 ∨ j = 7 ∨ j = 8 ∨ j = 9 ∨ j = 10 by omega) with rfl | rfl | rfl | rfl | rfl | rfl | rfl | rfl | rfl | rfl | rfl
        · exact Or.inr (hs _ (by decide +kernel))
        · exact absurd rfl hij
        · exact Or.inl (hs _ (by decide +kernel))
        · exact Or.inl (hs _ (by decide +kernel))
        · exact Or.inl (hs _ (by decide +kernel))
        · exact Or.inl (hs _ (by decide +kernel))
        · exact Or.inl (hs _ (by decide +kernel))
        · exact Or.inl (hs _ (by decide +kernel))
        · exact Or.inl (hs _ (by decide +kernel))
        · exact Or.inl (hs _ (by decide +kernel))
        · exact Or.inl (hs _ (by decide +kernel))
      · rcases (show j = 0 ∨ j = 1 ∨ j = 2 ∨ j = 3 ∨ j = 4 ∨ j = 5 ∨ j = 6 ∨ j = 7 ∨ j = 8 ∨ j = 9 ∨ j = 10 by omega) with rfl | rfl | rfl | rfl | rfl | rfl | rfl | rfl | rfl | rfl | rfl
        · exact Or.inr (hs _ (by decide +kernel))
        · exact Or.inr (hs _ (by decide +kernel))
        · exact absurd rfl hij
        · exact Or.inl (hs _ (by decide +kernel))
        · exact Or.inl (hs _ (by decide +kernel))
        · exact Or.inl (hs _ (by decide +kernel))
        · exact Or.inl (hs _ (by decide +kernel))
        · exact Or.inl (hs _ (by decide +kernel))
        · exact Or.inl (hs _ (by decide +kernel))
        · exact Or.inl (hs _ (by decide +kernel))
        · exact Or.inl (hs _ (by decide +kernel))
      · rcases (show j = 0 ∨ j = 1 ∨ j = 2 ∨ j = 3 ∨ j = 4 ∨ j = 5 ∨ j = 6 ∨ j = 7 ∨ j = 8 ∨ j = 9 ∨ j = 10 by omega) with rfl | rfl | rfl | rfl | rfl | rfl | rfl | rfl | rfl | rfl | rfl
        · exact Or.inr (hs _ (by decide +kernel))
        · exact Or.inr (hs _ (by decide +kernel))
        · exact Or.inr (hs _ (by decide +kernel))
        · exact absurd rfl hij
        · exact Or.inl (hs _ (by decide +kernel))
        · exact Or.inl (hs _ (by decide +kernel))
        · exact Or.inl (hs _ (by decide +kernel))
        · exact Or.inl (hs _ (by decide +kernel))
        · exact Or.inl (hs _ (by decide +kernel))
        · exact Or.inl (hs _ (by decide +kernel))
        · exact Or.inl (hs _ (by decide +kernel))
      · rcases (show j = 0 ∨ j = 1 ∨ j = 2 ∨ j = 3 ∨ j = 4 ∨ j = 5 ∨ j = 6 ∨ j = 7 ∨ j = 8 ∨ j = 9 ∨ j = 10 by omega) with rfl | rfl | rfl | rfl | rfl | rfl | rfl | rfl | rfl | rfl | rfl
        · exact Or.inr (hs _ (by decide +kernel))
        · exact Or.inr (hs _ (by decide +kernel))
        · exact Or.inr (hs _ (by decide +kernel))
        · exact Or.inr (hs _ (by decide +kernel))
        · exact absurd rfl hij
        · exact Or.inl (hs _ (by decide +kernel))
        · exact Or.inl (hs _ (by decide +kernel))
        · exact Or.inl (hs _ (by decide +kernel))
        · exact Or.inl (hs _ (by decide +kernel))
        · exact Or.inl (hs _ (by decide +kernel))
        · exact Or.inl (hs _ (by decide +kernel))
      · rcases (show j = 0 ∨ j = 1 ∨ j = 2 ∨ j = 3 ∨ j = 4 ∨ j = 5 ∨ j = 6 ∨ j = 7 ∨ j = 8 ∨ j = 9 ∨ j = 10 by omega) with rfl | rfl | rfl | rfl | rfl | rfl | rfl | rfl | rfl | rfl | rfl
        · exact Or.inr (hs _ (by decide +kernel))
        · exact Or.inr (hs _ (by decide +kernel))
        · exact Or.inr (hs _ (by decide +kernel))
        · exact Or.inr (hs _ (by decide +kernel))
        · exact Or.inr (hs _ (by decide +kernel))
        · exact absurd rfl hij
        · exact Or.inl (hs _ (by decide +kernel))
        · exact Or.inl (hs _ (by decide +kernel))
        · exact Or.inl (hs _ (by decide +kernel))
        · exact Or.inl (hs _ (by decide +kernel))
        · exact Or.inl (hs _ (by decide +kernel))
      · rcases (show j = 0 ∨ j = 1 ∨ j = 2 ∨ j = 3 ∨ j = 4 ∨ j = 5 ∨ j = 6 ∨ j = 7 ∨ j = 8 ∨ j = 9 ∨ j = 10 by omega) with rfl | rfl | rfl | rfl | rfl | rfl | rfl | rfl | rfl | rfl | rfl
        · exact Or.inr (hs _ (by decide +kernel))
        · exact Or.inr (hs _ (by decide +kernel))
        · exact Or.inr (hs _ (by decide +kernel))
        · exact Or.inr (hs _ (by decide +kernel))
        · exact Or.inr (hs _ (by decide +kernel))
        · exact Or.inr (hs _ (by decide +kernel))
        · exact absurd rfl hij
        · exact Or.inl (hs _ (by decide +kernel))
        · exact Or.inl (hs _ (by decide +kernel))
        · exact Or.inl (hs _ (by decide +kernel))
        · exact Or.inl (hs _ (by decide +kernel))
      · rcases (show j = 0 ∨ j = 1 ∨ j = 2 ∨ j = 3 ∨ j = 4 ∨ j = 5 ∨ j = 6 ∨ j = 7 ∨ j = 8 ∨ j = 9 ∨ j = 10 by omega) with rfl | rfl | rfl | rfl | rfl | rfl | rfl | rfl | rfl | rfl | rfl
        · exact Or.inr (hs _ (by decide +kernel))
        · exact Or.inr (hs _ (by decide +kernel))
        · exact Or.inr (hs _ (by decide +kernel))
        · exact Or.inr (hs _ (by decide +kernel))
        · exact Or.inr (hs _ (by decide +kernel))
        · exact Or.inr (hs _ (by decide +kernel))
        · exact Or.inr (hs _ (by decide +kernel))
        · exact absurd rfl hij
        · exact Or.inl (hs _ (by decide +kernel))
        · exact Or.inl (hs _ (by decide +kernel))
        · exact Or.inl (hs _ (by decide +kernel))
      · rcases (show j = 0 ∨ j = 1 ∨ j = 2 ∨ j = 3 ∨ j = 4 ∨ j = 5 ∨ j = 6 ∨ j = 7 ∨ j = 8 ∨ j = 9 ∨ j = 10 by omega) with rfl | rfl | rfl | rfl | rfl | rfl | rfl | rfl | rfl | rfl | rfl
        · exact Or.inr (hs _ (by decide +kernel))
        · exact Or.inr (hs _ (by decide +kernel))
        · exact Or.inr (hs _ (by decide +kernel))
        · exact Or.inr (hs _ (by decide +kernel))
        · exact Or.inr (hs _ (by decide +kernel))
        · exact Or.inr (hs _ (by decide +kernel))
        · exact Or.inr (hs _ (by decide +kernel))
        · exact Or.inr (hs _ (by decide +kernel))
        · exact absurd rfl hij
        · exact Or.inl (hs _ (by decide +kernel))
        · exact Or.inl (hs _ (by decide +kernel))
      · rcases (show j = 0 ∨ j = 1 ∨ j = 2 ∨ j = 3 ∨ j = 4 ∨ j = 5 ∨ j = 6 ∨ j = 7 ∨ j = 8 ∨ j = 9 ∨ j = 10 by omega) with rfl | rfl | rfl | rfl | rfl | rfl | rfl | rfl | rfl | rfl | rfl
        · exact Or.inr (hs _ (by decide +kernel))
        · exact Or.inr (hs _ (by decide +kernel))
        · exact Or.inr (hs _ (by decide +kernel))
        · exact Or.inr (hs _ (by decide +kernel))
        · exact Or.inr (hs _ (by decide +kernel))
        · exact Or.inr (hs _ (by decide +kernel))
        · exact Or.inr (hs _ (by decide +kernel))
        · exact Or.inr (hs _ (by decide +kernel))
        · exact Or.inr (hs _ (by decide +kernel))
        · exact absurd rfl hij
        · exact Or.inl (hs _ (by decide +kernel))
      · rcases (show j = 0 ∨ j = 1 ∨ j = 2 ∨ j = 3 ∨ j = 4 ∨ j = 5 ∨ j = 6 ∨ j = 7 ∨ j = 8 ∨ j = 9 ∨ j = 10 by omega) with rfl | rfl | rfl | rfl | rfl | rfl | rfl | rfl | rfl | rfl | rfl
        · exact Or.inr (hs _ (by decide +kernel))
        · exact Or.inr (hs _ (by decide +kernel))
        · exact Or.inr (hs _ (by decide +kernel))
        · exact Or.inr (hs _ (by decide +kernel))
        · exact Or.inr (hs _ (by decide +kernel))
        · exact Or.inr (hs _ (by decide +kernel))
        · exact Or.inr (hs _ (by decide +kernel))
        · exact Or.inr (hs _ (by decide +kernel))
        · exact Or.inr (hs _ (by decide +kernel))
        · exact Or.inr (hs _ (by decide +kernel))
        · exact absurd rfl hij) hA
  have r0 : vk_R "PumpTalk$Kinds" 15 "deaf" (adK 0) s := vk_R.of (hts _ (List.mem_of_getElem? (i := 615) (by decide +kernel))) (hev 0 (by decide))
  have r1 : vk_R "PumpTalk$Kinds" 17 "lawyer" (adK 1) s := vk_R.of (hts _ (List.mem_of_getElem? (i := 616) (by decide +kernel))) (hev 1 (by decide))
  have r2 : vk_R "PumpTalk$Kinds" 19 "master" (adK 2) s := vk_R.of (hts _ (List.mem_of_getElem? (i := 617) (by decide +kernel))) (hev 2 (by decide))
  have r3 : vk_R "PumpTalk$Kinds" 21 "trinity" (adK 3) s := vk_R.of (hts _ (List.mem_of_getElem? (i := 618) (by decide +kernel))) (hev 3 (by decide))
  have r4 : vk_R "PumpTalk$Kinds" 23 "wed" (adK 4) s := vk_R.of (hts _ (List.mem_of_getElem? (i := 619) (by decide +kernel))) (hev 4 (by decide))
  have r5 : vk_R "PumpTalk$Kinds" 25 "friend" (adK 5) s := vk_R.of (hts _ (List.mem_of_getElem? (i := 620) (by decide +kernel))) (hev 5 (by decide))
  have r6 : vk_R "PumpTalk$Kinds" 27 "person" (adK 6) s := vk_R.of (hts _ (List.mem_of_getElem? (i := 621) (by decide +kernel))) (hev 6 (by decide))
  have r7 : vk_R "PumpTalk$Reader" 76 "voice" (adK 7) s := vk_R.of (hts _ (List.mem_of_getElem? (i := 680) (by decide +kernel))) (hev 7 (by decide))
  have r8 : vk_R "PumpTalk$Reader" 85 "thinks" (adK 8) s := vk_R.of (hts _ (List.mem_of_getElem? (i := 686) (by decide +kernel))) (hev 8 (by decide))
  have r9 : vk_R "PumpTalk$Reader" 56 "pair" (adK 9) s := vk_R.of (hts _ (List.mem_of_getElem? (i := 696) (by decide +kernel))) (hev 9 (by decide))
  have r10 : vk_R "PumpTalk$Reader" 61 "on" (adK 10) s := vk_R.of (hts _ (List.mem_of_getElem? (i := 702) (by decide +kernel))) (hev 10 (by decide))
  exact ⟨(tA, adK, adV), ⟨va_Nw.of rfl (hts _ (List.mem_of_getElem? (i := 468) (by decide +kernel))), ⟨hZ, hT⟩, hS, ⟨r0, r1, r2, r3, r4, r5, r6, r7, r8, r9, r10⟩, va_Zof (hts _ (List.mem_of_getElem? (i := 635) (by decide +kernel))) (hts _ (List.mem_of_getElem? (i := 77) (by decide +kernel))) (va_eqi (hs _ (by decide +kernel))) hA, va_Zqof (hts _ (List.mem_of_getElem? (i := 651) (by decide +kernel))) (hts _ (List.mem_of_getElem? (i := 79) (by decide +kernel))) (hs _ (by decide +kernel)) hA⟩, va_Nw.of rfl (hts _ (List.mem_of_getElem? (i := 142) (by decide +kernel))), va_Nw.of rfl (hts _ (List.mem_of_getElem? (i := 168) (by decide +kernel))), va_Nw.of rfl (hts _ (List.mem_of_getElem? (i := 182) (by decide +kernel))), va_AO.of (hts _ (List.mem_of_getElem? (i := 180) (by decide +kernel)))⟩
theorem known {s : State} {b : Nat} (hts : ∀ w ∈ lw_tbl, w.before #[Value.ref b] s = true) : ∃ (D : va_G) (cy cz : ClassId), va_K D vwCl (tyz cy cz) s := by
  have htb : ∀ w ∈ TB, w.before #[Value.ref b] s = true := fun w h => hts w (tb_sub h)
  obtain ⟨c0, i0, hn0⟩ := u_known (C := RX1) (T := TX1) (N := 2) (n := 2) htb inX1 (htb _ q167)
  obtain ⟨c1, i1, hn1⟩ := u_known (C := RX2) (T := TX2) (N := 6) (n := 6) htb inX2 (htb _ q141)
  obtain ⟨c2, i2, hn2⟩ := u_known (C := RX3) (T := TX3) (N := 3) (n := 3) htb inX3 (htb _ q181)
  obtain ⟨c3, i3, hn3⟩ := u_known (C := RX4) (T := TX4) (N := 11) (n := 11) htb inX4 (htb _ q90)
  obtain ⟨c4, i4, hn4⟩ := u_known (C := RX5) (T := TX5) (N := 8) (n := 8) htb inX5 (htb _ q82)
  obtain ⟨c5, i5, hn5⟩ := u_known (C := RX6) (T := TX6) (N := 22) (n := 22) htb inX6 (htb _ q782)
  obtain ⟨cy, ky, compy, f1, f2, f3⟩ := Cond.arrayClass_spec (htb _ q139)
  obtain ⟨compz, cz, kz, g1, g2, g3, g4, g5⟩ := Cond.arrayOver_spec (n := "PumpTalk$Sheet") (hts _ (List.mem_of_getElem? (i := 180) (by decide +kernel)))
  refine ⟨(fun k => if k = 0 then c0 else if k = 1 then c1 else if k = 2 then c2 else if k = 3 then c3 else if k = 4 then c4 else c5, fun k => if k = 0 then i0 else if k = 1 then i1 else if k = 2 then i2 else if k = 3 then i3 else if k = 4 then i4 else i5), cy, cz, ?_, ?_⟩
  · intro k r hr
    match k, hr with
    | 0, hr => cases hr; exact hn0
    | 1, hr => cases hr; exact hn1
    | 2, hr => cases hr; exact hn2
    | 3, hr => cases hr; exact hn3
    | 4, hr => cases hr; exact hn4
    | 5, hr => cases hr; exact hn5
    | k + 6, hr => simp [vwCl] at hr
  · intro k r hr
    match k, hr with
    | 0, hr => cases hr; exact ⟨fun n z => ⟨(fun k h => by cases h), ky, f2, compy, f3⟩, f1⟩
    | 1, hr => cases hr; exact ⟨fun n z => ⟨(fun k h => by cases h), kz, g3, compz, g4⟩, kz, compz, g3, g4, g1, g5⟩
    | k + 2, hr => simp at hr
set_option maxHeartbeats 4000000 in
set_option maxRecDepth 100000 in
theorem start_of {Rel : Nat → XS → MS → Prop} (hst : StAll Rel) (hkeep : ∀ k X σ, Rel k X σ → Rel (k + 1) X σ) (h0 : Rel 0 x0 m0) {p : Program} {e : Env} {s : State} {m : MethodId} {below : List Frame} {meth : Method} {c : Code} (l : Launch) (hflags : l.flags = flags0) {b L : Nat} {xs : Nat → Int32} (hL : L ≤ 3072) (C0 : lw_At p s m meth c b L xs) : W p l e room_1 s m #[Value.ref b] below meth c s.heap [] 0 0 (lw_Z below #[Value.ref b] s) (entryFrame m ([Value.ref b] : List Value).toArray 4) := by
  obtain ⟨hx, hb, hr, hml, hown, hts, hX, hbl, hlocks, hgv⟩ := id C0
  obtain ⟨z, hG⟩ := outs hgv hts
  obtain ⟨D, cy, cz, hK⟩ := known hts
  have htb : ∀ w ∈ TB, w.before #[Value.ref b] s = true := fun w h => hts w (tb_sub h)
  have hA : ∀ q : Nat, s.heap.size ≤ q → (fun q : Nat => s.heap.size ≤ q) q := fun _ h => h
  have C : Cx p s m #[Value.ref b] c cL_law 4 "PumpTalkLaw" D cy cz (GG z) (fun q : Nat => s.heap.size ≤ q) := ⟨hx, hb, hml, hown, htb, hK, ⟨gg_ok z, hG⟩, hA⟩
  have hW : Wd D (fun q : Nat => s.heap.size ≤ q) s.heap s.heap [] [] := ⟨fun k q h => by simp at h, ⟨fun i j p q h => by simp at h, fun k q h => by simp at h⟩, va_S.rf⟩
  have hl := lv_entry ([.ref b]) (n := 4) (Nat.le_of_ble_eq_true rfl)
  rw [lg_entry_eq]
  generalize (lg_sl ([.ref b]) ++ List.replicate (4 - (lg_sl ([.ref b])).length) Slot.unset).toArray = ls at hl ⊢
  have hl : lv_has ls 4 [(0, .ref b)] := hl
  refine va_new (ci := 4) (fs := [.null, .null, .null, .int 0, .null, .null, .null, .null]) (C := RX5) (T := TX5) (N := 8) hx hb htb inX5 tyX5 tyX5_ok hown (htb _ q81) (htb _ q82) (htb _ q67) hK hW.1 hW.2.1 hW.2.2 hA rfl (fun j hj => by rcases (show j = 0 ∨ j = 1 ∨ j = 2 ∨ j = 3 ∨ j = 4 ∨ j = 5 ∨ j = 6 ∨ j = 7 by omega) with rfl | rfl | rfl | rfl | rfl | rfl | rfl | rfl <;> rfl) (Nat.le_of_ble_eq_true rfl) (Nat.le_of_ble_eq_true rfl) dL_law_0 (fun qx H hP hD hS => ?_)
  have hW := (⟨hP, hD, hS⟩ : Wd D (fun q : Nat => s.heap.size ≤ q) s.heap H _ _)
  have hW : Wd D (fun q : Nat => s.heap.size ≤ q) s.heap H _ [(qx, .inr (4, [.null, .null, .null, .int 0, .null, .null, .null, .null]))] := hW
  refine lv_dup hx hb dL_law_3 rfl ?_
  refine cI_n (rest := [.ref qx]) (wr := []) C hW (c_X5_init (gg_c z)) kX5_init q83 [0] [] rfl rfl (by decide) (by decide) (by decide) hl.1 ⟨Nat.le_of_ble_eq_true rfl, Nat.le_of_ble_eq_true rfl⟩ ⟨Nat.le_of_ble_eq_true rfl, Nat.le_of_ble_eq_true rfl⟩ (Nat.le_of_ble_eq_true rfl) dL_law_4 (fun o H locs ho hW2 => ?_)
  subst ho
  have hW : Wd D (fun q : Nat => s.heap.size ≤ q) s.heap H locs (cPT o cy cz x0) := hW2
  refine lv_astore_n (lv' := [(1, .ref (o 9 0)), (0, .ref b)]) hx hb dL_law_7 rfl hl (by decide) rfl (fun ls hl => ?_)
  refine va_new (ci := 5) (fs := [.null, .null, .null, .null, .null, .int 0, .int 0, .null, .null, .null, .int 0, .int 0, .null, .int 0, .int 0, .int 0, .int 0, .int 0, .null, .null, .null, .null]) (C := RX6) (T := TX6) (N := 22) hx hb htb inX6 tyX6 tyX6_ok hown (htb _ q781) (htb _ q782) (htb _ q72) hK hW.1 hW.2.1 hW.2.2 hA rfl (fun j hj => by rcases (show j = 0 ∨ j = 1 ∨ j = 2 ∨ j = 3 ∨ j = 4 ∨ j = 5 ∨ j = 6 ∨ j = 7 ∨ j = 8 ∨ j = 9 ∨ j = 10 ∨ j = 11 ∨ j = 12 ∨ j = 13 ∨ j = 14 ∨ j = 15 ∨ j = 16 ∨ j = 17 ∨ j = 18 ∨ j = 19 ∨ j = 20 ∨ j = 21 by omega) with rfl | rfl | rfl | rfl | rfl | rfl | rfl | rfl | rfl | rfl | rfl | rfl | rfl | rfl | rfl | rfl | rfl | rfl | rfl | rfl | rfl | rfl <;> rfl) (Nat.le_of_ble_eq_true rfl) (Nat.le_of_ble_eq_true rfl) dL_law_8 (fun qm H hP hD hS => ?_)
  have hW := (⟨hP, hD, hS⟩ : Wd D (fun q : Nat => s.heap.size ≤ q) s.heap H _ _)
  have hW : Wd D (fun q : Nat => s.heap.size ≤ q) s.heap H _ (cPT o cy cz x0 ++ [(qm, .inr (5, [.null, .null, .null, .null, .null, .int 0, .int 0, .null, .null, .null, .int 0, .int 0, .null, .int 0, .int 0, .int 0, .int 0, .int 0, .null, .null, .null, .null]))]) := hW
  refine lv_dup hx hb dL_law_11 rfl ?_
  refine cI_n (rest := [.ref qm]) (wr := cPT o cy cz x0) C hW c_X6_init kX6_init q783 [31] [0, 1, 2, 3, 4, 5, 6, 7, 8, 9, 10, 11, 12, 13, 14, 15, 16, 17, 18, 19, 20, 21, 22, 23, 24, 25, 26, 27, 28, 29, 30] rfl rfl (by decide) (by decide) (by decide) hl.1 ⟨Nat.le_of_ble_eq_true rfl, Nat.le_of_ble_eq_true rfl⟩ ⟨Nat.le_of_ble_eq_true rfl, Nat.le_of_ble_eq_true rfl⟩ (Nat.le_of_ble_eq_true rfl) dL_law_12 (fun a H locs ha hW3 => ?_)
  subst ha
  have hW : Wd D (fun q : Nat => s.heap.size ≤ q) s.heap H locs (cLW o a cy cz x0 m0) := hW3
  refine lv_astore_n (lv' := [(2, .ref (a 0)), (1, .ref (o 9 0)), (0, .ref b)]) hx hb dL_law_15 rfl hl (by decide) rfl (fun ls hl => ?_)
  refine lv_iconst (v := 0) hx hb dL_law_16 (by decide) ?_
  refine lv_istore_n (lv' := [(3, .int 0), (2, .ref (a 0)), (1, .ref (o 9 0)), (0, .ref b)]) hx hb dL_law_17 rfl hl (by decide) rfl (fun ls hl => ?_)
  exact law_loop (gg_h z) C hr hlocks hX hbl hL hst hkeep ⟨Nat.le_of_ble_eq_true rfl, Nat.le_of_ble_eq_true rfl⟩ (L + 1) 0 0 (Nat.zero_le L) (by omega) rfl x0 m0 h0 _ _ _ hW (lv_sub hl [3, 2, 1, 0] rfl)
