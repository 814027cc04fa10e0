/-! ===== the start: what stands fast ===== -/
def fl1 : List Cond := flatC (Jvm.Cond.and given_1 narrow_1)
def ixS (i : Nat) : Nat := (strT.map (·.1)).getD i 0
def tmS (i : Nat) : Term := .string "SheetObjectsModel" (ixS i)
set_option maxRecDepth 100000
theorem sS1 : ∀ i, i < 12 → Cond.exactly (tmS i) "java/lang/String" ∈ fl1 := by decide +kernel
theorem sS2 : ∀ i, i < 12 → Cond.eq (.field (tmS i) "java/lang/String" "coder" "B") (.int 0) ∈ fl1 := by decide +kernel
theorem sS3 : ∀ i, i < 12 → Cond.arrayOf (.field (tmS i) "java/lang/String" "value" "[B") .byte ∈ fl1 := by decide +kernel
theorem sS4 : ∀ i, i < 12 → Cond.eq (.length (.field (tmS i) "java/lang/String" "value" "[B")) (.int (Int32.ofNat (lenS.getD i 0))) ∈ fl1 := by decide +kernel
theorem sS5 : ∀ i, i < 12 → ∀ j, j < lenS.getD i 0 → Cond.eq (.elem (.field (tmS i) "java/lang/String" "value" "[B") (.int (Int32.ofNat j))) (.int ((bytS.getD i []).getD j 0)) ∈ fl1 := by decide +kernel
theorem sT0_1 : Cond.not (Cond.eq (tmS 0) (tmS 1)) ∈ fl1 := by decide +kernel
theorem sT0_2 : Cond.not (Cond.eq (tmS 0) (tmS 2)) ∈ fl1 := by decide +kernel
theorem sT0_3 : Cond.not (Cond.eq (tmS 0) (tmS 3)) ∈ fl1 := by decide +kernel
theorem sT0_4 : Cond.not (Cond.eq (tmS 0) (tmS 4)) ∈ fl1 := by decide +kernel
theorem sT0_5 : Cond.not (Cond.eq (tmS 0) (tmS 5)) ∈ fl1 := by decide +kernel
theorem sT0_6 : Cond.not (Cond.eq (tmS 0) (tmS 6)) ∈ fl1 := by decide +kernel
theorem sT0_7 : Cond.not (Cond.eq (tmS 0) (tmS 7)) ∈ fl1 := by decide +kernel
theorem sT0_8 : Cond.not (Cond.eq (tmS 0) (tmS 8)) ∈ fl1 := by decide +kernel
theorem sT0_9 : Cond.not (Cond.eq (tmS 0) (tmS 9)) ∈ fl1 := by decide +kernel
theorem sT0_10 : Cond.not (Cond.eq (tmS 0) (tmS 10)) ∈ fl1 := by decide +kernel
theorem sT0_11 : Cond.not (Cond.eq (tmS 0) (tmS 11)) ∈ fl1 := by decide +kernel
theorem sS6_0 : ∀ j, j < 12 → 0 < j → Cond.not (Cond.eq (tmS 0) (tmS j)) ∈ fl1 ∨ Cond.not (Cond.eq (tmS j) (tmS 0)) ∈ fl1 := by
  intro j h1 h2
  rcases (show j = 1 ∨ j = 2 ∨ j = 3 ∨ j = 4 ∨ j = 5 ∨ j = 6 ∨ j = 7 ∨ j = 8 ∨ j = 9 ∨ j = 10 ∨ j = 11 by omega) with rfl | rfl | rfl | rfl | rfl | rfl | rfl | rfl | rfl | rfl | rfl
  · exact Or.inl sT0_1
  · exact Or.inl sT0_2
  · exact Or.inl sT0_3
  · exact Or.inl sT0_4
  · exact Or.inl sT0_5
  · exact Or.inl sT0_6
  · exact Or.inl sT0_7
  · exact Or.inl sT0_8
  · exact Or.inl sT0_9
  · exact Or.inl sT0_10
  · exact Or.inl sT0_11
theorem sT1_2 : Cond.not (Cond.eq (tmS 1) (tmS 2)) ∈ fl1 := by decide +kernel
theorem sT1_3 : Cond.not (Cond.eq (tmS 1) (tmS 3)) ∈ fl1 := by decide +kernel
theorem sT1_4 : Cond.not (Cond.eq (tmS 1) (tmS 4)) ∈ fl1 := by decide +kernel
theorem sT1_5 : Cond.not (Cond.eq (tmS 1) (tmS 5)) ∈ fl1 := by decide +kernel
theorem sT1_6 : Cond.not (Cond.eq (tmS 1) (tmS 6)) ∈ fl1 := by decide +kernel
theorem sT1_7 : Cond.not (Cond.eq (tmS 1) (tmS 7)) ∈ fl1 := by decide +kernel
theorem sT1_8 : Cond.not (Cond.eq (tmS 1) (tmS 8)) ∈ fl1 := by decide +kernel
theorem sT1_9 : Cond.not (Cond.eq (tmS 1) (tmS 9)) ∈ fl1 := by decide +kernel
theorem sT1_10 : Cond.not (Cond.eq (tmS 1) (tmS 10)) ∈ fl1 := by decide +kernel
theorem sT1_11 : Cond.not (Cond.eq (tmS 1) (tmS 11)) ∈ fl1 := by decide +kernel
theorem sS6_1 : ∀ j, j < 12 → 1 < j → Cond.not (Cond.eq (tmS 1) (tmS j)) ∈ fl1 ∨ Cond.not (Cond.eq (tmS j) (tmS 1)) ∈ fl1 := by
  intro j h1 h2
  rcases (show j = 2 ∨ j = 3 ∨ j = 4 ∨ j = 5 ∨ j = 6 ∨ j = 7 ∨ j = 8 ∨ j = 9 ∨ j = 10 ∨ j = 11 by omega) with rfl | rfl | rfl | rfl | rfl | rfl | rfl | rfl | rfl | rfl
  · exact Or.inl sT1_2
  · exact Or.inl sT1_3
  · exact Or.inl sT1_4
  · exact Or.inl sT1_5
  · exact Or.inl sT1_6
  · exact Or.inl sT1_7
  · exact Or.inl sT1_8
  · exact Or.inl sT1_9
  · exact Or.inl sT1_10
  · exact Or.inl sT1_11
theorem sT2_3 : Cond.not (Cond.eq (tmS 2) (tmS 3)) ∈ fl1 := by decide +kernel
theorem sT2_4 : Cond.not (Cond.eq (tmS 2) (tmS 4)) ∈ fl1 := by decide +kernel
theorem sT2_5 : Cond.not (Cond.eq (tmS 2) (tmS 5)) ∈ fl1 := by decide +kernel
theorem sT2_6 : Cond.not (Cond.eq (tmS 2) (tmS 6)) ∈ fl1 := by decide +kernel
theorem sT2_7 : Cond.not (Cond.eq (tmS 2) (tmS 7)) ∈ fl1 := by decide +kernel
theorem sT2_8 : Cond.not (Cond.eq (tmS 2) (tmS 8)) ∈ fl1 := by decide +kernel
theorem sT2_9 : Cond.not (Cond.eq (tmS 2) (tmS 9)) ∈ fl1 := by decide +kernel
theorem sT2_10 : Cond.not (Cond.eq (tmS 2) (tmS 10)) ∈ fl1 := by decide +kernel
theorem sT2_11 : Cond.not (Cond.eq (tmS 2) (tmS 11)) ∈ fl1 := by decide +kernel
theorem sS6_2 : ∀ j, j < 12 → 2 < j → Cond.not (Cond.eq (tmS 2) (tmS j)) ∈ fl1 ∨ Cond.not (Cond.eq (tmS j) (tmS 2)) ∈ fl1 := by
  intro j h1 h2
  rcases (show j = 3 ∨ j = 4 ∨ j = 5 ∨ j = 6 ∨ j = 7 ∨ j = 8 ∨ j = 9 ∨ j = 10 ∨ j = 11 by omega) with rfl | rfl | rfl | rfl | rfl | rfl | rfl | rfl | rfl
  · exact Or.inl sT2_3
  · exact Or.inl sT2_4
  · exact Or.inl sT2_5
  · exact Or.inl sT2_6
  · exact Or.inl sT2_7
  · exact Or.inl sT2_8
  · exact Or.inl sT2_9
  · exact Or.inl sT2_10
  · exact Or.inl sT2_11
theorem sT3_4 : Cond.not (Cond.eq (tmS 3) (tmS 4)) ∈ fl1 := by decide +kernel
theorem sT3_5 : Cond.not (Cond.eq (tmS 3) (tmS 5)) ∈ fl1 := by decide +kernel
theorem sT3_6 : Cond.not (Cond.eq (tmS 3) (tmS 6)) ∈ fl1 := by decide +kernel
theorem sT3_7 : Cond.not (Cond.eq (tmS 3) (tmS 7)) ∈ fl1 := by decide +kernel
theorem sT3_8 : Cond.not (Cond.eq (tmS 3) (tmS 8)) ∈ fl1 := by decide +kernel
theorem sT3_9 : Cond.not (Cond.eq (tmS 3) (tmS 9)) ∈ fl1 := by decide +kernel
theorem sT3_10 : Cond.not (Cond.eq (tmS 3) (tmS 10)) ∈ fl1 := by decide +kernel
theorem sT3_11 : Cond.not (Cond.eq (tmS 3) (tmS 11)) ∈ fl1 := by decide +kernel
theorem sS6_3 : ∀ j, j < 12 → 3 < j → Cond.not (Cond.eq (tmS 3) (tmS j)) ∈ fl1 ∨ Cond.not (Cond.eq (tmS j) (tmS 3)) ∈ fl1 := by
  intro j h1 h2
  rcases (show j = 4 ∨ j = 5 ∨ j = 6 ∨ j = 7 ∨ j = 8 ∨ j = 9 ∨ j = 10 ∨ j = 11 by omega) with rfl | rfl | rfl | rfl | rfl | rfl | rfl | rfl
  · exact Or.inl sT3_4
  · exact Or.inl sT3_5
  · exact Or.inl sT3_6
  · exact Or.inl sT3_7
  · exact Or.inl sT3_8
  · exact Or.inl sT3_9
  · exact Or.inl sT3_10
  · exact Or.inl sT3_11
theorem sT4_5 : Cond.not (Cond.eq (tmS 4) (tmS 5)) ∈ fl1 := by decide +kernel
theorem sT4_6 : Cond.not (Cond.eq (tmS 4) (tmS 6)) ∈ fl1 := by decide +kernel
theorem sT4_7 : Cond.not (Cond.eq (tmS 4) (tmS 7)) ∈ fl1 := by decide +kernel
theorem sT4_8 : Cond.not (Cond.eq (tmS 4) (tmS 8)) ∈ fl1 := by decide +kernel
theorem sT4_9 : Cond.not (Cond.eq (tmS 4) (tmS 9)) ∈ fl1 := by decide +kernel
theorem sT4_10 : Cond.not (Cond.eq (tmS 4) (tmS 10)) ∈ fl1 := by decide +kernel
theorem sT4_11 : Cond.not (Cond.eq (tmS 4) (tmS 11)) ∈ fl1 := by decide +kernel
theorem sS6_4 : ∀ j, j < 12 → 4 < j → Cond.not (Cond.eq (tmS 4) (tmS j)) ∈ fl1 ∨ Cond.not (Cond.eq (tmS j) (tmS 4)) ∈ fl1 := by
  intro j h1 h2
  rcases (show j = 5 ∨ j = 6 ∨ j = 7 ∨ j = 8 ∨ j = 9 ∨ j = 10 ∨ j = 11 by omega) with rfl | rfl | rfl | rfl | rfl | rfl | rfl
  · exact Or.inl sT4_5
  · exact Or.inl sT4_6
  · exact Or.inl sT4_7
  · exact Or.inl sT4_8
  · exact Or.inl sT4_9
  · exact Or.inl sT4_10
  · exact Or.inl sT4_11
theorem sT5_6 : Cond.not (Cond.eq (tmS 5) (tmS 6)) ∈ fl1 := by decide +kernel
theorem sT5_7 : Cond.not (Cond.eq (tmS 5) (tmS 7)) ∈ fl1 := by decide +kernel
theorem sT5_8 : Cond.not (Cond.eq (tmS 5) (tmS 8)) ∈ fl1 := by decide +kernel
theorem sT5_9 : Cond.not (Cond.eq (tmS 5) (tmS 9)) ∈ fl1 := by decide +kernel
theorem sT5_10 : Cond.not (Cond.eq (tmS 5) (tmS 10)) ∈ fl1 := by decide +kernel
theorem sT5_11 : Cond.not (Cond.eq (tmS 5) (tmS 11)) ∈ fl1 := by decide +kernel
theorem sS6_5 : ∀ j, j < 12 → 5 < j → Cond.not (Cond.eq (tmS 5) (tmS j)) ∈ fl1 ∨ Cond.not (Cond.eq (tmS j) (tmS 5)) ∈ fl1 := by
  intro j h1 h2
  rcases (show j = 6 ∨ j = 7 ∨ j = 8 ∨ j = 9 ∨ j = 10 ∨ j = 11 by omega) with rfl | rfl | rfl | rfl | rfl | rfl
  · exact Or.inl sT5_6
  · exact Or.inl sT5_7
  · exact Or.inl sT5_8
  · exact Or.inl sT5_9
  · exact Or.inl sT5_10
  · exact Or.inl sT5_11
theorem sT6_7 : Cond.not (Cond.eq (tmS 6) (tmS 7)) ∈ fl1 := by decide +kernel
theorem sT6_8 : Cond.not (Cond.eq (tmS 6) (tmS 8)) ∈ fl1 := by decide +kernel
theorem sT6_9 : Cond.not (Cond.eq (tmS 6) (tmS 9)) ∈ fl1 := by decide +kernel
theorem sT6_10 : Cond.not (Cond.eq (tmS 6) (tmS 10)) ∈ fl1 := by decide +kernel
theorem sT6_11 : Cond.not (Cond.eq (tmS 6) (tmS 11)) ∈ fl1 := by decide +kernel
theorem sS6_6 : ∀ j, j < 12 → 6 < j → Cond.not (Cond.eq (tmS 6) (tmS j)) ∈ fl1 ∨ Cond.not (Cond.eq (tmS j) (tmS 6)) ∈ fl1 := by
  intro j h1 h2
  rcases (show j = 7 ∨ j = 8 ∨ j = 9 ∨ j = 10 ∨ j = 11 by omega) with rfl | rfl | rfl | rfl | rfl
  · exact Or.inl sT6_7
  · exact Or.inl sT6_8
  · exact Or.inl sT6_9
  · exact Or.inl sT6_10
  · exact Or.inl sT6_11
theorem sT7_8 : Cond.not (Cond.eq (tmS 7) (tmS 8)) ∈ fl1 := by decide +kernel
theorem sT7_9 : Cond.not (Cond.eq (tmS 7) (tmS 9)) ∈ fl1 := by decide +kernel
theorem sT7_10 : Cond.not (Cond.eq (tmS 7) (tmS 10)) ∈ fl1 := by decide +kernel
theorem sT7_11 : Cond.not (Cond.eq (tmS 7) (tmS 11)) ∈ fl1 := by decide +kernel
theorem sS6_7 : ∀ j, j < 12 → 7 < j → Cond.not (Cond.eq (tmS 7) (tmS j)) ∈ fl1 ∨ Cond.not (Cond.eq (tmS j) (tmS 7)) ∈ fl1 := by
  intro j h1 h2
  rcases (show j = 8 ∨ j = 9 ∨ j = 10 ∨ j = 11 by omega) with rfl | rfl | rfl | rfl
  · exact Or.inl sT7_8
  · exact Or.inl sT7_9
  · exact Or.inl sT7_10
  · exact Or.inl sT7_11
theorem sT8_9 : Cond.not (Cond.eq (tmS 8) (tmS 9)) ∈ fl1 := by decide +kernel
theorem sT8_10 : Cond.not (Cond.eq (tmS 8) (tmS 10)) ∈ fl1 := by decide +kernel
theorem sT8_11 : Cond.not (Cond.eq (tmS 8) (tmS 11)) ∈ fl1 := by decide +kernel
theorem sS6_8 : ∀ j, j < 12 → 8 < j → Cond.not (Cond.eq (tmS 8) (tmS j)) ∈ fl1 ∨ Cond.not (Cond.eq (tmS j) (tmS 8)) ∈ fl1 := by
  intro j h1 h2
  rcases (show j = 9 ∨ j = 10 ∨ j = 11 by omega) with rfl | rfl | rfl
  · exact Or.inl sT8_9
  · exact Or.inl sT8_10
  · exact Or.inl sT8_11
theorem sT9_10 : Cond.not (Cond.eq (tmS 9) (tmS 10)) ∈ fl1 := by decide +kernel
theorem sT9_11 : Cond.not (Cond.eq (tmS 9) (tmS 11)) ∈ fl1 := by decide +kernel
theorem sS6_9 : ∀ j, j < 12 → 9 < j → Cond.not (Cond.eq (tmS 9) (tmS j)) ∈ fl1 ∨ Cond.not (Cond.eq (tmS j) (tmS 9)) ∈ fl1 := by
  intro j h1 h2
  rcases (show j = 10 ∨ j = 11 by omega) with rfl | rfl
  · exact Or.inl sT9_10
  · exact Or.inl sT9_11
theorem sT10_11 : Cond.not (Cond.eq (tmS 10) (tmS 11)) ∈ fl1 := by decide +kernel
theorem sS6_10 : ∀ j, j < 12 → 10 < j → Cond.not (Cond.eq (tmS 10) (tmS j)) ∈ fl1 ∨ Cond.not (Cond.eq (tmS j) (tmS 10)) ∈ fl1 := by
  intro j h1 h2
  rcases (show j = 11 by omega) with rfl
  · exact Or.inl sT10_11
theorem sS6 : ∀ i, i < 12 → ∀ j, j < 12 → i ≠ j → Cond.not (Cond.eq (tmS i) (tmS j)) ∈ fl1 ∨ Cond.not (Cond.eq (tmS j) (tmS i)) ∈ fl1 := by
  have key : ∀ i, i < 11 → ∀ j, j < 12 → i < j → Cond.not (Cond.eq (tmS i) (tmS j)) ∈ fl1 ∨ Cond.not (Cond.eq (tmS j) (tmS i)) ∈ fl1 := by
    intro i hi
    match i, hi with
    | 0, _ => exact sS6_0
    | 1, _ => exact sS6_1
    | 2, _ => exact sS6_2
    | 3, _ => exact sS6_3
    | 4, _ => exact sS6_4
    | 5, _ => exact sS6_5
    | 6, _ => exact sS6_6
    | 7, _ => exact sS6_7
    | 8, _ => exact sS6_8
    | 9, _ => exact sS6_9
    | 10, _ => exact sS6_10
    | n + 11, h => exact absurd h (by omega)
  intro i hi j hj hij
  rcases Nat.lt_or_gt_of_ne hij with h | h
  · exact key i (by omega) j hj h
  · exact (key j (by omega) i hi h).symm
theorem sR1 : ∀ q ∈ strT, Cond.stringRef "SheetObjectsModel" q.1 q.2.1 ∈ lw_tbl := by decide +kernel
theorem sR2 : ∀ q ∈ strT, q.2.2 - 60 < 12 ∧ 60 + (q.2.2 - 60) = q.2.2 ∧ q.1 = ixS (q.2.2 - 60) := by decide +kernel
theorem sE1 : ∀ q ∈ exT, Cond.stringRef "SheetObjects" q.1 q.2 ∈ lw_tbl := by decide +kernel
theorem sE2 : ∀ q ∈ exT, Cond.exactly (.string "SheetObjects" q.1) "java/lang/String" ∈ fl1 := by decide +kernel
def tmW (w : Nat) : Term := .static "SheetObjects" (wn w) "[B"
theorem sW1 : ∀ i, i < 7 → Cond.arrayOf (tmW (40 + i)) .byte ∈ fl1 := by decide +kernel
theorem sW2 : ∀ i, i < 7 → Cond.eq (.length (tmW (40 + i))) (.int (Int32.ofNat (ak (40 + i)).2)) ∈ fl1 := by decide +kernel
theorem sW3 : ∀ i, i < 7 → ∀ j, j < (ak (40 + i)).2 → Cond.eq (.elem (tmW (40 + i)) (.int (Int32.ofNat j))) (.int ((wb (40 + i)).getD j 0)) ∈ fl1 := by decide +kernel
theorem sW4 : ∀ i, i < 7 → Cond.laysStatic "SheetObjects" (wn (40 + i)) "[B" ∈ lw_tbl := by decide +kernel
theorem sW5 : ∀ i, i < 7 → (ak (40 + i)).2 < 2 ^ 31 := by decide +kernel
theorem stt_start {s : State} {b : Nat} (hts : ∀ w ∈ lw_tbl, w.before #[Value.ref b] s = true) (hgv : (Jvm.Cond.and given_1 narrow_1).before #[Value.ref b] s = true) :
    ∃ a0 : Nat → Nat, ∀ a : Nat → Nat, (∀ j, 40 ≤ j → j < 47 → a j = a0 j) → (∀ j, 60 ≤ j → a j = a0 j) → Stt a s.heap.size s s.heap := by
  have hf : ∀ w ∈ fl1, w.before #[Value.ref b] s = true := flat_of_before _ hgv
  have hA : ∀ q : Nat, q < s.heap.size → ¬ AN s.heap.size q := fun q h h2 => Nat.not_lt.mpr h2 h
  have hi0 : (Cond.initialized "SheetObjects").before #[Value.ref b] s = true := hts _ (by decide +kernel)
  have hW : ∀ i, ∃ t : Nat, i < 7 → va_Z "SheetObjects" (wn (40 + i)) "[B" (.ref t) (AN s.heap.size) s s.heap ∧ va_T .byte t (ak (40 + i)).2 (fun j => .int ((wb (40 + i)).getD j 0)) (AN s.heap.size) s s.heap := by
    intro i
    by_cases hi : i < 7
    · obtain ⟨t, h1, h2⟩ := va_Tof (tm := tmW (40 + i)) (f := fun j => .int ((wb (40 + i)).getD j 0)) (A := AN s.heap.size) (sW5 i hi) (hf _ (sW1 i hi)) (va_eqt (hf _ (sW2 i hi))) (fun j hj => va_eqt (hf _ (sW3 i hi j hj))) hA
      exact ⟨t, fun _ => ⟨va_Zof (hts _ (sW4 i hi)) hi0 h1 hA, h2⟩⟩
    · exact ⟨0, fun h => absurd h hi⟩
  obtain ⟨aW, hW⟩ := Classical.axiomOfChoice hW
  obtain ⟨adK, adV, hS, hev⟩ := vk_Sof (args := #[Value.ref b]) (s := s) (N := 12) (tm := tmS) (len := lenS) (byt := bytS) (A := AN s.heap.size) (by decide +kernel) (fun i hi => hf _ (sS1 i hi)) (fun i hi => hf _ (sS2 i hi)) (fun i hi => hf _ (sS3 i hi)) (fun i hi => hf _ (sS4 i hi)) (fun i hi j hj => hf _ (sS5 i hi j hj)) (fun i j hi hj hij => (sS6 i hi j hj hij).imp (hf _) (hf _)) hA
  refine ⟨fun j => if j < 47 then aW (j - 40) else if j < 80 then adK (j - 60) else adV (j - 80), fun a h1 h2 => ?_⟩
  have hK : ∀ i, i < 12 → a (60 + i) = adK i := by
    intro i hi
    rw [h2 (60 + i) (by omega)]
    simp only
    rw [if_neg (by omega), if_pos (by omega), Nat.add_sub_cancel_left]
  have hV : ∀ i, a (80 + i) = adV i := by
    intro i
    rw [h2 (80 + i) (by omega)]
    simp only
    rw [if_neg (by omega), if_neg (by omega), Nat.add_sub_cancel_left]
  refine ⟨fun w g1 g2 => ?_, ?_, fun q hq => ?_, fun q hq => ?_, ?_, ?_, ?_, ?_, fun w hw hn => va_Nw.of (nest_tab hn) (hts w hw)⟩
  · obtain ⟨i, rfl⟩ : ∃ i, w = 40 + i := ⟨w - 40, by omega⟩
    have e : a (40 + i) = aW i := by
      rw [h1 (40 + i) g1 g2]
      simp only
      rw [if_pos g2, Nat.add_sub_cancel_left]
    rw [e]
    exact hW i (by omega)
  · refine ⟨fun i hi => ?_, fun i j hi hj e => ?_⟩
    · simp only [hK i hi, hV i]
      exact hS.1 i hi
    · simp only [hK i hi, hK j hj] at e
      exact hS.2 i j hi hj e
  · obtain ⟨g1, g2, g3⟩ := sR2 q hq
    have e := hK (q.2.2 - 60) g1
    rw [g2] at e
    rw [e]
    refine vk_R.of (A := #[Value.ref b]) (hts _ (sR1 q hq)) ?_
    rw [g3]
    exact hev _ g1
  · obtain ⟨sa, c9, cA, kA, q1, -⟩ := Cond.exactly_spec (args := #[Value.ref b]) (first := s) (o := none) (s := s) (idx := []) (t := .string "SheetObjects" q.1) (cls := "java/lang/String") (hf _ (sE2 q hq))
    exact ⟨sa, vk_R.of (A := #[Value.ref b]) (hts _ (sE1 q hq)) q1⟩
  · exact va_Zof (args := #[Value.ref b]) (hts _ (by decide +kernel)) (hts _ (by decide +kernel)) (va_eqi (hf _ (by decide +kernel))) hA
  · exact vx_Zqof (args := #[Value.ref b]) (hts _ (by decide +kernel)) (hts _ (by decide +kernel)) (hf _ (by decide +kernel)) hA
  · exact vx_Zqof (args := #[Value.ref b]) (hts _ (by decide +kernel)) (hts _ (by decide +kernel)) (hf _ (by decide +kernel)) hA
  · exact va_Zqof (args := #[Value.ref b]) (hts _ (by decide +kernel)) (hts _ (by decide +kernel)) (hf _ (by decide +kernel)) hA
theorem k_start {s : State} {b : Nat} (hts : ∀ w ∈ Tw, w.before #[Value.ref b] s = true) : ∃ (D : va_G) (cI cB cJ : ClassId), va_K D vwCl (tys3 cI cB cJ) s := by
  obtain ⟨d0, i0, k0⟩ := u_known (C := RX1) (T := TX1) (N := 2) (n := 2) hts twX1 (hts (.instantiable RX1 2) (tw_in (by decide +kernel) rfl))
  obtain ⟨d1, i1, k1⟩ := u_known (C := RX2) (T := TX2) (N := 8) (n := 8) hts twX2 (hts (.instantiable RX2 8) (tw_in (by decide +kernel) rfl))
  obtain ⟨d2, i2, k2⟩ := u_known (C := RX3) (T := TX3) (N := 13) (n := 13) hts twX3 (hts (.instantiable RX3 13) (tw_in (by decide +kernel) rfl))
  obtain ⟨d3, i3, k3⟩ := u_known (C := RX4) (T := TX4) (N := 11) (n := 11) hts twX4 (hts (.instantiable RX4 11) (tw_in (by decide +kernel) rfl))
  obtain ⟨d4, i4, k4⟩ := u_known (C := RX5) (T := TX5) (N := 2) (n := 2) hts twX5 (hts (.instantiable RX5 2) (tw_in (by decide +kernel) rfl))
  obtain ⟨d5, i5, k5⟩ := u_known (C := RX6) (T := TX6) (N := 6) (n := 6) hts twX6 (hts (.instantiable RX6 6) (tw_in (by decide +kernel) rfl))
  obtain ⟨d6, i6, k6⟩ := u_known (C := RX7) (T := TX7) (N := 4) (n := 4) hts twX7 (hts (.instantiable RX7 4) (tw_in (by decide +kernel) rfl))
  obtain ⟨d7, i7, k7⟩ := u_known (C := RX8) (T := TX8) (N := 33) (n := 33) hts twX8 (hts (.instantiable RX8 33) (tw_in (by decide +kernel) rfl))
  obtain ⟨cI, a1, a2⟩ := arr_of (ty := .int) (by intro C h; cases h) (hts (.arrayClass .int) (tw_in (by decide +kernel) rfl))
  obtain ⟨cB, b1, b2⟩ := arr_of (ty := .byte) (by intro C h; cases h) (hts (.arrayClass .byte) (tw_in (by decide +kernel) rfl))
  obtain ⟨cJ, c1, c2⟩ := arr_of (ty := .long) (by intro C h; cases h) (hts (.arrayClass .long) (tw_in (by decide +kernel) rfl))
  refine ⟨(fun n => [d0, d1, d2, d3, d4, d5, d6, d7].getD n 0, fun n => [i0, i1, i2, i3, i4, i5, i6, i7].getD n (fun _ => 0)), cI, cB, cJ, fun c q hq => ?_, fun k q hq => ?_⟩
  · match c, hq with
    | 0, hq => cases hq; exact k0
    | 1, hq => cases hq; exact k1
    | 2, hq => cases hq; exact k2
    | 3, hq => cases hq; exact k3
    | 4, hq => cases hq; exact k4
    | 5, hq => cases hq; exact k5
    | 6, hq => cases hq; exact k6
    | 7, hq => cases hq; exact k7
    | n + 8, hq => cases hq
  · match k, hq with
    | 0, hq => cases hq; exact ⟨a1, a2⟩
    | 1, hq => cases hq; exact ⟨b1, b2⟩
    | 2, hq => cases hq; exact ⟨c1, c2⟩
    | n + 3, hq => cases hq
theorem wld_of {D : va_G} {N0 : Nat} {ws : va_W} {a : Nat → Nat} {cI cB cJ : ClassId} {σ : Sg} {H : Heap} (π : Nat → Nat) (h : ∀ i, i < 34 → ws[π i]? = some (a i, cel a cI cB cJ σ i)) (hπ : ∀ i, i < 34 → ∀ j, j < 34 → π i = π j → i = j)
    (hP : va_P D vwCl ws H) (hD : va_D (AN N0) ws) : va_P D vwCl (wld a cI cB cJ σ) H ∧ va_D (AN N0) (wld a cI cB cJ σ) := by
  have key : ∀ (k : Nat) (q : Nat × va_E), (wld a cI cB cJ σ)[k]? = some q → k < 34 ∧ ws[π k]? = some q := by
    intro k q hq
    by_cases hk : k < 34
    · rw [wld_at hk] at hq; cases hq; exact ⟨hk, h k hk⟩
    · rw [wld_ge (Nat.le_of_not_lt hk)] at hq; cases hq
  refine ⟨fun k q hq => hP _ q (key k q hq).2, fun i j x y hx hy hxy => ?_, fun k q hq => hD.2 _ q (key k q hq).2⟩
  exact hπ i (key i x hx).1 j (key j y hy).1 (hD.1 _ _ x y (key i x hx).2 (key j y hy).2 hxy)
theorem wi_L : ∀ w ∈ ([.classLink R_law 8 RX7, .instantiable RX7 4, .initialized RX7, .instanceMethod yX7_init, .methodLink R_law 53 yX7_init, .classLink R_law 54 RX8, .instantiable RX8 33, .initialized RX8, .instanceMethod yX8_init, .methodLink R_law 56 yX8_init, .arrayClass .long] : List Cond), w ∈ Tw := tw_all (by decide +kernel)
def pi0 (i : Nat) : Nat := ([14, 31, 23, 19, 22, 21, 15, 0, 32, 30, 29, 28, 27, 26, 25, 24, 20, 18, 17, 16, 13, 12, 11, 10, 9, 8, 7, 6, 5, 4, 3, 2, 1, 33] : List Nat).getD i 0
theorem pi0_inj : ∀ i, i < 34 → ∀ j, j < 34 → pi0 i = pi0 j → i = j := by decide +kernel
/-- the state at the start -/
def sg0 : Sg := (fun _ _ => 0, fun i k => if i = 6 ∧ k = 3 then 18 else if i = 6 ∧ k = 5 then 19 else 0, fun _ => 0)
abbrev lc0 : Lc := [some (.ref 50), some (.ref 0), some (.ref 7), some (.ref 33), some (.int 0), none, none]
set_option maxHeartbeats 8000000 in
theorem whole_start0 (hlaw : ∀ (L : Nat) (xs : Nat → Int32), L ≤ 384 → Lf (FL L xs) 100000 23 lc0 [] sg0) {p : Program} {e : Env} {s : State} {m : MethodId} {below : List Frame} {meth : Method} {c : Code} (l : Launch) (hl0 : l.stackTraces = false) {b L : Nat} {xs : Nat → Int32} (hL : L ≤ 384) (C0 : lw_At p s m meth c b L xs) : W p l e room_1 s m #[Value.ref b] below meth c s.heap [] 0 0 (lw_Z below #[Value.ref b] s) (entryFrame m ([Value.ref b] : List Value).toArray 7) := by
  obtain ⟨hx, hb, hr, hml, hown, htb, hX, hbl, hlocks, hgv⟩ := C0
  have hts : ∀ w ∈ Tw, w.before #[Value.ref b] s = true := fun w h => htb w (List.mem_filter.mp h).1
  obtain ⟨a0, hSt⟩ := stt_start htb hgv
  obtain ⟨D, cI, cB, cJ, hK⟩ := k_start hts
  have hNc : va_Nc xA xI s := va_Nc.of (args := #[Value.ref b]) (flat_of_before _ hgv (.not (.castable xA xI)) (by decide +kernel))
  have hNe : va_Nw (.methodLinkNest "SheetObjects$Reader" 30 yX1_init "SheetObjects") s := va_Nw.of rfl (htb _ (by decide +kernel))
  have hS : va_S (AN s.heap.size) s.heap s.heap [] := va_S.rf
  have hA : ∀ q : Nat, s.heap.size ≤ q → AN s.heap.size q := fun q h => h
  have hP : va_P D vwCl ([] : va_W) s.heap := fun _ _ h => absurd h (by simp)
  have hD : va_D (AN s.heap.size) ([] : va_W) := ⟨fun _ _ _ _ h => absurd h (by simp), fun _ _ h => absurd h (by simp)⟩
  have hl := lv_entry ([.ref b]) (n := 7) (Nat.le_of_ble_eq_true rfl)
  rw [lg_entry_eq]
  generalize (lg_sl ([.ref b]) ++ List.replicate (7 - (lg_sl ([.ref b])).length) Slot.unset).toArray = ls at hl ⊢
  have hl : lv_has ls 7 [(0, .ref b)] := hl
  refine va_new (ci := 6) (fs := [.null, .null, .null, .null]) (C := RX7) (T := TX7) (N := 4) hx hb hts twX7 tyX7 tyX7_ok hown (hts (.classLink R_law 8 RX7) (wi_L _ (by simp))) (hts (.instantiable RX7 4) (wi_L _ (by simp))) (hts (.initialized RX7) (wi_L _ (by simp))) hK hP hD hS hA rfl (fun j hj => by rcases (show j = 0 ∨ j = 1 ∨ j = 2 ∨ j = 3 by omega) with rfl | rfl | rfl | rfl <;> rfl) (Nat.le_of_ble_eq_true rfl) (Nat.le_of_ble_eq_true rfl) (show decode code 0 = .ok (.new 8, 3) by decide +kernel) (fun gx H hP hD hS => ?_)
  have hP : va_P D vwCl ((gx, .inr (6, [.null, .null, .null, .null])) :: ([] : va_W)) H := pPD (pm_n (gx, .inr (6, [.null, .null, .null, .null])) ([] : va_W)) hP
  have hD : va_D (AN s.heap.size) ((gx, .inr (6, [.null, .null, .null, .null])) :: ([] : va_W)) := pD (pm_n (gx, .inr (6, [.null, .null, .null, .null])) ([] : va_W)) hD
  refine lv_dup hx hb (show decode code 3 = .ok (.dup, 1) by decide +kernel) rfl ?_
  refine kcall (va_runI (As := []) (rest := [.ref gx]) ⟨hx, hb, hml, hown, hts⟩ (i_X7 (N0 := s.heap.size) gx ([] : va_W)) (cwI 0 hts (good_sub wI_X7) rfl rfl rfl (hts (.initialized RX7) (wi_L _ (by simp))) (hts (.methodLink R_law 53 yX7_init) (wi_L _ (by simp))) (hts (.instanceMethod yX7_init) (wi_L _ (by simp))) rfl (by decide +kernel) ⟨Nat.le_of_ble_eq_true rfl, Nat.le_of_ble_eq_true rfl⟩) ⟨Kp_blind, fun U hU hW => ⟨rfl, by rw [hU]; exact hS.1, by rw [hU]; exact hP, va_K.moved hW.alike hK, hD, va_Nw.warmM hW hNe⟩⟩ rfl rfl hl.1 rfl (lv_room (Nat.le_of_ble_eq_true rfl)) (show decode code 4 = .ok (.invokespecial 53, 3) by decide +kernel) ⟨Nat.le_of_ble_eq_true rfl, Nat.le_of_ble_eq_true rfl⟩) hS (fun t locs hB hvm hS => ?_)
  obtain ⟨q46x, q28_54x, q20_54x, q12_54x, q27x, q41_39x, q28_39x, q15_39x, q16x, q61_20x, q53_20x, q44_20x, q35_20x, q26_20x, q17_20x, q8_20x, q5x, q7_9x, hP, hD⟩ := hB
  generalize t.heap = H at hP hS ⊢
  have hP : va_P D vwCl ((gx, .inr (6, [.ref q5x, .ref q16x, .ref q27x, .ref q46x])) :: (q46x, .inr (1, [.ref q16x, .ref q12_54x, .int 0, .ref q20_54x, .int 0, .ref q28_54x, .int 0, .int 0])) :: (q28_54x, .inl (cB, 65536, .inl (fun _ => 0))) :: (q20_54x, .inl (cB, 65536, .inl (fun _ => 0))) :: (q12_54x, .inl (cI, 100, .inl (fun _ => 0))) :: (q27x, .inr (2, [.ref q5x, .ref q16x, .ref q15_39x, .ref q28_39x, .ref q41_39x, .int 0, .int 0, .int 0, .int 0, .int 0, .int 0, .int 0, .int 0])) :: (q41_39x, .inl (cI, 100, .inl (fun _ => 0))) :: (q28_39x, .inr (0, [.int 0, .int 0])) :: (q15_39x, .inr (5, [.ref q5x, .ref q16x, .int 0, .int 0, .int 0, .int 0])) :: (q16x, .inr (3, [.ref q8_20x, .ref q17_20x, .ref q26_20x, .ref q35_20x, .ref q44_20x, .ref q53_20x, .ref q61_20x, .int 0, .int 0, .int 0, .int 0])) :: (q61_20x, .inl (cB, 32768, .inl (fun _ => 0))) :: (q53_20x, .inl (cI, 4000, .inl (fun _ => 0))) :: (q44_20x, .inl (cI, 4000, .inl (fun _ => 0))) :: (q35_20x, .inl (cI, 4000, .inl (fun _ => 0))) :: (q26_20x, .inl (cI, 4000, .inl (fun _ => 0))) :: (q17_20x, .inl (cI, 4000, .inl (fun _ => 0))) :: (q8_20x, .inl (cB, 4000, .inl (fun _ => 0))) :: (q5x, .inr (4, [.ref q7_9x, .int 0])) :: (q7_9x, .inl (cB, 65536, .inl (fun _ => 0))) :: []) H := hP
  have hD : va_D (AN s.heap.size) ((gx, .inr (6, [.ref q5x, .ref q16x, .ref q27x, .ref q46x])) :: (q46x, .inr (1, [.ref q16x, .ref q12_54x, .int 0, .ref q20_54x, .int 0, .ref q28_54x, .int 0, .int 0])) :: (q28_54x, .inl (cB, 65536, .inl (fun _ => 0))) :: (q20_54x, .inl (cB, 65536, .inl (fun _ => 0))) :: (q12_54x, .inl (cI, 100, .inl (fun _ => 0))) :: (q27x, .inr (2, [.ref q5x, .ref q16x, .ref q15_39x, .ref q28_39x, .ref q41_39x, .int 0, .int 0, .int 0, .int 0, .int 0, .int 0, .int 0, .int 0])) :: (q41_39x, .inl (cI, 100, .inl (fun _ => 0))) :: (q28_39x, .inr (0, [.int 0, .int 0])) :: (q15_39x, .inr (5, [.ref q5x, .ref q16x, .int 0, .int 0, .int 0, .int 0])) :: (q16x, .inr (3, [.ref q8_20x, .ref q17_20x, .ref q26_20x, .ref q35_20x, .ref q44_20x, .ref q53_20x, .ref q61_20x, .int 0, .int 0, .int 0, .int 0])) :: (q61_20x, .inl (cB, 32768, .inl (fun _ => 0))) :: (q53_20x, .inl (cI, 4000, .inl (fun _ => 0))) :: (q44_20x, .inl (cI, 4000, .inl (fun _ => 0))) :: (q35_20x, .inl (cI, 4000, .inl (fun _ => 0))) :: (q26_20x, .inl (cI, 4000, .inl (fun _ => 0))) :: (q17_20x, .inl (cI, 4000, .inl (fun _ => 0))) :: (q8_20x, .inl (cB, 4000, .inl (fun _ => 0))) :: (q5x, .inr (4, [.ref q7_9x, .int 0])) :: (q7_9x, .inl (cB, 65536, .inl (fun _ => 0))) :: []) := hD
  refine lv_astore_n (nL := 7) hx hb (k := 1) (show decode code 7 = .ok (.astore_n 1, 1) by decide +kernel) rfl hl (by decide) rfl (fun ls hl => ?_)
  have hl : lv_has ls 7 [(1, .ref gx), (0, .ref b)] := hl
  refine va_new (ci := 7) (fs := [.int 0, .int 0, .null, .int 0, .null, .null, .null, .null, .null, .int 0, .null, .int 0, .null, .null, .int 0, .int 0, .int 0, .int 0, .int 0, .null, .int 0, .null, .int 0, .int 0, .int 0, .int 0, .int 0, .null, .int 0, .int 0, .null, .int 0, .int 0]) (C := RX8) (T := TX8) (N := 33) hx hb hts twX8 tyX8 tyX8_ok hown (hts (.classLink R_law 54 RX8) (wi_L _ (by simp))) (hts (.instantiable RX8 33) (wi_L _ (by simp))) (hts (.initialized RX8) (wi_L _ (by simp))) hK hP hD hS hA rfl (fun j hj => by rcases (show j = 0 ∨ j = 1 ∨ j = 2 ∨ j = 3 ∨ j = 4 ∨ j = 5 ∨ j = 6 ∨ j = 7 ∨ j = 8 ∨ j = 9 ∨ j = 10 ∨ j = 11 ∨ j = 12 ∨ j = 13 ∨ j = 14 ∨ j = 15 ∨ j = 16 ∨ j = 17 ∨ j = 18 ∨ j = 19 ∨ j = 20 ∨ j = 21 ∨ j = 22 ∨ j = 23 ∨ j = 24 ∨ j = 25 ∨ j = 26 ∨ j = 27 ∨ j = 28 ∨ j = 29 ∨ j = 30 ∨ j = 31 ∨ j = 32 by omega) with rfl | rfl | rfl | rfl | rfl | rfl | rfl | rfl | rfl | rfl | rfl | rfl | rfl | rfl | rfl | rfl | rfl | rfl | rfl | rfl | rfl | rfl | rfl | rfl | rfl | rfl | rfl | rfl | rfl | rfl | rfl | rfl | rfl <;> rfl) (Nat.le_of_ble_eq_true rfl) (Nat.le_of_ble_eq_true rfl) (show decode code 8 = .ok (.new 54, 3) by decide +kernel) (fun gm H hP hD hS => ?_)
  have hP : va_P D vwCl ((gm, .inr (7, [.int 0, .int 0, .null, .int 0, .null, .null, .null, .null, .null, .int 0, .null, .int 0, .null, .null, .int 0, .int 0, .int 0, .int 0, .int 0, .null, .int 0, .null, .int 0, .int 0, .int 0, .int 0, .int 0, .null, .int 0, .int 0, .null, .int 0, .int 0])) :: ((gx, .inr (6, [.ref q5x, .ref q16x, .ref q27x, .ref q46x])) :: (q46x, .inr (1, [.ref q16x, .ref q12_54x, .int 0, .ref q20_54x, .int 0, .ref q28_54x, .int 0, .int 0])) :: (q28_54x, .inl (cB, 65536, .inl (fun _ => 0))) :: (q20_54x, .inl (cB, 65536, .inl (fun _ => 0))) :: (q12_54x, .inl (cI, 100, .inl (fun _ => 0))) :: (q27x, .inr (2, [.ref q5x, .ref q16x, .ref q15_39x, .ref q28_39x, .ref q41_39x, .int 0, .int 0, .int 0, .int 0, .int 0, .int 0, .int 0, .int 0])) :: (q41_39x, .inl (cI, 100, .inl (fun _ => 0))) :: (q28_39x, .inr (0, [.int 0, .int 0])) :: (q15_39x, .inr (5, [.ref q5x, .ref q16x, .int 0, .int 0, .int 0, .int 0])) :: (q16x, .inr (3, [.ref q8_20x, .ref q17_20x, .ref q26_20x, .ref q35_20x, .ref q44_20x, .ref q53_20x, .ref q61_20x, .int 0, .int 0, .int 0, .int 0])) :: (q61_20x, .inl (cB, 32768, .inl (fun _ => 0))) :: (q53_20x, .inl (cI, 4000, .inl (fun _ => 0))) :: (q44_20x, .inl (cI, 4000, .inl (fun _ => 0))) :: (q35_20x, .inl (cI, 4000, .inl (fun _ => 0))) :: (q26_20x, .inl (cI, 4000, .inl (fun _ => 0))) :: (q17_20x, .inl (cI, 4000, .inl (fun _ => 0))) :: (q8_20x, .inl (cB, 4000, .inl (fun _ => 0))) :: (q5x, .inr (4, [.ref q7_9x, .int 0])) :: (q7_9x, .inl (cB, 65536, .inl (fun _ => 0))) :: [])) H := pPD (pm_n (gm, .inr (7, [.int 0, .int 0, .null, .int 0, .null, .null, .null, .null, .null, .int 0, .null, .int 0, .null, .null, .int 0, .int 0, .int 0, .int 0, .int 0, .null, .int 0, .null, .int 0, .int 0, .int 0, .int 0, .int 0, .null, .int 0, .int 0, .null, .int 0, .int 0])) ((gx, .inr (6, [.ref q5x, .ref q16x, .ref q27x, .ref q46x])) :: (q46x, .inr (1, [.ref q16x, .ref q12_54x, .int 0, .ref q20_54x, .int 0, .ref q28_54x, .int 0, .int 0])) :: (q28_54x, .inl (cB, 65536, .inl (fun _ => 0))) :: (q20_54x, .inl (cB, 65536, .inl (fun _ => 0))) :: (q12_54x, .inl (cI, 100, .inl (fun _ => 0))) :: (q27x, .inr (2, [.ref q5x, .ref q16x, .ref q15_39x, .ref q28_39x, .ref q41_39x, .int 0, .int 0, .int 0, .int 0, .int 0, .int 0, .int 0, .int 0])) :: (q41_39x, .inl (cI, 100, .inl (fun _ => 0))) :: (q28_39x, .inr (0, [.int 0, .int 0])) :: (q15_39x, .inr (5, [.ref q5x, .ref q16x, .int 0, .int 0, .int 0, .int 0])) :: (q16x, .inr (3, [.ref q8_20x, .ref q17_20x, .ref q26_20x, .ref q35_20x, .ref q44_20x, .ref q53_20x, .ref q61_20x, .int 0, .int 0, .int 0, .int 0])) :: (q61_20x, .inl (cB, 32768, .inl (fun _ => 0))) :: (q53_20x, .inl (cI, 4000, .inl (fun _ => 0))) :: (q44_20x, .inl (cI, 4000, .inl (fun _ => 0))) :: (q35_20x, .inl (cI, 4000, .inl (fun _ => 0))) :: (q26_20x, .inl (cI, 4000, .inl (fun _ => 0))) :: (q17_20x, .inl (cI, 4000, .inl (fun _ => 0))) :: (q8_20x, .inl (cB, 4000, .inl (fun _ => 0))) :: (q5x, .inr (4, [.ref q7_9x, .int 0])) :: (q7_9x, .inl (cB, 65536, .inl (fun _ => 0))) :: [])) hP
  have hD : va_D (AN s.heap.size) ((gm, .inr (7, [.int 0, .int 0, .null, .int 0, .null, .null, .null, .null, .null, .int 0, .null, .int 0, .null, .null, .int 0, .int 0, .int 0, .int 0, .int 0, .null, .int 0, .null, .int 0, .int 0, .int 0, .int 0, .int 0, .null, .int 0, .int 0, .null, .int 0, .int 0])) :: ((gx, .inr (6, [.ref q5x, .ref q16x, .ref q27x, .ref q46x])) :: (q46x, .inr (1, [.ref q16x, .ref q12_54x, .int 0, .ref q20_54x, .int 0, .ref q28_54x, .int 0, .int 0])) :: (q28_54x, .inl (cB, 65536, .inl (fun _ => 0))) :: (q20_54x, .inl (cB, 65536, .inl (fun _ => 0))) :: (q12_54x, .inl (cI, 100, .inl (fun _ => 0))) :: (q27x, .inr (2, [.ref q5x, .ref q16x, .ref q15_39x, .ref q28_39x, .ref q41_39x, .int 0, .int 0, .int 0, .int 0, .int 0, .int 0, .int 0, .int 0])) :: (q41_39x, .inl (cI, 100, .inl (fun _ => 0))) :: (q28_39x, .inr (0, [.int 0, .int 0])) :: (q15_39x, .inr (5, [.ref q5x, .ref q16x, .int 0, .int 0, .int 0, .int 0])) :: (q16x, .inr (3, [.ref q8_20x, .ref q17_20x, .ref q26_20x, .ref q35_20x, .ref q44_20x, .ref q53_20x, .ref q61_20x, .int 0, .int 0, .int 0, .int 0])) :: (q61_20x, .inl (cB, 32768, .inl (fun _ => 0))) :: (q53_20x, .inl (cI, 4000, .inl (fun _ => 0))) :: (q44_20x, .inl (cI, 4000, .inl (fun _ => 0))) :: (q35_20x, .inl (cI, 4000, .inl (fun _ => 0))) :: (q26_20x, .inl (cI, 4000, .inl (fun _ => 0))) :: (q17_20x, .inl (cI, 4000, .inl (fun _ => 0))) :: (q8_20x, .inl (cB, 4000, .inl (fun _ => 0))) :: (q5x, .inr (4, [.ref q7_9x, .int 0])) :: (q7_9x, .inl (cB, 65536, .inl (fun _ => 0))) :: [])) := pD (pm_n (gm, .inr (7, [.int 0, .int 0, .null, .int 0, .null, .null, .null, .null, .null, .int 0, .null, .int 0, .null, .null, .int 0, .int 0, .int 0, .int 0, .int 0, .null, .int 0, .null, .int 0, .int 0, .int 0, .int 0, .int 0, .null, .int 0, .int 0, .null, .int 0, .int 0])) ((gx, .inr (6, [.ref q5x, .ref q16x, .ref q27x, .ref q46x])) :: (q46x, .inr (1, [.ref q16x, .ref q12_54x, .int 0, .ref q20_54x, .int 0, .ref q28_54x, .int 0, .int 0])) :: (q28_54x, .inl (cB, 65536, .inl (fun _ => 0))) :: (q20_54x, .inl (cB, 65536, .inl (fun _ => 0))) :: (q12_54x, .inl (cI, 100, .inl (fun _ => 0))) :: (q27x, .inr (2, [.ref q5x, .ref q16x, .ref q15_39x, .ref q28_39x, .ref q41_39x, .int 0, .int 0, .int 0, .int 0, .int 0, .int 0, .int 0, .int 0])) :: (q41_39x, .inl (cI, 100, .inl (fun _ => 0))) :: (q28_39x, .inr (0, [.int 0, .int 0])) :: (q15_39x, .inr (5, [.ref q5x, .ref q16x, .int 0, .int 0, .int 0, .int 0])) :: (q16x, .inr (3, [.ref q8_20x, .ref q17_20x, .ref q26_20x, .ref q35_20x, .ref q44_20x, .ref q53_20x, .ref q61_20x, .int 0, .int 0, .int 0, .int 0])) :: (q61_20x, .inl (cB, 32768, .inl (fun _ => 0))) :: (q53_20x, .inl (cI, 4000, .inl (fun _ => 0))) :: (q44_20x, .inl (cI, 4000, .inl (fun _ => 0))) :: (q35_20x, .inl (cI, 4000, .inl (fun _ => 0))) :: (q26_20x, .inl (cI, 4000, .inl (fun _ => 0))) :: (q17_20x, .inl (cI, 4000, .inl (fun _ => 0))) :: (q8_20x, .inl (cB, 4000, .inl (fun _ => 0))) :: (q5x, .inr (4, [.ref q7_9x, .int 0])) :: (q7_9x, .inl (cB, 65536, .inl (fun _ => 0))) :: [])) hD
  refine lv_dup hx hb (show decode code 11 = .ok (.dup, 1) by decide +kernel) rfl ?_
  refine kcall (va_runI (As := []) (rest := [.ref gm]) ⟨hx, hb, hml, hown, hts⟩ (i_X8 (N0 := s.heap.size) gm ((gx, .inr (6, [.ref q5x, .ref q16x, .ref q27x, .ref q46x])) :: (q46x, .inr (1, [.ref q16x, .ref q12_54x, .int 0, .ref q20_54x, .int 0, .ref q28_54x, .int 0, .int 0])) :: (q28_54x, .inl (cB, 65536, .inl (fun _ => 0))) :: (q20_54x, .inl (cB, 65536, .inl (fun _ => 0))) :: (q12_54x, .inl (cI, 100, .inl (fun _ => 0))) :: (q27x, .inr (2, [.ref q5x, .ref q16x, .ref q15_39x, .ref q28_39x, .ref q41_39x, .int 0, .int 0, .int 0, .int 0, .int 0, .int 0, .int 0, .int 0])) :: (q41_39x, .inl (cI, 100, .inl (fun _ => 0))) :: (q28_39x, .inr (0, [.int 0, .int 0])) :: (q15_39x, .inr (5, [.ref q5x, .ref q16x, .int 0, .int 0, .int 0, .int 0])) :: (q16x, .inr (3, [.ref q8_20x, .ref q17_20x, .ref q26_20x, .ref q35_20x, .ref q44_20x, .ref q53_20x, .ref q61_20x, .int 0, .int 0, .int 0, .int 0])) :: (q61_20x, .inl (cB, 32768, .inl (fun _ => 0))) :: (q53_20x, .inl (cI, 4000, .inl (fun _ => 0))) :: (q44_20x, .inl (cI, 4000, .inl (fun _ => 0))) :: (q35_20x, .inl (cI, 4000, .inl (fun _ => 0))) :: (q26_20x, .inl (cI, 4000, .inl (fun _ => 0))) :: (q17_20x, .inl (cI, 4000, .inl (fun _ => 0))) :: (q8_20x, .inl (cB, 4000, .inl (fun _ => 0))) :: (q5x, .inr (4, [.ref q7_9x, .int 0])) :: (q7_9x, .inl (cB, 65536, .inl (fun _ => 0))) :: [])) (cwI 0 hts (good_sub wI_X8) rfl rfl rfl (hts (.initialized RX8) (wi_L _ (by simp))) (hts (.methodLink R_law 56 yX8_init) (wi_L _ (by simp))) (hts (.instanceMethod yX8_init) (wi_L _ (by simp))) rfl (by decide +kernel) ⟨Nat.le_of_ble_eq_true rfl, Nat.le_of_ble_eq_true rfl⟩) ⟨Kp_blind, fun U hU hW => ⟨rfl, by rw [hU]; exact hS.1, by rw [hU]; exact hP, va_K.moved hW.alike hK, hD, va_Nw.warmM hW hNe⟩⟩ rfl rfl hl.1 rfl (lv_room (Nat.le_of_ble_eq_true rfl)) (show decode code 12 = .ok (.invokespecial 56, 3) by decide +kernel) ⟨Nat.le_of_ble_eq_true rfl, Nat.le_of_ble_eq_true rfl⟩) hS (fun t locs hB hvm hS => ?_)
  obtain ⟨q110m, q102m, q94m, q86m, q78m, q69m, q60m, q52m, q43m, q34m, q25m, q16m, q7m, hP, hD⟩ := hB
  generalize t.heap = H at hP hS ⊢
  have hP : va_P D vwCl ((gm, .inr (7, [.int 0, .int 0, .ref q7m, .int 0, .ref q16m, .ref q25m, .ref q34m, .ref q43m, .ref q52m, .int 0, .ref q60m, .int 0, .ref q69m, .ref q78m, .int 0, .int 0, .int 0, .int 0, .int 0, .ref q86m, .int 0, .ref q94m, .int 0, .int 0, .int 0, .int 0, .int 0, .ref q102m, .int 0, .int 0, .ref q110m, .int 0, .int 0])) :: (q110m, .inl (cI, 100, .inl (fun _ => 0))) :: (q102m, .inl (cI, 65536, .inl (fun _ => 0))) :: (q94m, .inl (cI, 65536, .inl (fun _ => 0))) :: (q86m, .inl (cI, 65536, .inl (fun _ => 0))) :: (q78m, .inl (cI, 4000, .inl (fun _ => 0))) :: (q69m, .inl (cI, 4000, .inl (fun _ => 0))) :: (q60m, .inl (cI, 32768, .inl (fun _ => 0))) :: (q52m, .inl (cI, 4000, .inl (fun _ => 0))) :: (q43m, .inl (cI, 4000, .inl (fun _ => 0))) :: (q34m, .inl (cI, 4000, .inl (fun _ => 0))) :: (q25m, .inl (cI, 4000, .inl (fun _ => 0))) :: (q16m, .inl (cI, 4000, .inl (fun _ => 0))) :: (q7m, .inl (cI, 65536, .inl (fun _ => 0))) :: ((gx, .inr (6, [.ref q5x, .ref q16x, .ref q27x, .ref q46x])) :: (q46x, .inr (1, [.ref q16x, .ref q12_54x, .int 0, .ref q20_54x, .int 0, .ref q28_54x, .int 0, .int 0])) :: (q28_54x, .inl (cB, 65536, .inl (fun _ => 0))) :: (q20_54x, .inl (cB, 65536, .inl (fun _ => 0))) :: (q12_54x, .inl (cI, 100, .inl (fun _ => 0))) :: (q27x, .inr (2, [.ref q5x, .ref q16x, .ref q15_39x, .ref q28_39x, .ref q41_39x, .int 0, .int 0, .int 0, .int 0, .int 0, .int 0, .int 0, .int 0])) :: (q41_39x, .inl (cI, 100, .inl (fun _ => 0))) :: (q28_39x, .inr (0, [.int 0, .int 0])) :: (q15_39x, .inr (5, [.ref q5x, .ref q16x, .int 0, .int 0, .int 0, .int 0])) :: (q16x, .inr (3, [.ref q8_20x, .ref q17_20x, .ref q26_20x, .ref q35_20x, .ref q44_20x, .ref q53_20x, .ref q61_20x, .int 0, .int 0, .int 0, .int 0])) :: (q61_20x, .inl (cB, 32768, .inl (fun _ => 0))) :: (q53_20x, .inl (cI, 4000, .inl (fun _ => 0))) :: (q44_20x, .inl (cI, 4000, .inl (fun _ => 0))) :: (q35_20x, .inl (cI, 4000, .inl (fun _ => 0))) :: (q26_20x, .inl (cI, 4000, .inl (fun _ => 0))) :: (q17_20x, .inl (cI, 4000, .inl (fun _ => 0))) :: (q8_20x, .inl (cB, 4000, .inl (fun _ => 0))) :: (q5x, .inr (4, [.ref q7_9x, .int 0])) :: (q7_9x, .inl (cB, 65536, .inl (fun _ => 0))) :: [])) H := hP
  have hD : va_D (AN s.heap.size) ((gm, .inr (7, [.int 0, .int 0, .ref q7m, .int 0, .ref q16m, .ref q25m, .ref q34m, .ref q43m, .ref q52m, .int 0, .ref q60m, .int 0, .ref q69m, .ref q78m, .int 0, .int 0, .int 0, .int 0, .int 0, .ref q86m, .int 0, .ref q94m, .int 0, .int 0, .int 0, .int 0, .int 0, .ref q102m, .int 0, .int 0, .ref q110m, .int 0, .int 0])) :: (q110m, .inl (cI, 100, .inl (fun _ => 0))) :: (q102m, .inl (cI, 65536, .inl (fun _ => 0))) :: (q94m, .inl (cI, 65536, .inl (fun _ => 0))) :: (q86m, .inl (cI, 65536, .inl (fun _ => 0))) :: (q78m, .inl (cI, 4000, .inl (fun _ => 0))) :: (q69m, .inl (cI, 4000, .inl (fun _ => 0))) :: (q60m, .inl (cI, 32768, .inl (fun _ => 0))) :: (q52m, .inl (cI, 4000, .inl (fun _ => 0))) :: (q43m, .inl (cI, 4000, .inl (fun _ => 0))) :: (q34m, .inl (cI, 4000, .inl (fun _ => 0))) :: (q25m, .inl (cI, 4000, .inl (fun _ => 0))) :: (q16m, .inl (cI, 4000, .inl (fun _ => 0))) :: (q7m, .inl (cI, 65536, .inl (fun _ => 0))) :: ((gx, .inr (6, [.ref q5x, .ref q16x, .ref q27x, .ref q46x])) :: (q46x, .inr (1, [.ref q16x, .ref q12_54x, .int 0, .ref q20_54x, .int 0, .ref q28_54x, .int 0, .int 0])) :: (q28_54x, .inl (cB, 65536, .inl (fun _ => 0))) :: (q20_54x, .inl (cB, 65536, .inl (fun _ => 0))) :: (q12_54x, .inl (cI, 100, .inl (fun _ => 0))) :: (q27x, .inr (2, [.ref q5x, .ref q16x, .ref q15_39x, .ref q28_39x, .ref q41_39x, .int 0, .int 0, .int 0, .int 0, .int 0, .int 0, .int 0, .int 0])) :: (q41_39x, .inl (cI, 100, .inl (fun _ => 0))) :: (q28_39x, .inr (0, [.int 0, .int 0])) :: (q15_39x, .inr (5, [.ref q5x, .ref q16x, .int 0, .int 0, .int 0, .int 0])) :: (q16x, .inr (3, [.ref q8_20x, .ref q17_20x, .ref q26_20x, .ref q35_20x, .ref q44_20x, .ref q53_20x, .ref q61_20x, .int 0, .int 0, .int 0, .int 0])) :: (q61_20x, .inl (cB, 32768, .inl (fun _ => 0))) :: (q53_20x, .inl (cI, 4000, .inl (fun _ => 0))) :: (q44_20x, .inl (cI, 4000, .inl (fun _ => 0))) :: (q35_20x, .inl (cI, 4000, .inl (fun _ => 0))) :: (q26_20x, .inl (cI, 4000, .inl (fun _ => 0))) :: (q17_20x, .inl (cI, 4000, .inl (fun _ => 0))) :: (q8_20x, .inl (cB, 4000, .inl (fun _ => 0))) :: (q5x, .inr (4, [.ref q7_9x, .int 0])) :: (q7_9x, .inl (cB, 65536, .inl (fun _ => 0))) :: [])) := hD
  refine lv_astore_n (nL := 7) hx hb (k := 2) (show decode code 15 = .ok (.astore_n 2, 1) by decide +kernel) rfl hl (by decide) rfl (fun ls hl => ?_)
  have hl : lv_has ls 7 [(2, .ref gm), (1, .ref gx), (0, .ref b)] := hl
  refine lv_iconst hx hb (v := 1) (show decode code 16 = .ok (.iconst 1, 1) by decide +kernel) rfl ?_
  refine va_newa (atype := .long) (ty := .long) (n := 1) (N' := 1) (a0 := (1, .inr (.inl (fun _ => 0)))) hx hb (hts (.arrayClass .long) (wi_L _ (by simp))) rfl hK hP hD hS hA (fun _ => rfl) (by decide) (by decide) (by decide) (Nat.le_of_ble_eq_true rfl) (Nat.le_of_ble_eq_true rfl) (show decode code 17 = .ok (.newarray .long, 2) by decide +kernel) (fun go cA H hK2 hP hD hS => ?_)
  obtain rfl : cJ = cA := ra_uniq (ty := .long) (by intro C h; cases h) (hK.2 2 _ rfl).2 (hK2.2 3 _ rfl).2
  refine lv_astore_n (nL := 7) hx hb (k := 3) (show decode code 19 = .ok (.astore_n 3, 1) by decide +kernel) rfl hl (by decide) rfl (fun ls hl => ?_)
  have hl : lv_has ls 7 [(3, .ref go), (2, .ref gm), (1, .ref gx), (0, .ref b)] := hl
  refine lv_iconst hx hb (v := 0) (show decode code 20 = .ok (.iconst 0, 1) by decide +kernel) rfl ?_
  refine lv_istore (nL := 7) hx hb (show decode code 21 = .ok (.istore 4, 2) by decide +kernel) hl (by decide) rfl (fun ls hl => ?_)
  have hl : lv_has ls 7 [(4, .int 0), (3, .ref go), (2, .ref gm), (1, .ref gx), (0, .ref b)] := hl
  let ga : Nat → Nat := fun j => if j < 34 then ([gx, q5x, q16x, q27x, q15_39x, q28_39x, q46x, gm, q7_9x, q8_20x, q17_20x, q26_20x, q35_20x, q44_20x, q53_20x, q61_20x, q41_39x, q12_54x, q20_54x, q28_54x, q7m, q16m, q25m, q34m, q43m, q52m, q60m, q69m, q78m, q86m, q94m, q102m, q110m, go] : List Nat).getD j 0 else if j = 50 then b else a0 j
  have hga : ga = fun j => if j < 34 then ([gx, q5x, q16x, q27x, q15_39x, q28_39x, q46x, gm, q7_9x, q8_20x, q17_20x, q26_20x, q35_20x, q44_20x, q53_20x, q61_20x, q41_39x, q12_54x, q20_54x, q28_54x, q7m, q16m, q25m, q34m, q43m, q52m, q60m, q69m, q78m, q86m, q94m, q102m, q110m, go] : List Nat).getD j 0 else if j = 50 then b else a0 j := rfl
  clear_value ga
  have ga0 : ga 0 = gx := by rw [hga]; rfl
  have ga1 : ga 1 = q5x := by rw [hga]; rfl
  have ga2 : ga 2 = q16x := by rw [hga]; rfl
  have ga3 : ga 3 = q27x := by rw [hga]; rfl
  have ga4 : ga 4 = q15_39x := by rw [hga]; rfl
  have ga5 : ga 5 = q28_39x := by rw [hga]; rfl
  have ga6 : ga 6 = q46x := by rw [hga]; rfl
  have ga7 : ga 7 = gm := by rw [hga]; rfl
  have ga8 : ga 8 = q7_9x := by rw [hga]; rfl
  have ga9 : ga 9 = q8_20x := by rw [hga]; rfl
  have ga10 : ga 10 = q17_20x := by rw [hga]; rfl
  have ga11 : ga 11 = q26_20x := by rw [hga]; rfl
  have ga12 : ga 12 = q35_20x := by rw [hga]; rfl
  have ga13 : ga 13 = q44_20x := by rw [hga]; rfl
  have ga14 : ga 14 = q53_20x := by rw [hga]; rfl
  have ga15 : ga 15 = q61_20x := by rw [hga]; rfl
  have ga16 : ga 16 = q41_39x := by rw [hga]; rfl
  have ga17 : ga 17 = q12_54x := by rw [hga]; rfl
  have ga18 : ga 18 = q20_54x := by rw [hga]; rfl
  have ga19 : ga 19 = q28_54x := by rw [hga]; rfl
  have ga20 : ga 20 = q7m := by rw [hga]; rfl
  have ga21 : ga 21 = q16m := by rw [hga]; rfl
  have ga22 : ga 22 = q25m := by rw [hga]; rfl
  have ga23 : ga 23 = q34m := by rw [hga]; rfl
  have ga24 : ga 24 = q43m := by rw [hga]; rfl
  have ga25 : ga 25 = q52m := by rw [hga]; rfl
  have ga26 : ga 26 = q60m := by rw [hga]; rfl
  have ga27 : ga 27 = q69m := by rw [hga]; rfl
  have ga28 : ga 28 = q78m := by rw [hga]; rfl
  have ga29 : ga 29 = q86m := by rw [hga]; rfl
  have ga30 : ga 30 = q94m := by rw [hga]; rfl
  have ga31 : ga 31 = q102m := by rw [hga]; rfl
  have ga32 : ga 32 = q110m := by rw [hga]; rfl
  have ga33 : ga 33 = go := by rw [hga]; rfl
  have ga50 : ga 50 = b := by rw [hga]; rfl
  have hst : Stt ga s.heap.size s s.heap := hSt ga (fun j h1 h2 => by rw [hga]; simp only; rw [if_neg (by omega), if_neg (by omega)]) (fun j h1 => by rw [hga]; simp only; rw [if_neg (by omega), if_neg (by omega)])
  have hcel : ∀ i, i < 34 → (((gm, .inr (7, [.int 0, .int 0, .ref q7m, .int 0, .ref q16m, .ref q25m, .ref q34m, .ref q43m, .ref q52m, .int 0, .ref q60m, .int 0, .ref q69m, .ref q78m, .int 0, .int 0, .int 0, .int 0, .int 0, .ref q86m, .int 0, .ref q94m, .int 0, .int 0, .int 0, .int 0, .int 0, .ref q102m, .int 0, .int 0, .ref q110m, .int 0, .int 0])) :: (q110m, .inl (cI, 100, .inl (fun _ => 0))) :: (q102m, .inl (cI, 65536, .inl (fun _ => 0))) :: (q94m, .inl (cI, 65536, .inl (fun _ => 0))) :: (q86m, .inl (cI, 65536, .inl (fun _ => 0))) :: (q78m, .inl (cI, 4000, .inl (fun _ => 0))) :: (q69m, .inl (cI, 4000, .inl (fun _ => 0))) :: (q60m, .inl (cI, 32768, .inl (fun _ => 0))) :: (q52m, .inl (cI, 4000, .inl (fun _ => 0))) :: (q43m, .inl (cI, 4000, .inl (fun _ => 0))) :: (q34m, .inl (cI, 4000, .inl (fun _ => 0))) :: (q25m, .inl (cI, 4000, .inl (fun _ => 0))) :: (q16m, .inl (cI, 4000, .inl (fun _ => 0))) :: (q7m, .inl (cI, 65536, .inl (fun _ => 0))) :: ((gx, .inr (6, [.ref q5x, .ref q16x, .ref q27x, .ref q46x])) :: (q46x, .inr (1, [.ref q16x, .ref q12_54x, .int 0, .ref q20_54x, .int 0, .ref q28_54x, .int 0, .int 0])) :: (q28_54x, .inl (cB, 65536, .inl (fun _ => 0))) :: (q20_54x, .inl (cB, 65536, .inl (fun _ => 0))) :: (q12_54x, .inl (cI, 100, .inl (fun _ => 0))) :: (q27x, .inr (2, [.ref q5x, .ref q16x, .ref q15_39x, .ref q28_39x, .ref q41_39x, .int 0, .int 0, .int 0, .int 0, .int 0, .int 0, .int 0, .int 0])) :: (q41_39x, .inl (cI, 100, .inl (fun _ => 0))) :: (q28_39x, .inr (0, [.int 0, .int 0])) :: (q15_39x, .inr (5, [.ref q5x, .ref q16x, .int 0, .int 0, .int 0, .int 0])) :: (q16x, .inr (3, [.ref q8_20x, .ref q17_20x, .ref q26_20x, .ref q35_20x, .ref q44_20x, .ref q53_20x, .ref q61_20x, .int 0, .int 0, .int 0, .int 0])) :: (q61_20x, .inl (cB, 32768, .inl (fun _ => 0))) :: (q53_20x, .inl (cI, 4000, .inl (fun _ => 0))) :: (q44_20x, .inl (cI, 4000, .inl (fun _ => 0))) :: (q35_20x, .inl (cI, 4000, .inl (fun _ => 0))) :: (q26_20x, .inl (cI, 4000, .inl (fun _ => 0))) :: (q17_20x, .inl (cI, 4000, .inl (fun _ => 0))) :: (q8_20x, .inl (cB, 4000, .inl (fun _ => 0))) :: (q5x, .inr (4, [.ref q7_9x, .int 0])) :: (q7_9x, .inl (cB, 65536, .inl (fun _ => 0))) :: [])) ++ [(go, .inl (cJ, 1, .inr (.inl (fun _ => 0))))] : va_W)[pi0 i]? = some (ga i, cel ga cI cB cJ sg0 i) := by
    intro i hi
    match i, hi with
    | 0, _ => rw [ga0]; show _ = some (_, Sum.inr (oc 0, fvs ga sg0 0)); rw [show fvs ga sg0 0 = [.ref q5x, .ref q16x, .ref q27x, .ref q46x] from by simp [fvs, fl, fg, fv, sg0, List.range, List.range.loop, ga1, ga2, ga3, ga6]]; rfl
    | 1, _ => rw [ga1]; show _ = some (_, Sum.inr (oc 1, fvs ga sg0 1)); rw [show fvs ga sg0 1 = [.ref q7_9x, .int 0] from by simp [fvs, fl, fg, fv, sg0, List.range, List.range.loop, ga8]]; rfl
    | 2, _ => rw [ga2]; show _ = some (_, Sum.inr (oc 2, fvs ga sg0 2)); rw [show fvs ga sg0 2 = [.ref q8_20x, .ref q17_20x, .ref q26_20x, .ref q35_20x, .ref q44_20x, .ref q53_20x, .ref q61_20x, .int 0, .int 0, .int 0, .int 0] from by simp [fvs, fl, fg, fv, sg0, List.range, List.range.loop, ga9, ga10, ga11, ga12, ga13, ga14, ga15]]; rfl
    | 3, _ => rw [ga3]; show _ = some (_, Sum.inr (oc 3, fvs ga sg0 3)); rw [show fvs ga sg0 3 = [.ref q5x, .ref q16x, .ref q15_39x, .ref q28_39x, .ref q41_39x, .int 0, .int 0, .int 0, .int 0, .int 0, .int 0, .int 0, .int 0] from by simp [fvs, fl, fg, fv, sg0, List.range, List.range.loop, ga1, ga2, ga4, ga5, ga16]]; rfl
    | 4, _ => rw [ga4]; show _ = some (_, Sum.inr (oc 4, fvs ga sg0 4)); rw [show fvs ga sg0 4 = [.ref q5x, .ref q16x, .int 0, .int 0, .int 0, .int 0] from by simp [fvs, fl, fg, fv, sg0, List.range, List.range.loop, ga1, ga2]]; rfl
    | 5, _ => rw [ga5]; show _ = some (_, Sum.inr (oc 5, fvs ga sg0 5)); rw [show fvs ga sg0 5 = [.int 0, .int 0] from by simp [fvs, fl, fg, fv, sg0, List.range, List.range.loop]]; rfl
    | 6, _ => rw [ga6]; show _ = some (_, Sum.inr (oc 6, fvs ga sg0 6)); rw [show fvs ga sg0 6 = [.ref q16x, .ref q12_54x, .int 0, .ref q20_54x, .int 0, .ref q28_54x, .int 0, .int 0] from by simp [fvs, fl, fg, fv, sg0, List.range, List.range.loop, ga2, ga17, ga18, ga19]]; rfl
    | 7, _ => rw [ga7]; show _ = some (_, Sum.inr (oc 7, fvs ga sg0 7)); rw [show fvs ga sg0 7 = [.int 0, .int 0, .ref q7m, .int 0, .ref q16m, .ref q25m, .ref q34m, .ref q43m, .ref q52m, .int 0, .ref q60m, .int 0, .ref q69m, .ref q78m, .int 0, .int 0, .int 0, .int 0, .int 0, .ref q86m, .int 0, .ref q94m, .int 0, .int 0, .int 0, .int 0, .int 0, .ref q102m, .int 0, .int 0, .ref q110m, .int 0, .int 0] from by simp [fvs, fl, fg, fv, sg0, List.range, List.range.loop, ga20, ga21, ga22, ga23, ga24, ga25, ga26, ga27, ga28, ga29, ga30, ga31, ga32]]; rfl
    | 8, _ => rw [ga8]; rfl
    | 9, _ => rw [ga9]; rfl
    | 10, _ => rw [ga10]; rfl
    | 11, _ => rw [ga11]; rfl
    | 12, _ => rw [ga12]; rfl
    | 13, _ => rw [ga13]; rfl
    | 14, _ => rw [ga14]; rfl
    | 15, _ => rw [ga15]; rfl
    | 16, _ => rw [ga16]; rfl
    | 17, _ => rw [ga17]; rfl
    | 18, _ => rw [ga18]; rfl
    | 19, _ => rw [ga19]; rfl
    | 20, _ => rw [ga20]; rfl
    | 21, _ => rw [ga21]; rfl
    | 22, _ => rw [ga22]; rfl
    | 23, _ => rw [ga23]; rfl
    | 24, _ => rw [ga24]; rfl
    | 25, _ => rw [ga25]; rfl
    | 26, _ => rw [ga26]; rfl
    | 27, _ => rw [ga27]; rfl
    | 28, _ => rw [ga28]; rfl
    | 29, _ => rw [ga29]; rfl
    | 30, _ => rw [ga30]; rfl
    | 31, _ => rw [ga31]; rfl
    | 32, _ => rw [ga32]; rfl
    | 33, _ => rw [ga33]; rfl
    | n + 34, h => exact absurd h (by omega)
  obtain ⟨hP2, hD2⟩ := wld_of pi0 hcel pi0_inj hP hD
  have C1 : Cx p s m #[Value.ref b] c code 7 s.heap.size ga D cI cB cJ "SheetObjectsLaw" := ⟨hx, hb, hml, hown, hts, hK, fun σ => wld_D hD2 σ, hst, Nat.le_refl _⟩
  have hI := law_sound (e := e) (below := below) hl0 C1 hr hlocks hNc hX ga50 hbl
  have hfin := hlaw L xs hL _ hI (by decide) H _ ls hP2 hS ?_
  · exact W.widen (k := 100000) (n := 600000) (by omega) (by omega) hfin
  · refine ⟨rfl, hl.1, hl.2.1, fun i v hv => ?_⟩
    match i, hv with
    | 0, hv => cases hv; show _ = some (Slot.val (.ref (ga _))); rw [ga50]; exact hl.2.2 (0, .ref b) (by simp)
    | 1, hv => cases hv; show _ = some (Slot.val (.ref (ga _))); rw [ga0]; exact hl.2.2 (1, .ref gx) (by simp)
    | 2, hv => cases hv; show _ = some (Slot.val (.ref (ga _))); rw [ga7]; exact hl.2.2 (2, .ref gm) (by simp)
    | 3, hv => cases hv; show _ = some (Slot.val (.ref (ga _))); rw [ga33]; exact hl.2.2 (3, .ref go) (by simp)
    | 4, hv => cases hv; exact hl.2.2 (4, .int 0) (by simp)
    | 5, hv => cases hv
    | 6, hv => cases hv
    | n + 7, hv => cases hv
