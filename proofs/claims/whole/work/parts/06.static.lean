/-! ===== what stands fast: statics, string constants; the words that all methods share ===== -/
def Tw : List Cond := lw_tbl.filter goodWord
theorem tw_in {w : Cond} (h : w ∈ lw_tbl) (hg : goodWord w = true) : w ∈ Tw := List.mem_filter.mpr ⟨h, hg⟩
theorem tw_good : ∀ w ∈ Tw, (w.onTables && w.keeps) = true ∨ ∃ ty, w = .arrayClass ty := fun _ h => good_of_word (List.mem_filter.mp h).2
def wn (w : Nat) : String := match w with
  | 40 => "NULL_WORD"
  | 41 => "TRUE_WORD"
  | 42 => "FALSE_WORD"
  | 43 => "REFERENCE_WORD"
  | 44 => "BEGIN_WORD"
  | 45 => "END_WORD"
  | _ => "STREAM_WORD"
/-- the model's string constants: entry, text, cell -/
def strT : List (Nat × String × Nat) := [(205, "null", 60), (207, "true", 61), (209, "false", 62), (186, "R", 63), (253, "obj", 64), (262, "endobj", 65), (264, "stream", 66), (312, "[", 67), (314, "<<", 68), (316, " R", 69), (318, "]", 70), (320, ">>", 71)]
def bytS : List (List Int32) := [[110, 117, 108, 108], [116, 114, 117, 101], [102, 97, 108, 115, 101], [82], [111, 98, 106], [101, 110, 100, 111, 98, 106], [115, 116, 114, 101, 97, 109], [91], [60, 60], [32, 82], [93], [62, 62]]
def lenS : List Nat := [4, 4, 5, 1, 3, 6, 6, 1, 2, 2, 1, 2]
def exT : List (Nat × String) := [(52, "the tape has no such byte"), (59, "a byte is 0 .. 255"), (66, "less than no bytes"), (169, "the tape has no such place"), (175, "the store has no such node"), (150, "less than no nodes"), (158, "in the midst of an object")]
def isNest (w : Cond) : Bool := match w with
  | .fieldLinkNest _ _ _ _ _ _ => true
  | .castable _ _ => true
  | .declares _ => true
  | _ => false
abbrev AN (N0 : Nat) : Nat → Prop := fun q => N0 ≤ q
def Stt (a : Nat → Nat) (N0 : Nat) (U : State) (H : Heap) : Prop :=
  (∀ w, 40 ≤ w → w < 47 → va_Z "SheetObjects" (wn w) "[B" (.ref (a w)) (AN N0) U H ∧ va_T .byte (a w) (ak w).2 (fun i => .int ((wb w).getD i 0)) (AN N0) U H) ∧
  vk_S 12 lenS bytS (fun i => a (60 + i)) (fun i => a (80 + i)) (AN N0) U H ∧
  (∀ q ∈ strT, vk_R "SheetObjectsModel" q.1 q.2.1 (a q.2.2) U) ∧
  (∀ q ∈ exT, ∃ sa, vk_R "SheetObjects" q.1 q.2 sa U) ∧
  va_Z "java/lang/String" "COMPACT_STRINGS" "Z" (.int 1) (AN N0) U H ∧
  vx_Zq Bundle.tN "UNASSIGNED_STACK" Bundle.steD (AN N0) U H ∧ vx_Zq Bundle.tN "SUPPRESSED_SENTINEL" Bundle.listD (AN N0) U H ∧
  va_Zq "jdk/internal/util/Preconditions" "SIOOBE_FORMATTER" "Ljava/util/function/BiFunction;" (AN N0) U H ∧
  (∀ w ∈ lw_tbl, isNest w = true → va_Nw w U)
theorem nest_warm {w : Cond} {s U : State} (hn : isNest w = true) (hW : s.WarmedH U.vm) (h : va_Nw w s) : va_Nw w U := by
  cases w <;> first | exact h.warmF hW | exact h.warmC hW | exact h.warmD hW | (simp [isNest] at hn)
theorem nest_tab {w : Cond} (hn : isNest w = true) : w.onTables = true := by
  cases w <;> first | rfl | (simp [isNest] at hn)
theorem Stt.kept {a : Nat → Nat} {N0 : Nat} {U : State} {H H1 : Heap} (h : Stt a N0 U H) (hq : ∀ q : Nat, q < H.size → ¬ AN N0 q → H1[q]? = H[q]?) : Stt a N0 U H1 := by
  obtain ⟨h1, h2, h3, h4, h5, h6, h7, h8, h9⟩ := h
  exact ⟨fun w g1 g2 => ⟨(h1 w g1 g2).1.kept hq, (h1 w g1 g2).2.kept hq⟩, h2.kept hq, h3, h4, h5.kept hq, h6.kept hq, h7.kept hq, h8.kept hq, h9⟩
theorem Stt.warm {a : Nat → Nat} {N0 : Nat} {s U : State} {H : Heap} (hW : s.WarmedH U.vm) (h : Stt a N0 s H) : Stt a N0 U H := by
  obtain ⟨h1, h2, h3, h4, h5, h6, h7, h8, h9⟩ := h
  have hv := hW.alike
  refine ⟨fun w g1 g2 => ⟨va_Z.moved hv (h1 w g1 g2).1, va_T.moved hv (h1 w g1 g2).2⟩, vk_S.moved hv h2, fun q hq => (h3 q hq).warm hW, fun q hq => ?_, va_Z.moved hv h5, vx_Zq.moved hv h6, vx_Zq.moved hv h7, va_Zq.moved hv h8, fun w hw hn => nest_warm hn hW (h9 w hw hn)⟩
  obtain ⟨sa, hs⟩ := h4 q hq
  exact ⟨sa, hs.warm hW⟩
theorem Stt.same {a : Nat → Nat} {N0 : Nat} {s U : State} {H : Heap} (hv : U.vm = s.vm) (h : Stt a N0 s H) : Stt a N0 U H := by
  obtain ⟨h1, h2, h3, h4, h5, h6, h7, h8, h9⟩ := h
  have ha : s.vm.Alike U.vm := by rw [hv]; exact Vm.Alike.refl _
  refine ⟨fun w g1 g2 => ⟨va_Z.moved ha (h1 w g1 g2).1, va_T.moved ha (h1 w g1 g2).2⟩, vk_S.moved ha h2, fun q hq => (h3 q hq).same hv, fun q hq => ?_, va_Z.moved ha h5, vx_Zq.moved ha h6, vx_Zq.moved ha h7, va_Zq.moved ha h8, fun w hw hn => (h9 w hw hn).same (nest_tab hn) hv.symm⟩
  obtain ⟨sa, hs⟩ := h4 q hq
  exact ⟨sa, hs.same hv⟩
/-! the classes of the cells -/
theorem tw_all {ws : List Cond} (h : ws.all (fun w => decide (w ∈ lw_tbl) && goodWord w) = true) : ∀ w ∈ ws, w ∈ Tw := by
  intro w hw
  have h1 := List.all_eq_true.mp h w hw
  simp only [Bool.and_eq_true, decide_eq_true_eq] at h1
  exact tw_in h1.1 h1.2
def kdOk (q : Nat × Nat) (d : String) : Bool := match q.1 with
  | 0 => d == "I"
  | 1 => d == "Z"
  | 3 => d == "[B"
  | _ => true
def Ci (j : Nat) (C : String) (T : u_T) (N : Nat) (ty0 : Nat → FieldType) : Prop :=
  vwCl[oc j]? = some (C, T, N) ∧ (fl j).length = N ∧ (∀ w ∈ u_ws C T N, w ∈ Tw) ∧ (∀ k, k < N → parseFieldDescriptor (T k).2.2.1 = some (ty0 k)) ∧ (∀ a, a < N → ∀ b, b < N → a ≠ b → (T a).2.1 ≠ (T b).2.1) ∧ ∀ k, k < N → kdOk (fg (fl j) k) (T k).2.2.1 = true
set_option maxRecDepth 100000 in
theorem twX1 : ∀ w ∈ u_ws RX1 TX1 2, w ∈ Tw := tw_all (by decide +kernel)
set_option maxRecDepth 100000 in
theorem twX2 : ∀ w ∈ u_ws RX2 TX2 8, w ∈ Tw := tw_all (by decide +kernel)
set_option maxRecDepth 100000 in
theorem twX3 : ∀ w ∈ u_ws RX3 TX3 13, w ∈ Tw := tw_all (by decide +kernel)
set_option maxRecDepth 100000 in
theorem twX4 : ∀ w ∈ u_ws RX4 TX4 11, w ∈ Tw := tw_all (by decide +kernel)
set_option maxRecDepth 100000 in
theorem twX5 : ∀ w ∈ u_ws RX5 TX5 2, w ∈ Tw := tw_all (by decide +kernel)
set_option maxRecDepth 100000 in
theorem twX6 : ∀ w ∈ u_ws RX6 TX6 6, w ∈ Tw := tw_all (by decide +kernel)
set_option maxRecDepth 100000 in
theorem twX7 : ∀ w ∈ u_ws RX7 TX7 4, w ∈ Tw := tw_all (by decide +kernel)
set_option maxRecDepth 100000 in
theorem twX8 : ∀ w ∈ u_ws RX8 TX8 33, w ∈ Tw := tw_all (by decide +kernel)
theorem cinfo {j : Nat} (hj : j < 8) : ∃ (C : String) (T : u_T) (N : Nat) (ty0 : Nat → FieldType), Ci j C T N ty0 := by
  match j, hj with
  | 0, _ => exact ⟨RX7, TX7, 4, tyX7, rfl, rfl, twX7, tyX7_ok, nmX7, by decide +kernel⟩
  | 1, _ => exact ⟨RX5, TX5, 2, tyX5, rfl, rfl, twX5, tyX5_ok, nmX5, by decide +kernel⟩
  | 2, _ => exact ⟨RX4, TX4, 11, tyX4, rfl, rfl, twX4, tyX4_ok, nmX4, by decide +kernel⟩
  | 3, _ => exact ⟨RX3, TX3, 13, tyX3, rfl, rfl, twX3, tyX3_ok, nmX3, by decide +kernel⟩
  | 4, _ => exact ⟨RX6, TX6, 6, tyX6, rfl, rfl, twX6, tyX6_ok, nmX6, by decide +kernel⟩
  | 5, _ => exact ⟨RX1, TX1, 2, tyX1, rfl, rfl, twX1, tyX1_ok, nmX1, by decide +kernel⟩
  | 6, _ => exact ⟨RX2, TX2, 8, tyX2, rfl, rfl, twX2, tyX2_ok, nmX2, by decide +kernel⟩
  | 7, _ => exact ⟨RX8, TX8, 33, tyX8, rfl, rfl, twX8, tyX8_ok, nmX8, by decide +kernel⟩
theorem oc_j {j : Nat} (h : oc j < 8) : j < 8 ∧ (ak j).1 = 0 := by
  unfold oc at h
  split at h <;> first | exact ⟨by omega, rfl⟩ | (exfalso; omega)
theorem ak_big {j : Nat} (h : 47 ≤ j) : ak j = (0, 0) := by
  unfold ak
  split <;> first | rfl | (exfalso; omega)
theorem ak_in {j : Nat} (h : (ak j).1 = 1 ∨ (ak j).1 = 2 ∨ (ak j).1 = 3) : j < 34 := by
  have key : ∀ j, j < 47 → ((ak j).1 = 1 ∨ (ak j).1 = 2 ∨ (ak j).1 = 3) → j < 34 := by decide +kernel
  by_cases hj : j < 47
  · exact key j hj h
  · rw [ak_big (by omega)] at h; simp at h
theorem ak_st {j : Nat} (h : (ak j).1 = 4) : 40 ≤ j ∧ j < 47 := by
  have key : ∀ j, j < 47 → (ak j).1 = 4 → 40 ≤ j := by decide +kernel
  by_cases hj : j < 47
  · exact ⟨key j hj h, hj⟩
  · rw [ak_big (by omega)] at h; simp at h
theorem ak_no (j : Nat) : (ak j).1 = 0 ∨ ((ak j).1 = 1 ∨ (ak j).1 = 2 ∨ (ak j).1 = 3) ∨ (ak j).1 = 4 := by
  have key : ∀ j, j < 47 → (ak j).1 = 0 ∨ ((ak j).1 = 1 ∨ (ak j).1 = 2 ∨ (ak j).1 = 3) ∨ (ak j).1 = 4 := by decide +kernel
  by_cases hj : j < 47
  · exact key j hj
  · rw [ak_big (by omega)]; exact Or.inl rfl
theorem fg_lt {L : List (Nat × Nat)} {k : Nat} (h : (fg L k).1 ≠ 9) : k < L.length := by
  induction L generalizing k with
  | nil => simp [fg] at h
  | cons x xs ih => cases k with
    | zero => simp
    | succ n => simp only [fg] at h; have := ih h; simp; omega
