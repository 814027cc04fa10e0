/-! ===== call sites by a list; Math, arraycopy, throws ===== -/
def isInv (i : Instr) : Bool := match i with
  | .invokevirtual _ => true
  | .invokestatic _ => true
  | _ => false
def isNew (i : Instr) : Bool := match i with
  | .new _ => true
  | _ => false
def sws0 : Nat → List (Int32 × Nat) := fun _ => []
def xn0 : Nat → String := fun _ => ""
section Jdk
variable {l : Launch} {N0 : Nat} {a : Nat → Nat} {D : va_G} {cI cB cJ : ClassId} {own : String} {cc : ByteArray} {nL f lo mc : Nat} {tb : Nat → Option Ent} {ce : Nat → Nat × Ct} {xn : Nat → String}
theorem cp1 {pc : Nat} {i0 : Instr} {x0 y0 : Nat} {c0 : Int32} {d0 : Int64} (he : tb pc = some (i0, x0, y0, c0, d0)) (h : decode cc pc = .ok (i0, 3) → CallS l N0 a D cI cB cJ own cc nL (rmO f lo mc) mc pc y0 (ce x0).1 (ce x0).2) :
    ∀ i x yy c' d, tb pc = some (i, x, yy, c', d) → decode cc pc = .ok (i, 3) → CallS l N0 a D cI cB cJ own cc nL (rmO f lo mc) mc pc yy (ce x).1 (ce x).2 := by
  intro i x yy c' d h1 h2
  rw [he] at h1
  cases h1
  exact h h2
theorem calls_of {cl : List Nat} (h1 : ∀ pc en, tb pc = some en → (!(isInv en.1) || decide (pc ∈ cl)) = true) (h2 : ∀ pc ∈ cl, ∀ i x yy c' d, tb pc = some (i, x, yy, c', d) → decode cc pc = .ok (i, 3) → CallS l N0 a D cI cB cJ own cc nL (rmO f lo mc) mc pc yy (ce x).1 (ce x).2) :
    ∀ pc i x yy c' d, tb pc = some (i, x, yy, c', d) → (∃ k, i = .invokevirtual k ∨ i = .invokestatic k) → decode cc pc = .ok (i, 3) → CallS l N0 a D cI cB cJ own cc nL (rmO f lo mc) mc pc yy (ce x).1 (ce x).2 := by
  intro pc i x yy c' d hE hi hd
  have h := h1 pc _ hE
  have hin : pc ∈ cl := by
    obtain ⟨k, rfl | rfl⟩ := hi <;> simpa [isInv] using h
  exact h2 pc hin i x yy c' d hE hd
theorem news_of {cl : List Nat} (h1 : ∀ pc en, tb pc = some en → (!(isNew en.1) || decide (pc ∈ cl)) = true) (h2 : ∀ pc ∈ cl, ThrS l N0 a D cI cB cJ own cc nL (rmO f lo mc) mc pc (xn pc)) :
    ∀ pc k x yy c' d, tb pc = some (.new k, x, yy, c', d) → ThrS l N0 a D cI cB cJ own cc nL (rmO f lo mc) mc pc (xn pc) := by
  intro pc k x yy c' d hE
  have h := h1 pc _ hE
  exact h2 pc (by simpa [isNew] using h)
def P_smax : Ct := fun av σ Q _ => match av with
  | [.int x, .int y] => Q (some (.int (if x < y then y else x))) σ
  | _ => False
def P_smin : Ct := fun av σ Q _ => match av with
  | [.int x, .int y] => Q (some (.int (if y < x then y else x))) σ
  | _ => False
def P_sabs : Ct := fun av σ Q _ => match av with
  | [.int x] => Q (some (.int (if 0 ≤ x then x else 0 - x))) σ
  | _ => False
def P_sminl : Ct := fun av σ Q _ => match av with
  | [.long x, .long y] => Q (some (.long (if y < x then y else x))) σ
  | _ => False
def P_scopy : Ct := fun av σ Q _ => match av with
  | [.ref j, .int sp, .ref j2, .int dp, .int n] => (ak j).1 = 2 ∧ (ak j2).1 = 2 ∧ ¬ sp < 0 ∧ ¬ dp < 0 ∧ ¬ n < 0 ∧ sp.toNatClampNeg + n.toNatClampNeg ≤ (ak j).2 ∧ dp.toNatClampNeg + n.toNatClampNeg ≤ (ak j2).2 ∧ (∀ i, i < n.toNatClampNeg → fits .byte (.int (σ.1 j (sp.toNatClampNeg + i))) = true) ∧ Q none (sA σ j2 (va_cpy (σ.1 j) (σ.1 j2) sp.toNatClampNeg dp.toNatClampNeg n.toNatClampNeg))
  | _ => False
theorem cs_max {pc idx : Nat} (hd : decode cc pc = .ok (.invokestatic idx, 3)) (hw : ([.methodLink own idx Lib.Math.max.name, .static Lib.Math.max.name, .initialized "java/lang/Math", .code Lib.Math.max.name Lib.Math.max.code 2 (some .int)] : List Cond).all (fun w => decide (w ∈ lw_tbl) && goodWord w) = true) (hR : 1 ≤ f ∧ 21 ≤ lo) : CallS l N0 a D cI cB cJ own cc nL (rmO f lo mc) mc pc 2 0 P_smax := by
  intro p e s m args below meth c Z hRc hRs C0 T av rest σ Q X H locs ls hlen hrest hmc hls hp hPw hS kk kx
  obtain ⟨hx, hb, hml, hown, hts, -⟩ := id C0
  have hw := tw_all hw
  unfold P_smax at hp
  split at hp
  · rename_i x y
    have hs := cat_sum a hrest
    have h9 := kk _ σ H locs hp hPw hS
    exact va_mmax (cells := T) (slots := 6 * T) (rest := rest.map (cv a)) hx hb (by rw [hml, hls]) hown (hts _ (hw _ (by simp))) (hts _ (hw _ (by simp))) (hts _ (hw _ (by simp))) (hts _ (hw _ (by simp))) hR.1 (by show _ + 13 ≤ lo; omega) (by show T ≤ mc; omega) (by show 6 * T ≤ 6 * mc; omega) hd h9
  · exact hp.elim
theorem cs_min {pc idx : Nat} (hd : decode cc pc = .ok (.invokestatic idx, 3)) (hw : ([.methodLink own idx Lib.Math.min.name, .static Lib.Math.min.name, .initialized "java/lang/Math", .code Lib.Math.min.name Lib.Math.min.code 2 (some .int)] : List Cond).all (fun w => decide (w ∈ lw_tbl) && goodWord w) = true) (hR : 1 ≤ f ∧ 21 ≤ lo) : CallS l N0 a D cI cB cJ own cc nL (rmO f lo mc) mc pc 2 0 P_smin := by
  intro p e s m args below meth c Z hRc hRs C0 T av rest σ Q X H locs ls hlen hrest hmc hls hp hPw hS kk kx
  obtain ⟨hx, hb, hml, hown, hts, -⟩ := id C0
  have hw := tw_all hw
  unfold P_smin at hp
  split at hp
  · rename_i x y
    have hs := cat_sum a hrest
    have h9 := kk _ σ H locs hp hPw hS
    exact va_mmin (cells := T) (slots := 6 * T) (rest := rest.map (cv a)) hx hb (by rw [hml, hls]) hown (hts _ (hw _ (by simp))) (hts _ (hw _ (by simp))) (hts _ (hw _ (by simp))) (hts _ (hw _ (by simp))) hR.1 (by show _ + 13 ≤ lo; omega) (by show T ≤ mc; omega) (by show 6 * T ≤ 6 * mc; omega) hd h9
  · exact hp.elim
theorem cs_abs {pc idx : Nat} (hd : decode cc pc = .ok (.invokestatic idx, 3)) (hw : ([.methodLink own idx Lib.Math.abs.name, .static Lib.Math.abs.name, .initialized "java/lang/Math", .code Lib.Math.abs.name Lib.Math.abs.code 1 (some .int)] : List Cond).all (fun w => decide (w ∈ lw_tbl) && goodWord w) = true) (hR : 1 ≤ f ∧ 21 ≤ lo) : CallS l N0 a D cI cB cJ own cc nL (rmO f lo mc) mc pc 1 0 P_sabs := by
  intro p e s m args below meth c Z hRc hRs C0 T av rest σ Q X H locs ls hlen hrest hmc hls hp hPw hS kk kx
  obtain ⟨hx, hb, hml, hown, hts, -⟩ := id C0
  have hw := tw_all hw
  unfold P_sabs at hp
  split at hp
  · rename_i x
    have hs := cat_sum a hrest
    have h9 := kk _ σ H locs hp hPw hS
    exact va_mabs (cells := T) (slots := 6 * T) (rest := rest.map (cv a)) hx hb (by rw [hml, hls]) hown (hts _ (hw _ (by simp))) (hts _ (hw _ (by simp))) (hts _ (hw _ (by simp))) (hts _ (hw _ (by simp))) hR.1 (by show _ + 13 ≤ lo; omega) (by show T ≤ mc; omega) (by show 6 * T ≤ 6 * mc; omega) hd h9
  · exact hp.elim
theorem cs_minl {pc idx : Nat} (hd : decode cc pc = .ok (.invokestatic idx, 3)) (hw : ([.methodLink own idx Lib.MathLoose.min_long.x, .static Lib.MathLoose.min_long.x, .initialized "java/lang/Math", .code Lib.MathLoose.min_long.x Lib.MathLoose.min_long.code 4 (some .long)] : List Cond).all (fun w => decide (w ∈ lw_tbl) && goodWord w) = true) (hR : 1 ≤ f ∧ 23 ≤ lo) : CallS l N0 a D cI cB cJ own cc nL (rmO f lo mc) mc pc 2 0 P_sminl := by
  intro p e s m args below meth c Z hRc hRs C0 T av rest σ Q X H locs ls hlen hrest hmc hls hp hPw hS kk kx
  obtain ⟨hx, hb, hml, hown, hts, -⟩ := id C0
  have hw := tw_all hw
  unfold P_sminl at hp
  split at hp
  · rename_i x y
    have hs := cat_sum a hrest
    have h9 := kk _ σ H locs hp hPw hS
    exact va_mmin_long (cells := T) (slots := 6 * T) (rest := rest.map (cv a)) hx hb (by rw [hml, hls]) hown (hts _ (hw _ (by simp))) (hts _ (hw _ (by simp))) (hts _ (hw _ (by simp))) (hts _ (hw _ (by simp))) hR.1 (by show _ + 15 ≤ lo; omega) (by show T ≤ mc; omega) (by show 6 * T ≤ 6 * mc; omega) hd h9
  · exact hp.elim
theorem cs_copy {pc idx : Nat} (hd : decode cc pc = .ok (.invokestatic idx, 3)) (hw : ([.methodLink own idx arraycopyName, .native arraycopyName, .static arraycopyName, .initialized "java/lang/System"] : List Cond).all (fun w => decide (w ∈ lw_tbl) && goodWord w) = true) (hR : 1 ≤ f ∧ 8 + (nativeFrameWords "java/lang/System" "arraycopy" 5 + 11) ≤ lo) : CallS l N0 a D cI cB cJ own cc nL (rmO f lo mc) mc pc 5 0 P_scopy := by
  intro p e s m args below meth c Z hRc hRs C0 T av rest σ Q X H locs ls hlen hrest hmc hls hp hPw hS kk kx
  obtain ⟨hx, hb, hml, hown, hts, hK, hDD, hst, hN⟩ := id C0
  have hw := tw_all hw
  unfold P_scopy at hp
  split at hp
  · rename_i j sp j2 dp n
    obtain ⟨h1, h2, h3, h4, h5, h6, h7, h8, hq⟩ := hp
    have hs := cat_sum a hrest
    refine va_copyi (cells := T) (slots := 6 * T) (rest := rest.map (cv a)) (ty := .byte) hx hb (by rw [hml, hls]) hown (hts _ (hw _ (by simp))) (hts _ (hw _ (by simp))) (hts _ (hw _ (by simp))) (hts _ (hw _ (by simp))) hK hPw (hDD σ) hS j j2 1 1 (wld_ab h1) (wld_ab h2) rfl rfl (by decide) h3 h4 h5 h6 h7 h8 hR.1 (by show _ + _ ≤ lo; omega) hd (fun H1 locs1 hP1 hD1 hS1 => ?_)
    rw [wld_sAb (ak_in (Or.inr (Or.inl h2))) h2] at hP1
    exact kk none _ H1 locs1 hq hP1 hS1
  · exact hp.elim
set_option maxHeartbeats 1000000 in
theorem th_any {pc ik is ic : Nat} {E : String} {tx : String} (hq : (is, tx) ∈ exT) (hl : l.stackTraces = false) (hfit : Bundle.fit E = true)
    (hw : ([.classLink "SheetObjects" ik E, .initialized E] ++ vx_atS "SheetObjects" ic E ["java/lang/RuntimeException", "java/lang/Exception"] : List Cond).all (fun w => decide (w ∈ lw_tbl) && (goodWord w || isNest w)) = true)
    (d0 : decode cc pc = .ok (.new ik, 3)) (d3 : decode cc (pc + 3) = .ok (.dup, 1)) (d4 : decode cc (pc + 4) = .ok (.ldc is, 2)) (d6 : decode cc (pc + 6) = .ok (.invokespecial ic, 3)) (d9 : decode cc (pc + 9) = .ok (.athrow, 1))
    (hR : 6 ≤ f ∧ 82 ≤ lo) : ThrS l N0 a D cI cB cJ "SheetObjects" cc nL (rmO f lo mc) mc pc E := by
  intro p e s m args below meth c Qc X T σ H locs ls hRc hRs C0 hno hlocks hX hT hls hPw hS
  obtain ⟨hx, hb, hml, hown, hts, hK, hDD, hst, hN⟩ := id C0
  have hall : ∀ w ∈ ([.classLink "SheetObjects" ik E, .initialized E] ++ vx_atS "SheetObjects" ic E ["java/lang/RuntimeException", "java/lang/Exception"] : List Cond), w.before args s = true ∧ vx_ot w = true := by
    intro w hm
    have h1 := List.all_eq_true.mp hw w hm
    simp only [Bool.and_eq_true, Bool.or_eq_true, decide_eq_true_eq] at h1
    rcases h1.2 with g | g
    · exact ⟨hts w (tw_in h1.1 g), by simp [vx_ot, g]⟩
    · exact ⟨va_Nw.use (nest_tab g) (hst.2.2.2.2.2.2.2.2 w h1.1 g), by simp [vx_ot, nest_tab g]⟩
  obtain ⟨sa, hsa⟩ := hst.2.2.2.1 _ hq
  refine vx_throwS (names := ["java/lang/RuntimeException", "java/lang/Exception"]) (A := AN N0) (sa := sa) (text := tx) hx hb hl hown hfit (by decide +kernel) (hall _ (by simp)).1 (hall _ (by simp)).1 hsa (fun w h => (hall _ (List.mem_append_right _ h)).1) (fun w h => (hall w (by simpa using h)).2) hst.2.2.2.2.2.1 hst.2.2.2.2.2.2.1 hS (by rw [hls, hml]) d0 d3 d4 d6 d9 (fun x h => absurd (hno x h) id) (by show 2 + 3 < f; omega) (by show 0 + (13 * (2 + 1) + 43) ≤ lo; omega) (by show T + 1 ≤ mc; omega) (by show 6 * T + 6 ≤ 6 * mc; omega) hlocks (fun t ht hz hk => ?_) hS.2.2 hT (by omega)
  · refine ⟨σ, hX, fun k q hq => ?_, Nat.le_trans hS.1 hz, fun q h1 h2 => by rw [hk q (Nat.lt_of_lt_of_le h1 hS.1)]; exact hS.2.1 q h1 h2⟩
    exact (hPw k q hq).kept (hk q.1 (hPw k q hq).lt)
end Jdk
