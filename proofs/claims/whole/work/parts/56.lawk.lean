/-! ===== calls out of the law ===== -/
abbrev mcL : Nat := 100200
def chkL (en : Ent) : Bool := match en.1 with
  | .lreturn => false
  | .return_ => false
  | .new _ => false
  | _ => true
section Lk
variable {l : Launch} {N0 : Nat} {a : Nat → Nat} {D : va_G} {cI cB cJ : ClassId}
def LCall (l : Launch) (N0 : Nat) (a : Nat → Nat) (D : va_G) (cI cB cJ : ClassId) (pc n k : Nat) (P : Ct) : Prop :=
  ∀ ⦃p : Program⦄ ⦃e : Env⦄ ⦃s : State⦄ ⦃m : MethodId⦄ ⦃args : Array Value⦄ ⦃below : List Frame⦄ ⦃meth : Method⦄ ⦃c : Code⦄ ⦃Z : State → Prop⦄, Cx p s m args c code 7 N0 a D cI cB cJ "SheetObjectsLaw" → va_Nc xA xI s → COk p l e room_1 s m args below meth c Z 7 mcL N0 a D cI cB cJ pc n k P
theorem lq1 {tb : Nat → Option Ent} {ce : Nat → Nat × Ct} {pc : Nat} {i0 : Instr} {x0 y0 : Nat} {c0 : Int32} {d0 : Int64} (he : tb pc = some (i0, x0, y0, c0, d0)) (h : decode code pc = .ok (i0, 3) → LCall l N0 a D cI cB cJ pc y0 (ce x0).1 (ce x0).2) :
    ∀ i x yy c' d, tb pc = some (i, x, yy, c', d) → decode code pc = .ok (i, 3) → LCall l N0 a D cI cB cJ pc yy (ce x).1 (ce x).2 := by
  intro i x yy c' d h1 h2
  rw [he] at h1
  cases h1
  exact h h2
theorem lcalls_of {tb : Nat → Option Ent} {ce : Nat → Nat × Ct} {cl : List Nat} (h1 : ∀ pc en, tb pc = some en → (!(isInv en.1) || decide (pc ∈ cl)) = true) (h2 : ∀ pc ∈ cl, ∀ i x yy c' d, tb pc = some (i, x, yy, c', d) → decode code pc = .ok (i, 3) → LCall l N0 a D cI cB cJ pc yy (ce x).1 (ce x).2) :
    ∀ pc i x yy c' d, tb pc = some (i, x, yy, c', d) → (∃ k, i = .invokevirtual k ∨ i = .invokestatic k) → decode code pc = .ok (i, 3) → LCall l N0 a D cI cB cJ pc yy (ce x).1 (ce x).2 := by
  intro pc i x yy c' d hE hi hd
  have h := h1 pc _ hE
  have hin : pc ∈ cl := by
    obtain ⟨k, rfl | rfl⟩ := hi <;> simpa [isInv] using h
  exact h2 pc hin i x yy c' d hE hd
theorem ls_V {cY : ByteArray} {mY fY loY pc idx n ci k : Nat} {y : MethodName} {rY : Option FieldType} {C : String} {T : u_T} {N : Nat} {P : Ct} (hdec : decode code pc = .ok (.invokevirtual idx, 3))
    (hcon : Con l N0 a D cI cB cJ y (Cond.code y cY mY rY :: Tw) fY loY k P) (hP : ∀ av σ Q X, P av σ Q X → okv ci mY (n + 1) av = true) (hci : vwCl[ci]? = some (C, T, N)) (hc8 : ci < 8)
    (hw : ∀ w ∈ wd4 "SheetObjectsLaw" idx C y, w ∈ Tw) (hcode : Cond.code y cY mY rY ∈ Tw)
    (hd : y.cls = C ∧ y.cls ≠ "java/lang/invoke/MethodHandle" ∧ y.cls ≠ "java/lang/invoke/VarHandle" ∧ (parseMethodDescriptor y.desc).map (fun d => d.parameters.length) = some n) (hR : fY + 1 ≤ 12 ∧ 8 + (mY + 11) + loY ≤ 452) :
    LCall l N0 a D cI cB cJ pc (n + 1) k P := by
  intro p e s m args below meth c Z C0 hNc T' av rest σ Q X H locs ls hlen hrest hmc hls hp hPw hS kk kx
  obtain ⟨hx, hb, hml, hown, hts, hK, hDD, hst, hN⟩ := id C0
  have hok := hP av σ Q X hp
  obtain ⟨j, as, rfl, hj⟩ := okv_r hc8 hok
  have hn := (okv_n hok).1
  have hG : GoodIn Tw (wsV "SheetObjectsLaw" idx C y (Cond.code y cY mY rY :: Tw)) := good_sub (fun w hw' => by
    rcases List.mem_append.mp hw' with h | h
    · exact hw w h
    · rcases List.mem_cons.mp h with h | h
      · rw [h]; exact hcode
      · exact h)
  have e1 : ((.ref j :: as : List Value).reverse ++ rest).map (cv a) = (as.map (cv a)).reverse ++ .ref (a j) :: rest.map (cv a) := by simp [cv]
  rw [e1]
  have hmc' : T' + k ≤ 100200 := hmc
  refine xcall (vx_runV (As := as.map (cv a)) (b := a j) (rest := rest.map (cv a)) (n := n) (C := C) (ret := rY) (bytes := cY) (maxL := mY) ⟨hx, hb, hml, hown, hts⟩ (hcon (.ref j :: as) σ Q X hp) (cwV n hts hG rfl rfl rfl hd hR) ⟨Gp_blind, ?_, fun U hU hW => ⟨by simp [cv], Gp_at C0 hPw hS U hU hW⟩⟩ rfl (by simp at hn ⊢; omega) hls rfl (lv_room (cat_sum a hrest)) hdec ⟨?_, ?_⟩) hS kk kx
  · subst hj
    obtain ⟨cell, g1, g2, g3⟩ := va_recv hK hPw hci (wld_ao hc8)
    exact ⟨cell, g1, g2, g3⟩
  · show T' + k ≤ 600128; omega
  · show 6 * T' + 6 * k ≤ 7301098; omega
theorem ls_W {cY : ByteArray} {mY fY loY pc idx n k : Nat} {y : MethodName} {hh : List (Nat × Nat × Nat × Nat)} {P : Ct} (hdec : decode code pc = .ok (.invokestatic idx, 3))
    (hcon : ConW l N0 a D cI cB cJ y (Cond.codeWith y cY mY (some .int) hh :: Tw) fY loY k P) (hP : ∀ av σ Q X, P av σ Q X → okv 99 mY n av = true)
    (hw : ∀ w ∈ wd3 "SheetObjectsLaw" idx y, w ∈ Tw) (hcode : Cond.codeWith y cY mY (some .int) hh ∈ Tw)
    (hd : y.cls ≠ "java/lang/invoke/MethodHandle" ∧ y.cls ≠ "java/lang/invoke/VarHandle" ∧ (parseMethodDescriptor y.desc).map (fun d => d.parameters.length) = some n) (hR : fY + 1 ≤ 12 ∧ 8 + (mY + 11) + loY ≤ 452) :
    LCall l N0 a D cI cB cJ pc n k P := by
  intro p e s m args below meth c Z C0 hNc T' av rest σ Q X H locs ls hlen hrest hmc hls hp hPw hS kk kx
  obtain ⟨hx, hb, hml, hown, hts, hK, hDD, hst, hN⟩ := id C0
  have hn := (okv_n (hP av σ Q X hp)).1
  have hG : GoodIn Tw (va_wsS "SheetObjectsLaw" idx y (Cond.codeWith y cY mY (some .int) hh :: Tw)) := good_sub (fun w hw' => by
    rcases List.mem_append.mp hw' with h | h
    · exact hw w h
    · rcases List.mem_cons.mp h with h | h
      · rw [h]; exact hcode
      · exact h)
  have e1 : (av.reverse ++ rest).map (cv a) = (av.map (cv a)).reverse ++ rest.map (cv a) := by simp
  rw [e1]
  have hmc' : T' + k ≤ 100200 := hmc
  refine xcall (vx_runSX (As := av.map (cv a)) (rest := rest.map (cv a)) (n := n) (ret := some .int) (bytes := cY) (maxL := mY) (hh := hh) ⟨hx, hb, hml, hown, hts⟩ (hcon av σ Q X hp) (vx_cwSW n hts hG rfl rfl rfl hd hR) ⟨GpW_blind, fun U hU hW => ⟨rfl, Gp_at C0 hPw hS U hU hW, va_Nc.moved hW.alike hNc⟩⟩ rfl (by simp [hn]) hls rfl (lv_room (cat_sum a hrest)) hdec ⟨?_, ?_⟩) hS kk kx
  · show T' + k ≤ 600128; omega
  · show 6 * T' + 6 * k ≤ 7301098; omega
end Lk
