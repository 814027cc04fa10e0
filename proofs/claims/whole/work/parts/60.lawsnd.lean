/-! ===== the law's loop, as steps of the abstract machine ===== -/
abbrev FL (L : Nat) (xs : Nat → Int32) : Jt → Jt := Step (cutN 1060 t_L_law) e_L_law hd0 (L, xs) xn0 mcL s_L_law (fun r _ _ => r = some (.int 1)) (fun _ _ _ => False)
theorem law_sound {p : Program} {l : Launch} {e : Env} {s : State} {m : MethodId} {below : List Frame} {meth : Method} {c : Code} {a : Nat → Nat} {D : va_G} {cI cB cJ : ClassId} {b L : Nat} {xs : Nat → Int32} (hl : l.stackTraces = false) (C0 : Cx p s m #[Value.ref b] c code 7 s.heap.size a D cI cB cJ "SheetObjectsLaw") (hr : meth.sig.returnType = ret) (hlocks : meth.locks = false)
    (hNc : va_Nc xA xI s) (hX : va_X b L xs s s.heap) (hb50 : a 50 = b) (hbl : b < s.heap.size) : Cl (FL L xs) (Im p l e room_1 s m #[Value.ref b] below meth c (lw_Z below #[Value.ref b] s) 7 mcL s.heap.size a D cI cB cJ) := by
  obtain ⟨hx, hb, hml, hown, hts, hK, hDD, hst, hN⟩ := id C0
  have hchk1 : ∀ pc en, cutN 1060 t_L_law pc = some en → chk "SheetObjectsLaw" code 7 s_L_law pc en = true := fun pc en h => (Bool.and_eq_true_iff.mp (k_L_law pc en h)).1
  have hchk2 : ∀ pc en, cutN 1060 t_L_law pc = some en → chkL en = true := fun pc en h => (Bool.and_eq_true_iff.mp (k_L_law pc en h)).2
  refine sound C0 hchk1 ?_ ?_ ?_ ?_ ?_ ?_ ?_ ?_
  · intro pc i x yy c' d hE hi
    obtain ⟨n9, hd9, hl9⟩ := chk_d (hchk1 pc _ hE)
    have hd3 : decode code pc = .ok (i, 3) := by
      obtain ⟨k, rfl | rfl⟩ := hi
      · cases hl9 rfl; exact hd9
      · cases hl9 rfl; exact hd9
    exact law_calls hl pc i x yy c' d hE hi hd3 C0 hNc
  · intro pc i yy c' d hE hi
    rw [hb50]
    exact ⟨hX, hbl⟩
  · intro pc E h k T lc rest H1 locs1 ls q ce hh
    cases hh
  · intro pc E T τ rest H1 locs1 ls q ce' _ hX
    exact hX.elim
  · intro pc k x yy c' d T σ H locs ls hE hX
    exact hX.elim
  · intro pc x yy c' d v T σ H locs ls hE hdg hR hT hP1 hS1
    cases hR
    refine va_forget (fun q hq => hS1.2.2 q hq) ?_
    have hT' : T ≤ 100200 := hT
    refine W.widen (k := 600128) (n := 7301098) (by omega) (by omega) ?_
    exact lw_ret hx hb hr hlocks hdg
  · intro pc x yy c' d v T σ H locs ls hE
    have := hchk2 pc _ hE
    simp [chkL] at this
  · intro pc x yy c' d T σ H locs ls hE
    have := hchk2 pc _ hE
    simp [chkL] at this
