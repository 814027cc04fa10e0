/-! ===== an exception caught by the caller's table: the first row, or the second when the first names another kind ===== -/
section Ca
def CaF (e : Env) (S : State) (f : JFrame) (q : Addr) (pc : Nat) (vm' : Vm) : Prop := ∀ (Q : Handler → Pre) (E : CtlPost) (d : Bool) (acts : List Action), wp (findHandler f q) Q E e d acts S ↔ Q (.found pc) d acts (S.setVm vm')
variable {Q : Handler → Pre} {E : CtlPost} {e : Env} {d : Bool} {acts : List Action} {s : State} {f : JFrame} {q : Addr}
theorem ca_yes {x : ExceptionTableEntry} {t : List ExceptionTableEntry} {c : ClassId} {cell : Cell} (hx : covers x f.pc = true) (h0 : x.catchType ≠ 0) (hl : s.vm.ClassLinks e.platform f.method.cls x.catchType c)
    (hcell : s.heap[q]? = some cell) (hobj : ∀ k, cell.vm ≠ .statics k) (hk : ∃ k, s.vm.classes[cell.cls]? = some k) (hc : ∃ k, s.vm.classes[c]? = some k) (hfit : s.vm.assignable cell.cls c = true) :
    wp (findHandler.go f q (x :: t)) Q E e d acts s ↔ Q (.found x.handlerPc) d acts (s.setVm (s.vm.noted f.method.cls x.catchType (.cls c))) := by
  simp only [covers] at hx
  obtain ⟨ha, ht⟩ := (resolveClass_links e.toSetting hl).op (op := VmOp.resolveClass f.method.cls x.catchType) rfl
  have hal : s.vm.Alike (s.vm.noted f.method.cls x.catchType (.cls c)) := (Vm.Alike.refl s.vm).noted _ _ _
  obtain ⟨k1, hk1⟩ := hk
  obtain ⟨k2, hk2⟩ := hc
  obtain ⟨k3, hk3, -⟩ := hal.2.2 _ _ hk1
  obtain ⟨k4, hk4, -⟩ := hal.2.2 _ _ hk2
  have hf : (s.vm.noted f.method.cls x.catchType (.cls c)).assignable cell.cls c = true := by rw [hal.assignable]; exact hfit
  simp [findHandler.go, hx, h0, ha, ht, hcell, hobj, hk3, hk4, hf, VmOp.dirties, VmOp.acts]
theorem ca_no {x : ExceptionTableEntry} {t : List ExceptionTableEntry} {c : ClassId} {cell : Cell} (hx : covers x f.pc = true) (h0 : x.catchType ≠ 0) (hl : s.vm.ClassLinks e.platform f.method.cls x.catchType c)
    (hcell : s.heap[q]? = some cell) (hobj : ∀ k, cell.vm ≠ .statics k) (hk : ∃ k, s.vm.classes[cell.cls]? = some k) (hc : ∃ k, s.vm.classes[c]? = some k) (hfit : s.vm.assignable cell.cls c = false) :
    wp (findHandler.go f q (x :: t)) Q E e d acts s ↔ wp (findHandler.go f q t) Q E e d acts (s.setVm (s.vm.noted f.method.cls x.catchType (.cls c))) := by
  simp only [covers] at hx
  obtain ⟨ha, ht⟩ := (resolveClass_links e.toSetting hl).op (op := VmOp.resolveClass f.method.cls x.catchType) rfl
  have hal : s.vm.Alike (s.vm.noted f.method.cls x.catchType (.cls c)) := (Vm.Alike.refl s.vm).noted _ _ _
  obtain ⟨k1, hk1⟩ := hk
  obtain ⟨k2, hk2⟩ := hc
  obtain ⟨k3, hk3, -⟩ := hal.2.2 _ _ hk1
  obtain ⟨k4, hk4, -⟩ := hal.2.2 _ _ hk2
  have hf : (s.vm.noted f.method.cls x.catchType (.cls c)).assignable cell.cls c = false := by rw [hal.assignable]; exact hfit
  simp [findHandler.go, hx, h0, ha, ht, hcell, hobj, hk3, hk4, hf, VmOp.dirties, VmOp.acts]
theorem ca_step {r : List Frame} {pc : Nat} {vm' : Vm} (hf : CaF e s f q pc vm') : (stepThrowing e s q (.java f :: r)).1 = (s.setVm vm').setFrames (.java { f with pc := pc, stack := [.ref q] } :: r) := by
  simp only [stepThrowing, searchFrame, vmDo]
  generalize hr : Sem.go _ e false [] s = res
  obtain ⟨as, rfl, ha⟩ := Sem.eq_ok_of hr (a := Handler.found pc) (s' := s.setVm vm') (acts' := []) (by simp [hf _ _ _ _])
  rfl
theorem ca_steps {tb : Tables} {g : JFrame} {c : Code} {below : List Frame} {target : State} {vm' : Vm} {pc : Nat} (h : At s g.method c below) (hf : CaF e ((s.setTop g).pushFrame (.throwing q)) g q pc vm')
    (hrest : Steps tb e below ((s.setVm vm').setTop { g with pc := pc, stack := [.ref q] }) target) : Steps tb e below ((s.setTop g).pushFrame (.throwing q)) target := by
  obtain ⟨hgo, hw⟩ := h.throwing q
  refine Steps.head hgo hw ?_
  rw [stepThread_throwing (frames_entered h.top _), ca_step (s := (s.setTop g).pushFrame (.throwing q)) hf]
  obtain ⟨g₀, hg⟩ := Option.isSome_iff_exists.mp h.top
  obtain ⟨r, hr⟩ := State.topJava?_eq_some.mp hg
  have hr' : (s.setVm vm').frames = .java g₀ :: r := hr
  rw [State.setTop_of_frames _ hr'] at hrest
  have e0 : ∀ A : List Frame, (s.setFrames A).setVm vm' = (s.setVm vm').setFrames A := fun _ => rfl
  rw [State.pushFrame, State.setTop_of_frames _ hr, State.setFrames_setFrames, e0, State.setFrames_setFrames, hr]
  exact hrest
end Ca
section Cb
variable {p : Program} {l : Launch} {e : Env} {R : Room} {s : State} {m : MethodId} {args : Array Value} {below : List Frame} {meth : Method} {c : Code} {H : Heap} {locs : List Loc} {cells slots : Nat} {Q : State → Prop}
/-- caught by the first row of the table -/
theorem cb_first {own E : String} {pc : Nat} {ls : Array Slot} {rest : List Value} {q : Addr} {ce : Cell} {x : ExceptionTableEntry} {t : List ExceptionTableEntry} (hown : s.vm.findClass own = some m.cls) (htab : c.exceptionTable.toList = x :: t) (hx : covers x pc = true) (h0 : x.catchType ≠ 0)
    (hlink : (Cond.classLink own x.catchType E).before args s = true) (hcast : (Cond.castable E E).before args s = true) (hcell : H[q]? = some ce) (hv : ce.vm = .none) (hcl : s.vm.findClass E = some ce.cls)
    (kk : W p l e R s m args below meth c H locs cells slots Q (F0 m x.handlerPc ls [.ref q])) : vx_W p l e R s m args below meth c H locs cells slots Q (F0 m pc ls rest) q := by
  intro T hT X
  have hpl : e.platform.magicAccessors = ({} : Platform).magicAccessors := by rw [X.admits.platform]
  obtain ⟨c3, c4, hc3, hc4, hasg⟩ := Cond.castable_spec hcast
  cases Option.some.inj (hc3.symm.trans hcl)
  cases Option.some.inj (hc4.symm.trans hcl)
  obtain ⟨c5, hc5, hcl5⟩ := Cond.classLink_spec hown hlink e.platform hpl
  cases Option.some.inj (hc5.symm.trans hcl)
  obtain ⟨dk, _, _, kt, hd, _, _, _, _, hkt, _, hopen⟩ := hcl5.here
  have hW := X.warmed
  obtain ⟨kt', hkt', -⟩ := hW.alike.2.2 _ _ hkt
  have hf : CaF e ((T.setTop (F0 m pc ls rest)).pushFrame (.throwing q)) (F0 m pc ls rest) q x.handlerPc (T.vm.noted m.cls x.catchType (.cls ce.cls)) := by
    intro Q9 E9 d9 a9
    rw [W.findHandler_eq (meth := meth) (code := c) X.method' X.code, htab]
    exact ca_yes (s := (T.setTop (F0 m pc ls rest)).pushFrame (.throwing q)) hx h0 (hW.classLinks hcl5) (by rw [Stand.throwing_heap, hT]; exact hcell) (fun k hk => by rw [hv] at hk; cases hk) ⟨kt', hkt'⟩ ⟨kt', hkt'⟩ (by
      show T.vm.assignable ce.cls ce.cls = true
      rw [hW.alike.assignable]; exact hasg)
  obtain ⟨t2, a1, b1⟩ := kk (T.setVm (T.vm.noted m.cls x.catchType (.cls ce.cls))) hT (X.noted (hW.noted hd hopen (State.rightAt_cls hcl5)))
  exact ⟨t2, ca_steps X.here hf a1, b1⟩
/-- caught by the second row of the table, the first names a class that it isn't of -/
theorem cb_second {own E E1 : String} {pc : Nat} {ls : Array Slot} {rest : List Value} {q : Addr} {ce : Cell} {x1 x : ExceptionTableEntry} {t : List ExceptionTableEntry} (hown : s.vm.findClass own = some m.cls) (htab : c.exceptionTable.toList = x1 :: x :: t) (hx1 : covers x1 pc = true) (h01 : x1.catchType ≠ 0) (hx : covers x pc = true) (h0 : x.catchType ≠ 0)
    (hlink1 : (Cond.classLink own x1.catchType E1).before args s = true) (hno : va_Nc E E1 s)
    (hlink : (Cond.classLink own x.catchType E).before args s = true) (hcast : (Cond.castable E E).before args s = true) (hcell : H[q]? = some ce) (hv : ce.vm = .none) (hcl : s.vm.findClass E = some ce.cls)
    (kk : W p l e R s m args below meth c H locs cells slots Q (F0 m x.handlerPc ls [.ref q])) : vx_W p l e R s m args below meth c H locs cells slots Q (F0 m pc ls rest) q := by
  intro T hT X
  have hpl : e.platform.magicAccessors = ({} : Platform).magicAccessors := by rw [X.admits.platform]
  obtain ⟨c3, c4, hc3, hc4, hasg⟩ := Cond.castable_spec hcast
  cases Option.some.inj (hc3.symm.trans hcl)
  cases Option.some.inj (hc4.symm.trans hcl)
  obtain ⟨c5, hc5, hcl5⟩ := Cond.classLink_spec hown hlink e.platform hpl
  cases Option.some.inj (hc5.symm.trans hcl)
  obtain ⟨c6, hc6, hcl6⟩ := Cond.classLink_spec hown hlink1 e.platform hpl
  obtain ⟨n1, n2, h1, h2, h3⟩ := hno
  cases Option.some.inj (h1.symm.trans hcl)
  cases Option.some.inj (h2.symm.trans hc6)
  obtain ⟨dk, _, _, kt, hd, _, _, _, _, hkt, _, hopen⟩ := hcl5.here
  obtain ⟨dk6, _, _, kt6, hd6, _, _, _, _, hkt6, _, hopen6⟩ := hcl6.here
  have hW := X.warmed
  obtain ⟨kt', hkt', -⟩ := hW.alike.2.2 _ _ hkt
  obtain ⟨kt6', hkt6', -⟩ := hW.alike.2.2 _ _ hkt6
  have hW6 : s.WarmedH (T.vm.noted m.cls x1.catchType (.cls c6)) := hW.noted hd6 hopen6 (State.rightAt_cls hcl6)
  obtain ⟨kt2, hkt2, -⟩ := hW6.alike.2.2 _ _ hkt
  have hf : CaF e ((T.setTop (F0 m pc ls rest)).pushFrame (.throwing q)) (F0 m pc ls rest) q x.handlerPc ((T.vm.noted m.cls x1.catchType (.cls c6)).noted m.cls x.catchType (.cls ce.cls)) := by
    intro Q9 E9 d9 a9
    rw [W.findHandler_eq (meth := meth) (code := c) X.method' X.code, htab]
    refine (ca_no (s := (T.setTop (F0 m pc ls rest)).pushFrame (.throwing q)) (c := c6) hx1 h01 (hW.classLinks hcl6) (by rw [Stand.throwing_heap, hT]; exact hcell) (fun k hk => by rw [hv] at hk; cases hk) ⟨kt', hkt'⟩ ⟨kt6', hkt6'⟩ (by
      show T.vm.assignable ce.cls c6 = false
      rw [hW.alike.assignable]; exact h3)).trans ?_
    exact ca_yes (s := ((T.setTop (F0 m pc ls rest)).pushFrame (.throwing q)).setVm (T.vm.noted m.cls x1.catchType (.cls c6))) hx h0 (hW6.classLinks hcl5) (by
      show ((T.setTop (F0 m pc ls rest)).pushFrame (.throwing q)).heap[q]? = some ce
      rw [Stand.throwing_heap, hT]; exact hcell) (fun k hk => by rw [hv] at hk; cases hk) ⟨kt2, hkt2⟩ ⟨kt2, hkt2⟩ (by
      show (T.vm.noted m.cls x1.catchType (.cls c6)).assignable ce.cls ce.cls = true
      rw [hW6.alike.assignable]; exact hasg)
  obtain ⟨t2, a1, b1⟩ := kk (T.setVm ((T.vm.noted m.cls x1.catchType (.cls c6)).noted m.cls x.catchType (.cls ce.cls))) hT (X.noted (hW6.noted hd hopen (State.rightAt_cls hcl5)))
  exact ⟨t2, ca_steps X.here hf a1, b1⟩
end Cb
