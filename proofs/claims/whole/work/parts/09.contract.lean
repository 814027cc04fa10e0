/-! ===== CONTRACTS: a method does what its table does ===== -/
def lcs : List Value → Lc
  | [] => []
  | .long v :: r => some (.long v) :: none :: lcs r
  | .double v :: r => some (.double v) :: none :: lcs r
  | .int v :: r => some (.int v) :: lcs r
  | .ref v :: r => some (.ref v) :: lcs r
  | .null :: r => some .null :: lcs r
  | .float v :: r => some (.float v) :: lcs r
  | .retAddr v :: r => some (.retAddr v) :: lcs r
def pad : Nat → Lc → Lc
  | 0, _ => []
  | n + 1, [] => none :: pad n []
  | n + 1, x :: xs => x :: pad n xs
theorem pad_len : ∀ (n : Nat) (l : Lc), (pad n l).length = n := by
  intro n
  induction n with
  | zero => intro l; rfl
  | succ n ih => intro l; cases l <;> simp [pad, ih]
theorem pad_gl : ∀ (n : Nat) (l : Lc) (i : Nat) (v : Value), gl (pad n l) i = some v → gl l i = some v := by
  intro n
  induction n with
  | zero => intro l i v h; simp [pad, gl] at h
  | succ n ih =>
    intro l i v h
    cases l with
    | nil =>
      cases i with
      | zero => simp [pad, gl] at h
      | succ i => simp only [pad, gl] at h; have := ih [] i v h; simp [gl] at this
    | cons x xs =>
      cases i with
      | zero => simpa [pad, gl] using h
      | succ i => simp only [pad, gl] at h ⊢; exact ih xs i v h
theorem lcs_sl (a : Nat → Nat) : ∀ av : List Value, (lg_sl (av.map (cv a))).length = (lcs av).length := by
  intro av
  induction av with
  | nil => rfl
  | cons v r ih =>
    have ih' : (List.flatMap (fun v => if v.category = 2 then [Slot.val v, Slot.second] else [Slot.val v]) (r.map (cv a))).length = (lcs r).length := ih
    cases v <;> simp only [lg_sl, List.map_cons, List.flatMap_cons, List.length_append, ih', lcs, List.length_cons] <;> simp [cv, Value.category] <;> omega
theorem lcs_args (a : Nat → Nat) : ∀ (av : List Value) (k i : Nat) (v : Value), gl (lcs av) i = some v → (k + i, cv a v) ∈ lv_args k (av.map (cv a)) := by
  intro av
  induction av with
  | nil => intro k i v h; simp [lcs, gl] at h
  | cons w r ih =>
    intro k i v h
    have one : (w.category = 1 ∧ lcs (w :: r) = some w :: lcs r) ∨ (w.category = 2 ∧ lcs (w :: r) = some w :: none :: lcs r) := by cases w <;> simp [lcs, Value.category]
    rcases one with ⟨hc, e⟩ | ⟨hc, e⟩
    · rw [e] at h
      have hl : lv_args k ((w :: r).map (cv a)) = (k, cv a w) :: lv_args (k + 1) (r.map (cv a)) := by simp [lv_args, cv_cat, hc]
      rw [hl]
      cases i with
      | zero => simp only [gl, Option.some.injEq] at h; rw [h]; exact List.mem_cons_self
      | succ i =>
        simp only [gl] at h
        have := ih (k + 1) i v h
        rw [show k + (i + 1) = k + 1 + i by omega]
        exact List.mem_cons_of_mem _ this
    · rw [e] at h
      have hl : lv_args k ((w :: r).map (cv a)) = (k, cv a w) :: lv_args (k + 2) (r.map (cv a)) := by simp [lv_args, cv_cat, hc]
      rw [hl]
      cases i with
      | zero => simp only [gl, Option.some.injEq] at h; rw [h]; exact List.mem_cons_self
      | succ i => cases i with
        | zero => simp [gl] at h
        | succ i =>
          simp only [gl] at h
          have := ih (k + 2) i v h
          rw [show k + (i + 1 + 1) = k + 2 + i by omega]
          exact List.mem_cons_of_mem _ this
/-- the arguments are as the method wants them: the receiver of its kind, as many as are due -/
def okv (ci maxL n : Nat) (av : List Value) : Bool := (bif Nat.beq ci 99 then true else match av with
  | .ref j :: _ => Nat.beq (oc j) ci
  | _ => false) && (Nat.beq av.length n && Nat.ble (lcs av).length maxL)
def bo (r : Option Value) : Prop := match r with
  | some (.int v) => v = 0 ∨ v = 1
  | _ => False
def rtO (b : Bool) (r : Option Value) (P : Prop) : Prop := bif b then (bo r ∧ P) else P
def hd0 : Nat → String → Option (Nat × Nat) := fun _ _ => none
def sc0 : Nat × (Nat → Int32) := (0, fun _ => 0)
/-- a method's step -/
abbrev FM (tb : Nat → Option Ent) (ce : Nat → Nat × Ct) (xn : Nat → String) (mc : Nat) (sws : Nat → List (Int32 × Nat)) (b : Bool) (Q : Po) (X : Xo) : Jt → Jt := Step tb ce hd0 sc0 xn mc sws (fun r _ τ => rtO b r (Q r τ)) (fun E _ τ => X E τ)
/-- a method as a transformer -/
def mkP (tb : Nat → Option Ent) (ce : Nat → Nat × Ct) (xn : Nat → String) (mc : Nat) (sws : Nat → List (Int32 × Nat)) (b : Bool) (ci maxL n : Nat) : Ct := fun av σ Q X => okv ci maxL n av = true ∧ Lf (FM tb ce xn mc sws b Q X) 0 0 (pad maxL (lcs av)) [] σ
section Con
variable {l : Launch} {N0 : Nat} {a : Nat → Nat} {D : va_G} {cI cB cJ : ClassId}
def Gp (N0 : Nat) (a : Nat → Nat) (D : va_G) (cI cB cJ : ClassId) (σ : Sg) (U : State) : Prop := N0 ≤ U.heap.size ∧ va_P D vwCl (wld a cI cB cJ σ) U.heap ∧ va_K D vwCl (tys3 cI cB cJ) U ∧ (∀ τ, va_D (AN N0) (wld a cI cB cJ τ)) ∧ Stt a N0 U U.heap
def Qg (N0 : Nat) (a : Nat → Nat) (D : va_G) (cI cB cJ : ClassId) (Q : Po) : Array Value → State → Outcome → State → Prop := fun _ st oc' t => (∃ (r : Option Value) (τ : Sg), oc' = .returned (r.map (cv a)) ∧ Q r τ ∧ va_P D vwCl (wld a cI cB cJ τ) t.heap) ∧ va_F (AN N0) st t
def Xg (N0 : Nat) (a : Nat → Nat) (D : va_G) (cI cB cJ : ClassId) (X : Xo) : String → State → State → Prop := fun E st t => ∃ τ : Sg, X E τ ∧ va_P D vwCl (wld a cI cB cJ τ) t.heap ∧ va_F (AN N0) st t
abbrev rmO (f lo mc : Nat) : Room := { frames := f, cells := mc, slots := 6 * mc, locals := lo }
/-- the contract -/
def Con (l : Launch) (N0 : Nat) (a : Nat → Nat) (D : va_G) (cI cB cJ : ClassId) (y : MethodName) (ws : List Cond) (f lo mc : Nat) (P : Ct) : Prop :=
  ∀ (av : List Value) (σ : Sg) (Q : Po) (X : Xo), P av σ Q X → vx_Met l y ws (rmO f lo mc) (va_Pc (av.map (cv a)) (Gp N0 a D cI cB cJ σ)) (Qg N0 a D cI cB cJ Q) (Xg N0 a D cI cB cJ X) mc (6 * mc) (AN N0)
theorem Gp_blind {av : List Value} {σ : Sg} : FrameBlind (va_Pc av (Gp N0 a D cI cB cJ σ)) := by
  intro A U g mk h
  obtain ⟨h1, h2, h3, h4, h5, h6⟩ := h
  exact ⟨h1, h2, h3, va_K.moved (u := U) (U := U.calling g mk A) (Vm.Alike.refl U.vm) h4, h5, Stt.same (s := U) (U := U.calling g mk A) rfl h6⟩
theorem cat_sum (a : Nat → Nat) : ∀ {rest : List Value}, rest.length ≤ 4 → ((rest.map (cv a)).map fun v => v.category).sum ≤ 8 := by
  have key : ∀ rest : List Value, ((rest.map (cv a)).map fun v => v.category).sum ≤ 2 * rest.length := by
    intro rest
    induction rest with
    | nil => simp
    | cons v r ih =>
      have h2 : (cv a v).category ≤ 2 := by rcases lv_cat (cv a v) with e | e <;> omega
      simp only [List.map_cons, List.sum_cons, List.length_cons]
      omega
  intro rest h
  have := key rest
  omega
section Call
variable {p : Program} {e : Env} {R : Room} {s : State} {m : MethodId} {args : Array Value} {below : List Frame} {meth : Method} {c : Code} {Z : State → Prop} {cc : ByteArray} {nL mc : Nat} {own : String}
/-- behind a call: it has returned, or thrown -/
theorem xcall {H : Heap} {locs : List Loc} {pc T k : Nat} {ls : Array Slot} {st0 rest : List Value} {A : Array Value} {Q : Po} {X : Xo}
    (hr : vx_Run p l e R s m args below meth c H locs T (6 * T) k (6 * k) (F0 m pc ls st0) (rest.map (cv a)) (Qg N0 a D cI cB cJ Q A) (Xg N0 a D cI cB cJ X) (AN N0)) (hS : va_S (AN N0) s.heap H locs)
    (kk : ∀ (r : Option Value) (τ : Sg) (H1 : Heap) (locs1 : List Loc), Q r τ → va_P D vwCl (wld a cI cB cJ τ) H1 → va_S (AN N0) s.heap H1 locs1 → W p l e R s m args below meth c H1 locs1 (T + k) (6 * (T + k)) Z (F0 m (pc + 3) ls ((r.toList ++ rest).map (cv a))))
    (kx : ∀ (E : String) (τ : Sg) (H1 : Heap) (locs1 : List Loc) (q : Addr) (ce : Cell), X E τ → va_P D vwCl (wld a cI cB cJ τ) H1 → va_S (AN N0) s.heap H1 locs1 → H1[q]? = some ce → ce.vm = .none → s.vm.findClass E = some ce.cls → vx_W p l e R s m args below meth c H1 locs1 (T + k) (6 * (T + k)) Z (F0 m pc ls (rest.map (cv a))) q) :
    W p l e R s m args below meth c H locs T (6 * T) Z (F0 m pc ls st0) := by
  intro U hU Y
  have e6 : 6 * T + 6 * k = 6 * (T + k) := by omega
  rcases hr U hU Y with ⟨v, st₀, t, T', L, h0, X', hL, e1, e2, ⟨⟨r, τ, hv, hq, hp⟩, hF⟩, st⟩ | ⟨q, st₀, t, T', L, E, ce, h0, X', hL, e1, e2, ⟨τ, hq, hp, hF⟩, hce, hcv, hcl, st⟩
  · cases hv
    obtain ⟨k1, k2, k3⟩ := vx_keep (A0 := AN N0) h0 e1 hS (fun _ _ h => h) (fun _ h => h) hL hF
    rw [e6] at X'
    obtain ⟨t2, a1, b1⟩ := kk r τ T'.heap (locs ++ L) hq (by rw [e1]; exact hp) k3 T' rfl X'
    refine ⟨t2, st t2 ?_, b1⟩
    have e9 : ((r.map (cv a)).toList ++ rest.map (cv a)) = (r.toList ++ rest).map (cv a) := by cases r <;> simp
    rw [e9]
    exact a1
  · obtain ⟨k1, k2, k3⟩ := vx_keep (A0 := AN N0) h0 e1 hS (fun _ _ h => h) (fun _ h => h) hL hF
    rw [e6] at X'
    obtain ⟨t2, a1, b1⟩ := kx E τ T'.heap (locs ++ L) q ce hq (by rw [e1]; exact hp) k3 (by rw [e1]; exact hce) hcv hcl T' rfl X'
    exact ⟨t2, st.trans a1, b1⟩
theorem Gp_at {σ : Sg} {H : Heap} {locs : List Loc} (C0 : Cx p s m args c cc nL N0 a D cI cB cJ own) (hP : va_P D vwCl (wld a cI cB cJ σ) H) (hS : va_S (AN N0) s.heap H locs) : ∀ U : State, U.heap = H → s.WarmedH U.vm → Gp N0 a D cI cB cJ σ U := by
  obtain ⟨-, -, -, -, -, hK, hDD, hst, hN⟩ := C0
  intro U hU hW
  refine ⟨by rw [hU]; exact Nat.le_trans hN hS.1, by rw [hU]; exact hP, va_K.moved hW.alike hK, hDD, ?_⟩
  rw [hU]
  exact (hst.kept hS.2.1).warm hW
end Call
/-- a call site, in whatever method state -/
def CallS (l : Launch) (N0 : Nat) (a : Nat → Nat) (D : va_G) (cI cB cJ : ClassId) (own : String) (cc : ByteArray) (nL : Nat) (R : Room) (mc pc n k : Nat) (P : Ct) : Prop :=
  ∀ ⦃p : Program⦄ ⦃e : Env⦄ ⦃s : State⦄ ⦃m : MethodId⦄ ⦃args : Array Value⦄ ⦃below : List Frame⦄ ⦃meth : Method⦄ ⦃c : Code⦄ ⦃Z : State → Prop⦄, R.cells = mc → R.slots = 6 * mc → Cx p s m args c cc nL N0 a D cI cB cJ own → COk p l e R s m args below meth c Z nL mc N0 a D cI cB cJ pc n k P
def wd4 (own : String) (idx : Nat) (C : String) (y : MethodName) : List Cond := [.methodLink own idx y, .instanceMethod y, .selects C y y, .initialized C]
def wd3 (own : String) (idx : Nat) (y : MethodName) : List Cond := [.methodLink own idx y, .static y, .initialized y.cls]
theorem good_sub {ws : List Cond} (h : ∀ w ∈ ws, w ∈ Tw) : GoodIn Tw ws := fun w hw => ⟨h w hw, tw_good w (h w hw)⟩
theorem okv_n {ci maxL n : Nat} {av : List Value} (h : okv ci maxL n av = true) : av.length = n ∧ (lcs av).length ≤ maxL := by
  unfold okv at h
  rw [Bool.and_eq_true, Bool.and_eq_true] at h
  exact ⟨Nat.eq_of_beq_eq_true h.2.1, Nat.le_of_ble_eq_true h.2.2⟩
theorem okv_r {ci maxL n : Nat} {av : List Value} (hc : ci < 8) (h : okv ci maxL n av = true) : ∃ j r, av = .ref j :: r ∧ oc j = ci := by
  unfold okv at h
  rw [Bool.and_eq_true] at h
  have hb : Nat.beq ci 99 = false := by
    cases hb : Nat.beq ci 99 with
    | false => rfl
    | true => have := Nat.eq_of_beq_eq_true hb; omega
  simp only [hb, cond_false] at h
  obtain ⟨h1, -⟩ := h
  split at h1
  · exact ⟨_, _, rfl, Nat.eq_of_beq_eq_true h1⟩
  · cases h1
/-- a virtual call, out of the callee's contract -/
theorem cs_V {own : String} {cc cY : ByteArray} {nL mY fY loY f lo mc pc idx n ci k : Nat} {y : MethodName} {rY : Option FieldType} {C : String} {T : u_T} {N : Nat} {P : Ct} (hdec : decode cc pc = .ok (.invokevirtual idx, 3))
    (hcon : Con l N0 a D cI cB cJ y (Cond.code y cY mY rY :: Tw) fY loY k P) (hP : ∀ av σ Q X, P av σ Q X → okv ci mY (n + 1) av = true) (hci : vwCl[ci]? = some (C, T, N)) (hc8 : ci < 8)
    (hw : ∀ w ∈ wd4 own idx C y, w ∈ Tw) (hcode : Cond.code y cY mY rY ∈ Tw)
    (hd : y.cls = C ∧ y.cls ≠ "java/lang/invoke/MethodHandle" ∧ y.cls ≠ "java/lang/invoke/VarHandle" ∧ (parseMethodDescriptor y.desc).map (fun d => d.parameters.length) = some n) (hR : fY + 1 ≤ f ∧ 8 + (mY + 11) + loY ≤ lo) :
    CallS l N0 a D cI cB cJ own cc nL (rmO f lo mc) mc pc (n + 1) k P := by
  intro p e s m args below meth c Z hRc hRs C0 T' av rest σ Q X H locs ls hlen hrest hmc hls hp hPw hS kk kx
  obtain ⟨hx, hb, hml, hown, hts, hK, hDD, hst, hN⟩ := id C0
  have hok := hP av σ Q X hp
  obtain ⟨j, as, rfl, hj⟩ := okv_r hc8 hok
  have hn := (okv_n hok).1
  have hG : GoodIn Tw (wsV own idx C y (Cond.code y cY mY rY :: Tw)) := good_sub (fun w hw' => by
    rcases List.mem_append.mp hw' with h | h
    · exact hw w h
    · rcases List.mem_cons.mp h with h | h
      · rw [h]; exact hcode
      · exact h)
  have e1 : ((.ref j :: as : List Value).reverse ++ rest).map (cv a) = (as.map (cv a)).reverse ++ .ref (a j) :: rest.map (cv a) := by simp [cv]
  rw [e1]
  refine xcall (vx_runV (As := as.map (cv a)) (b := a j) (rest := rest.map (cv a)) (n := n) (C := C) (ret := rY) (bytes := cY) (maxL := mY) ⟨hx, hb, hml, hown, hts⟩ (hcon (.ref j :: as) σ Q X hp) (cwV n hts hG rfl rfl rfl hd hR) ⟨Gp_blind, ?_, fun U hU hW => ⟨by simp [cv], Gp_at C0 hPw hS U hU hW⟩⟩ rfl (by simp at hn ⊢; omega) hls rfl (lv_room (cat_sum a hrest)) hdec ⟨?_, ?_⟩) hS kk kx
  · subst hj
    obtain ⟨cell, g1, g2, g3⟩ := va_recv hK hPw hci (wld_ao hc8)
    exact ⟨cell, g1, g2, g3⟩
  · rw [hRc]; exact hmc
  · rw [hRs]; omega
/-- a static call, out of the callee's contract -/
theorem cs_T {own : String} {cc cY : ByteArray} {nL mY fY loY f lo mc pc idx n k : Nat} {y : MethodName} {rY : Option FieldType} {P : Ct} (hdec : decode cc pc = .ok (.invokestatic idx, 3))
    (hcon : Con l N0 a D cI cB cJ y (Cond.code y cY mY rY :: Tw) fY loY k P) (hP : ∀ av σ Q X, P av σ Q X → okv 99 mY n av = true)
    (hw : ∀ w ∈ wd3 own idx y, w ∈ Tw) (hcode : Cond.code y cY mY rY ∈ Tw)
    (hd : y.cls ≠ "java/lang/invoke/MethodHandle" ∧ y.cls ≠ "java/lang/invoke/VarHandle" ∧ (parseMethodDescriptor y.desc).map (fun d => d.parameters.length) = some n) (hR : fY + 1 ≤ f ∧ 8 + (mY + 11) + loY ≤ lo) :
    CallS l N0 a D cI cB cJ own cc nL (rmO f lo mc) mc pc n k P := by
  intro p e s m args below meth c Z hRc hRs C0 T' av rest σ Q X H locs ls hlen hrest hmc hls hp hPw hS kk kx
  obtain ⟨hx, hb, hml, hown, hts, hK, hDD, hst, hN⟩ := id C0
  have hn := (okv_n (hP av σ Q X hp)).1
  have hG : GoodIn Tw (va_wsS own idx y (Cond.code y cY mY rY :: Tw)) := good_sub (fun w hw' => by
    rcases List.mem_append.mp hw' with h | h
    · exact hw w h
    · rcases List.mem_cons.mp h with h | h
      · rw [h]; exact hcode
      · exact h)
  have e1 : (av.reverse ++ rest).map (cv a) = (av.map (cv a)).reverse ++ rest.map (cv a) := by simp
  rw [e1]
  refine xcall (vx_runS (As := av.map (cv a)) (rest := rest.map (cv a)) (n := n) (ret := rY) (bytes := cY) (maxL := mY) ⟨hx, hb, hml, hown, hts⟩ (hcon av σ Q X hp) (va_cwS n hts hG rfl rfl rfl hd hR) ⟨Gp_blind, fun U hU hW => ⟨rfl, Gp_at C0 hPw hS U hU hW⟩⟩ rfl (by simp [hn]) hls rfl (lv_room (cat_sum a hrest)) hdec ⟨?_, ?_⟩) hS kk kx
  · rw [hRc]; exact hmc
  · rw [hRs]; omega
/-- a throw at pc, in whatever method state -/
def ThrS (l : Launch) (N0 : Nat) (a : Nat → Nat) (D : va_G) (cI cB cJ : ClassId) (own : String) (cc : ByteArray) (nL : Nat) (R : Room) (mc pc : Nat) (E : String) : Prop :=
  ∀ ⦃p : Program⦄ ⦃e : Env⦄ ⦃s : State⦄ ⦃m : MethodId⦄ ⦃args : Array Value⦄ ⦃below : List Frame⦄ ⦃meth : Method⦄ ⦃c : Code⦄ ⦃Qc : Array Value → State → Outcome → State → Prop⦄ ⦃X : Xo⦄ ⦃T : Nat⦄ ⦃σ : Sg⦄ ⦃H : Heap⦄ ⦃locs : List Loc⦄ ⦃ls : Array Slot⦄,
    R.cells = mc → R.slots = 6 * mc → Cx p s m args c cc nL N0 a D cI cB cJ own → (∀ x ∈ c.exceptionTable.toList, False) → meth.locks = false → X E σ → T + 1 ≤ mc → ls.size = nL → va_P D vwCl (wld a cI cB cJ σ) H → va_S (AN N0) s.heap H locs →
    W p l e R s m args below meth c H locs T (6 * T) (vx_MQ below Qc (Xg N0 a D cI cB cJ X) args s mc (6 * mc) (AN N0)) (F0 m pc ls [])
/-- what the ends of a method's table say -/
def chkR (ret : Option FieldType) (b : Bool) (e : Ent) : Bool := match e.1 with
  | .ireturn => decide (ret = some .int) || (decide (ret = some .boolean) && b)
  | .lreturn => decide (ret = some .long)
  | .return_ => decide (ret = none)
  | .iaload => Nat.beq e.2.1 0
  | .arraylength => Nat.beq e.2.1 0
  | _ => true
set_option maxHeartbeats 1000000 in
/-- THE CONTRACT OF A METHOD -/
theorem con_of {y : MethodName} {cc : ByteArray} {maxL f lo mc ci n : Nat} {ret : Option FieldType} {b : Bool} {tb : Nat → Option Ent} {ce : Nat → Nat × Ct} {xn : Nat → String} {sws : Nat → List (Int32 × Nat)}
    (hy : plainName y.cls = true) (hchk : ∀ pc en, tb pc = some en → (chk y.cls cc maxL sws pc en && chkR ret b en) = true)
    (hcall : ∀ pc i x yy c' d, tb pc = some (i, x, yy, c', d) → (∃ k, i = .invokevirtual k ∨ i = .invokestatic k) → decode cc pc = .ok (i, 3) → CallS l N0 a D cI cB cJ y.cls cc maxL (rmO f lo mc) mc pc yy (ce x).1 (ce x).2)
    (hthr : ∀ pc k x yy c' d, tb pc = some (.new k, x, yy, c', d) → ThrS l N0 a D cI cB cJ y.cls cc maxL (rmO f lo mc) mc pc (xn pc)) :
    Con l N0 a D cI cB cJ y (Cond.code y cc maxL ret :: Tw) f lo mc (mkP tb ce xn mc sws b ci maxL n) := by
  intro av σ Q X hp
  obtain ⟨hok, hp⟩ := hp
  refine vx_ofW (cc := cc) (maxL := maxL) (ret := ret) hy rfl ?_
  intro p e s m args below meth c s₁ B hml hno hv
  obtain ⟨rfl, hN, hP, hK, hDD, hst⟩ := hv
  have hx := B.exec
  have hb := B.bytes
  have hr := B.returns
  have hts0 := atoms_spec (ws := Cond.code y cc maxL ret :: Tw) B.pre
  have hts : ∀ w ∈ Tw, w.before (av.map (cv a)).toArray s = true := fun w h => hts0 w (List.mem_cons_of_mem _ h)
  have hown : s.vm.findClass y.cls = some m.cls := findClass_of_methodNamed B.named
  have hlocks := B.notSynchronized
  have C0 : Cx p s m (av.map (cv a)).toArray c cc maxL N0 a D cI cB cJ y.cls := ⟨hx, hb, hml, hown, hts, hK, hDD, hst, hN⟩
  have hchk1 : ∀ pc en, tb pc = some en → chk y.cls cc maxL sws pc en = true := fun pc en h => (Bool.and_eq_true_iff.mp (hchk pc en h)).1
  have hchk2 : ∀ pc en, tb pc = some en → chkR ret b en = true := fun pc en h => (Bool.and_eq_true_iff.mp (hchk pc en h)).2
  have hS : va_S (AN N0) s.heap s.heap [] := va_S.rf
  have hl := lv_entry (av.map (cv a)) (n := maxL) (by rw [lcs_sl]; exact (okv_n hok).2)
  rw [lg_entry_eq]
  generalize (lg_sl (av.map (cv a)) ++ List.replicate (maxL - (lg_sl (av.map (cv a))).length) Slot.unset).toArray = ls at hl ⊢
  have hL : Lv a ls maxL (pad maxL (lcs av)) := by
    refine ⟨pad_len _ _, hl.1, hl.2.1, fun i v h => ?_⟩
    have h1 := lcs_args a av 0 i v (pad_gl _ _ _ _ h)
    rw [Nat.zero_add] at h1
    exact hl.2.2 _ h1
  have I : Im p l e (rmO f lo mc) s m (av.map (cv a)).toArray below meth c (vx_MQ below (Qg N0 a D cI cB cJ Q) (Xg N0 a D cI cB cJ X) (av.map (cv a)).toArray s mc (6 * mc) (AN N0)) maxL mc N0 a D cI cB cJ 0 0 (pad maxL (lcs av)) [] σ := by
    refine hp _ (sound C0 hchk1 ?_ ?_ ?_ ?_ ?_ ?_ ?_ ?_)
    · intro pc i x yy c' d hE hi
      obtain ⟨n9, hd9, hl9⟩ := chk_d (hchk1 pc _ hE)
      have hd3 : decode cc pc = .ok (i, 3) := by
        obtain ⟨k, rfl | rfl⟩ := hi
        · cases hl9 rfl; exact hd9
        · cases hl9 rfl; exact hd9
      exact hcall pc i x yy c' d hE hi hd3 rfl rfl C0
    · intro pc i yy c' d hE hi
      have := hchk2 pc _ hE
      rcases hi with rfl | rfl <;> simp [chkR] at this
    · intro pc E h k T lc rest H1 locs1 ls q ce hh
      cases hh
    · intro pc E T τ rest H1 locs1 ls q ce' _ hX hT hP1 hS1 f1 f2 f3
      exact vx_out (fun x hx => absurd (hno x hx) id) hlocks f1 f2 f3 (fun t ht _ => ⟨τ, hX, by rw [ht]; exact hP1, hS1.F ht⟩) hS1.2.2 hT (by omega)
    · intro pc k x yy c' d T σ H locs ls hE hX hT hls hP1 hS1
      exact hthr pc k x yy c' d hE rfl rfl C0 hno hlocks hX hT hls hP1 hS1
    · intro pc x yy c' d v T σ H locs ls hE hdg hR hT hP1 hS1
      refine vx_ret (W.widen (k := mc) (n := 6 * mc) hT (by omega) ?_)
      have h9 := hchk2 pc _ hE
      simp only [chkR, Bool.or_eq_true, Bool.and_eq_true, decide_eq_true_eq] at h9
      rcases h9 with h9 | ⟨h9, hb9⟩
      · rw [h9] at hr
        have hq : Q (some (.int v)) σ := by
          cases b with
          | true => exact hR.2
          | false => exact hR
        exact W.iret hx hb hr (fun t ht _ => ⟨⟨some (.int v), σ, rfl, hq, by rw [ht]; exact hP1⟩, hS1.F ht⟩) hS1.2.2 hdg hlocks
      · rw [h9] at hr
        subst hb9
        obtain ⟨hbo, hq⟩ : (v = 0 ∨ v = 1) ∧ Q (some (.int v)) σ := hR
        exact W.zret hx hb hr (by rcases hbo with rfl | rfl <;> decide +kernel) (fun t ht _ => ⟨⟨some (.int v), σ, rfl, hq, by rw [ht]; exact hP1⟩, hS1.F ht⟩) hS1.2.2 hdg hlocks
    · intro pc x yy c' d v T σ H locs ls hE hdg hR hT hP1 hS1
      refine vx_ret (W.widen (k := mc) (n := 6 * mc) hT (by omega) ?_)
      have h9 := hchk2 pc _ hE
      simp only [chkR, decide_eq_true_eq] at h9
      rw [h9] at hr
      have hq : Q (some (.long v)) σ := by
        cases b with
        | true => exact hR.2
        | false => exact hR
      exact W.lret hx hb hr (fun t ht _ => ⟨⟨some (.long v), σ, rfl, hq, by rw [ht]; exact hP1⟩, hS1.F ht⟩) hS1.2.2 hdg hlocks
    · intro pc x yy c' d T σ H locs ls hE hdg hR hT hP1 hS1
      refine vx_ret (W.widen (k := mc) (n := 6 * mc) hT (by omega) ?_)
      have h9 := hchk2 pc _ hE
      simp only [chkR, decide_eq_true_eq] at h9
      rw [h9] at hr
      have hq : Q none σ := by
        cases b with
        | true => exact hR.2
        | false => exact hR
      exact W.vret hx hb hr (fun t ht _ => ⟨⟨none, σ, rfl, hq, by rw [ht]; exact hP1⟩, hS1.F ht⟩) hS1.2.2 hdg hlocks
  exact I (Nat.zero_le _) s.heap [] ls hP hS hL
theorem mkP_ok {tb : Nat → Option Ent} {ce : Nat → Nat × Ct} {xn : Nat → String} {mc : Nat} {sws : Nat → List (Int32 × Nat)} {b : Bool} {ci maxL n : Nat} : ∀ av σ Q X, mkP tb ce xn mc sws b ci maxL n av σ Q X → okv ci maxL n av = true := fun _ _ _ _ h => h.1
end Con
