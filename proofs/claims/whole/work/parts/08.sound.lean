/-! ===== A STEP OF THE ABSTRACT MACHINE IS A STEP OF THE MACHINE ===== -/
section Snd
variable {p : Program} {l : Launch} {e : Env} {R : Room} {s : State} {m : MethodId} {args : Array Value} {below : List Frame} {meth : Method} {c : Code} {Z : State → Prop}
variable {cc : ByteArray} {nL mc N0 : Nat} {a : Nat → Nat} {D : va_G} {cI cB cJ : ClassId} {own : String}
/-- what stands fast in a method -/
def Cx (p : Program) (s : State) (m : MethodId) (args : Array Value) (c : Code) (cc : ByteArray) (nL N0 : Nat) (a : Nat → Nat) (D : va_G) (cI cB cJ : ClassId) (own : String) : Prop :=
  p.tables.exec = Jvm.exec ∧ c.code = cc ∧ c.maxLocals = nL ∧ s.vm.findClass own = some m.cls ∧ (∀ w ∈ Tw, w.before args s = true) ∧ va_K D vwCl (tys3 cI cB cJ) s ∧ (∀ σ, va_D (AN N0) (wld a cI cB cJ σ)) ∧ Stt a N0 s s.heap ∧ N0 ≤ s.heap.size
/-- the machine at pc, with these locals, this stack, this state -/
def Im (p : Program) (l : Launch) (e : Env) (R : Room) (s : State) (m : MethodId) (args : Array Value) (below : List Frame) (meth : Method) (c : Code) (Z : State → Prop) (nL mc N0 : Nat) (a : Nat → Nat) (D : va_G) (cI cB cJ : ClassId) : Jt := fun T pc lc st σ =>
  T ≤ mc → ∀ (H : Heap) (locs : List Loc) (ls : Array Slot), va_P D vwCl (wld a cI cB cJ σ) H → va_S (AN N0) s.heap H locs → Lv a ls nL lc → W p l e R s m args below meth c H locs T (6 * T) Z (F0 m pc ls (st.map (cv a)))
/-- a call at pc of n arguments, that may make k things, does P -/
def COk (p : Program) (l : Launch) (e : Env) (R : Room) (s : State) (m : MethodId) (args : Array Value) (below : List Frame) (meth : Method) (c : Code) (Z : State → Prop) (nL mc N0 : Nat) (a : Nat → Nat) (D : va_G) (cI cB cJ : ClassId) (pc n k : Nat) (P : Ct) : Prop :=
  ∀ (T : Nat) (av rest : List Value) (σ : Sg) (Q : Po) (X : Xo) (H : Heap) (locs : List Loc) (ls : Array Slot), av.length = n → rest.length ≤ 4 → T + k ≤ mc → ls.size = nL → P av σ Q X → va_P D vwCl (wld a cI cB cJ σ) H → va_S (AN N0) s.heap H locs →
    (∀ (r : Option Value) (τ : Sg) (H1 : Heap) (locs1 : List Loc), Q r τ → va_P D vwCl (wld a cI cB cJ τ) H1 → va_S (AN N0) s.heap H1 locs1 → W p l e R s m args below meth c H1 locs1 (T + k) (6 * (T + k)) Z (F0 m (pc + 3) ls ((r.toList ++ rest).map (cv a)))) →
    (∀ (E : String) (τ : Sg) (H1 : Heap) (locs1 : List Loc) (q : Addr) (ce : Cell), X E τ → va_P D vwCl (wld a cI cB cJ τ) H1 → va_S (AN N0) s.heap H1 locs1 → H1[q]? = some ce → ce.vm = .none → s.vm.findClass E = some ce.cls → vx_W p l e R s m args below meth c H1 locs1 (T + k) (6 * (T + k)) Z (F0 m pc ls (rest.map (cv a))) q) →
    W p l e R s m args below meth c H locs T (6 * T) Z (F0 m pc ls ((av.reverse ++ rest).map (cv a)))
/-- an ldc_w of a string -/
theorem va_ldcSW (hexec : p.tables.exec = Jvm.exec) (hb : c.code = cc) {H : Heap} {locs : List Loc} {cells slots pc : Nat} {Q : State → Prop} {ls : Array Slot} {rest : List Value} {own tx : String} {index q : Nat} (hown : s.vm.findClass own = some m.cls) (hZ : vk_R own index tx q s) (hdg : decode cc pc = .ok (.ldc_w index, 3))
    (k : W p l e R s m args below meth c H locs cells slots Q (F0 m (pc + 3) ls (.ref q :: rest))) : W p l e R s m args below meth c H locs cells slots Q (F0 m pc ls rest) := by
  intro T hT X
  obtain ⟨t, a1, b1⟩ := k T hT X
  exact ⟨t, X.ldcStringW hexec hown (text := tx) (a := q) hZ.1 hZ.2 (g := F0 m pc ls rest) rfl (by rw [hb]; exact hdg) t a1, b1⟩
theorem gF_s {σ : Sg} {j x y : Nat} {k : Value → Prop} (h : gF σ j x y k) : oc j = x ∧ y < (fl j).length ∧ ∃ v, k v ∧ fv a σ j y (fg (fl j) y) = cv a v := by
  unfold gF at h
  cases hb : Nat.beq (oc j) x with
  | false => rw [hb] at h; exact h.elim
  | true =>
    rw [hb] at h
    refine ⟨Nat.eq_of_beq_eq_true hb, ?_⟩
    simp only [cond_true] at h
    split at h
    · rename_i r hq; rw [hq]; exact ⟨fg_lt (by rw [hq]; simp), _, h, rfl⟩
    · rename_i r hq; rw [hq]; exact ⟨fg_lt (by rw [hq]; simp), _, h, rfl⟩
    · rename_i r hq; rw [hq]; exact ⟨fg_lt (by rw [hq]; simp), _, h, rfl⟩
    · rename_i r hq; rw [hq]; exact ⟨fg_lt (by rw [hq]; simp), _, h, rfl⟩
    · exact h.elim
theorem pF_s {σ : Sg} {j x y : Nat} {v : Value} {k : Sg → Prop} (h : pF σ j x y v k) : oc j = x ∧ y < (fl j).length ∧ ((∃ z, v = .int z ∧ ((fg (fl j) y).1 = 0 ∨ ((fg (fl j) y).1 = 1 ∧ (z = 0 ∨ z = 1))) ∧ k (sM σ j y z)) ∨ ∃ r, v = .ref r ∧ (fg (fl j) y).1 = 3 ∧ k (sR σ j y r)) := by
  unfold pF at h
  cases hb : Nat.beq (oc j) x with
  | false => rw [hb] at h; exact h.elim
  | true =>
    rw [hb] at h
    refine ⟨Nat.eq_of_beq_eq_true hb, ?_⟩
    simp only [cond_true] at h
    split at h
    · rename_i r z hq; rw [hq]; exact ⟨fg_lt (by rw [hq]; simp), Or.inl ⟨_, rfl, Or.inl rfl, h⟩⟩
    · rename_i r z hq; rw [hq]; exact ⟨fg_lt (by rw [hq]; simp), Or.inl ⟨_, rfl, Or.inr ⟨rfl, h.1⟩, h.2⟩⟩
    · rename_i r z hq; rw [hq]; exact ⟨fg_lt (by rw [hq]; simp), Or.inr ⟨_, rfl, rfl, h⟩⟩
    · exact h.elim
theorem fld_s {own : String} {idx x y : Nat} {w : Bool} {C : String} {T : u_T} {N : Nat} (hc : vwCl[x]? = some (C, T, N)) (h : fldOk own idx x y w = true) (hts : ∀ w ∈ Tw, w.before args s = true) (hnw : ∀ w ∈ lw_tbl, isNest w = true → va_Nw w s) :
    ((Cond.fieldLink own idx (T y).1 (T y).2.1 (T y).2.2.1).before args s = true ∨ (Cond.fieldLinkNest own idx (T y).1 (T y).2.1 (T y).2.2.1 "SheetObjects").before args s = true) ∧ (w = true → (T y).2.2.2 = false) := by
  unfold fldOk at h
  rw [hc] at h
  simp only [Bool.and_eq_true, Bool.or_eq_true, decide_eq_true_eq] at h
  obtain ⟨h1, h2⟩ := h
  refine ⟨?_, fun hw => ?_⟩
  · rcases h1 with h1 | h1
    · exact Or.inl (hts _ (tw_in h1 rfl))
    · exact Or.inr (va_Nw.use rfl (hnw _ h1 rfl))
  · subst hw
    simpa using h2
/-- one array cell of the world -/
theorem wld_ai {σ : Sg} {j : Nat} (h : (ak j).1 = 1) : (wld a cI cB cJ σ)[j]? = some (a j, .inl (cI, (ak j).2, .inl (σ.1 j))) := by
  rw [wld_at (ak_in (Or.inl h))]; unfold cel; rw [h]; rfl
theorem wld_ab {σ : Sg} {j : Nat} (h : (ak j).1 = 2) : (wld a cI cB cJ σ)[j]? = some (a j, .inl (cB, (ak j).2, .inl (σ.1 j))) := by
  rw [wld_at (ak_in (Or.inr (Or.inl h)))]; unfold cel; rw [h]; rfl
theorem wld_aj {σ : Sg} {j : Nat} (h : (ak j).1 = 3) : (wld a cI cB cJ σ)[j]? = some (a j, .inl (cJ, (ak j).2, .inr (.inl σ.2.2))) := by
  rw [wld_at (ak_in (Or.inr (Or.inr h)))]; unfold cel; rw [h]; rfl
theorem wld_ao {σ : Sg} {j : Nat} (h : oc j < 8) : (wld a cI cB cJ σ)[j]? = some (a j, .inr (oc j, fvs a σ j)) := by
  obtain ⟨h1, h2⟩ := oc_j h
  rw [wld_at (by omega)]; unfold cel; rw [h2]; rfl
variable {tb : Nat → Option Ent} {ce : Nat → Nat × Ct} {hd : Nat → String → Option (Nat × Nat)} {sc : Nat × (Nat → Int32)} {xn : Nat → String} {sws : Nat → List (Int32 × Nat)} {Rt : Option Value → Nat → Sg → Prop} {Xt : String → Nat → Sg → Prop}
set_option maxHeartbeats 4000000 in
set_option maxRecDepth 100000 in
theorem sound (C0 : Cx p s m args c cc nL N0 a D cI cB cJ own) (hchk : ∀ pc en, tb pc = some en → chk own cc nL sws pc en = true)
    (hcall : ∀ pc i x y c' d, tb pc = some (i, x, y, c', d) → (∃ k, i = .invokevirtual k ∨ i = .invokestatic k) → COk p l e R s m args below meth c Z nL mc N0 a D cI cB cJ pc y (ce x).1 (ce x).2)
    (hsc : ∀ pc i y c' d, tb pc = some (i, 1, y, c', d) → i = .iaload ∨ i = .arraylength → va_X (a 50) sc.1 sc.2 s s.heap ∧ a 50 < N0)
    (hhand : ∀ (pc : Nat) (E : String) (h k T : Nat) (lc : Lc) (rest : List Value) (H1 : Heap) (locs1 : List Loc) (ls : Array Slot) (q : Addr) (ce : Cell), hd pc E = some (h, k) → H1[q]? = some ce → ce.vm = .none → s.vm.findClass E = some ce.cls → Lv a ls nL lc →
      (∀ ls' : Array Slot, Lv a ls' nL (st1 lc k none) → W p l e R s m args below meth c H1 locs1 T (6 * T) Z (F0 m h ls' [])) → vx_W p l e R s m args below meth c H1 locs1 T (6 * T) Z (F0 m pc ls rest) q)
    (hout : ∀ (pc : Nat) (E : String) (T : Nat) (τ : Sg) (rest : List Value) (H1 : Heap) (locs1 : List Loc) (ls : Array Slot) (q : Addr) (ce : Cell), hd pc E = none → Xt E T τ → T ≤ mc → va_P D vwCl (wld a cI cB cJ τ) H1 → va_S (AN N0) s.heap H1 locs1 → H1[q]? = some ce → ce.vm = .none → s.vm.findClass E = some ce.cls → vx_W p l e R s m args below meth c H1 locs1 T (6 * T) Z (F0 m pc ls rest) q)
    (hthrow : ∀ (pc k x y : Nat) (c' : Int32) (d : Int64) (T : Nat) (σ : Sg) (H : Heap) (locs : List Loc) (ls : Array Slot), tb pc = some (.new k, x, y, c', d) → Xt (xn pc) (T + 1) σ → T + 1 ≤ mc → ls.size = nL → va_P D vwCl (wld a cI cB cJ σ) H → va_S (AN N0) s.heap H locs → W p l e R s m args below meth c H locs T (6 * T) Z (F0 m pc ls []))
    (hri : ∀ (pc x y : Nat) (c' : Int32) (d : Int64) (v : Int32) (T : Nat) (σ : Sg) (H : Heap) (locs : List Loc) (ls : Array Slot), tb pc = some (.ireturn, x, y, c', d) → decode cc pc = .ok (.ireturn, 1) → Rt (some (.int v)) T σ → T ≤ mc → va_P D vwCl (wld a cI cB cJ σ) H → va_S (AN N0) s.heap H locs → W p l e R s m args below meth c H locs T (6 * T) Z (F0 m pc ls [.int v]))
    (hrl : ∀ (pc x y : Nat) (c' : Int32) (d : Int64) (v : Int64) (T : Nat) (σ : Sg) (H : Heap) (locs : List Loc) (ls : Array Slot), tb pc = some (.lreturn, x, y, c', d) → decode cc pc = .ok (.lreturn, 1) → Rt (some (.long v)) T σ → T ≤ mc → va_P D vwCl (wld a cI cB cJ σ) H → va_S (AN N0) s.heap H locs → W p l e R s m args below meth c H locs T (6 * T) Z (F0 m pc ls [.long v]))
    (hrv : ∀ (pc x y : Nat) (c' : Int32) (d : Int64) (T : Nat) (σ : Sg) (H : Heap) (locs : List Loc) (ls : Array Slot), tb pc = some (.return_, x, y, c', d) → decode cc pc = .ok (.return_, 1) → Rt none T σ → T ≤ mc → va_P D vwCl (wld a cI cB cJ σ) H → va_S (AN N0) s.heap H locs → W p l e R s m args below meth c H locs T (6 * T) Z (F0 m pc ls [])) :
    Cl (Step tb ce hd sc xn mc sws Rt Xt) (Im p l e R s m args below meth c Z nL mc N0 a D cI cB cJ) := by
  obtain ⟨hx, hb, hml, hown, hts, hK, hDD, hst, hN⟩ := C0
  intro J hJ T pc lc st σ h hT H locs ls hP hS hL
  have hD := hDD σ
  unfold Step at h
  cases hE : tb pc with
  | none => rw [hE] at h; exact h.elim
  | some en =>
    obtain ⟨i, x, y, c', d⟩ := en
    rw [hE] at h
    have hk := hchk pc _ hE
    obtain ⟨n, hdn, hln⟩ := chk_d hk
    have hA := chk_a hk
    have go : ∀ {T pc lc st σ}, J T pc lc st σ → T ≤ mc → ∀ {H : Heap} {locs : List Loc} {ls : Array Slot}, va_P D vwCl (wld a cI cB cJ σ) H → va_S (AN N0) s.heap H locs → Lv a ls nL lc → W p l e R s m args below meth c H locs T (6 * T) Z (F0 m pc ls (st.map (cv a))) := fun h hT _ _ _ hP hS hL => hJ _ _ _ _ _ h hT _ _ _ hP hS hL
    cases i
    case aload_n k =>
      cases hln rfl
      obtain ⟨j, hg, h⟩ := ldR_s h
      exact lv_aload_n hx hb hdn rfl (hL.2.2.2 _ _ hg) (go h hT hP hS hL)
    case aload k =>
      cases hln rfl
      obtain ⟨j, hg, h⟩ := ldR_s h
      exact lv_aload hx hb hdn (hL.2.2.2 _ _ hg) (go h hT hP hS hL)
    case iload_n k =>
      cases hln rfl
      obtain ⟨j, hg, h⟩ := ldI_s h
      exact lv_iload_n hx hb hdn rfl (hL.2.2.2 _ _ hg) (go h hT hP hS hL)
    case iload k =>
      cases hln rfl
      obtain ⟨j, hg, h⟩ := ldI_s h
      exact lv_iload hx hb hdn (hL.2.2.2 _ _ hg) (go h hT hP hS hL)
    case lload_n k =>
      cases hln rfl
      obtain ⟨j, hg, h⟩ := ldL_s h
      exact lv_lload_n hx hb hdn rfl (hL.2.2.2 _ _ hg) (go h hT hP hS hL)
    case lload k =>
      cases hln rfl
      obtain ⟨j, hg, h⟩ := ldL_s h
      exact lv_lload hx hb hdn (hL.2.2.2 _ _ hg) (go h hT hP hS hL)
    case astore_n k =>
      cases hln rfl
      obtain ⟨j, r, rfl, h⟩ := poR_s h
      exact lv_astore_n hx hb hdn rfl (prs_has hL) (of_decide_eq_true hA) rfl (fun ls' hl' => go h hT hP hS (Lv_st1 (v := .ref j) hL.1 hl'))
    case astore k =>
      cases hln rfl
      obtain ⟨j, r, rfl, h⟩ := poR_s h
      exact lv_astore hx hb hdn (prs_has hL) (of_decide_eq_true hA) rfl (fun ls' hl' => go h hT hP hS (Lv_st1 (v := .ref j) hL.1 hl'))
    case istore_n k =>
      cases hln rfl
      obtain ⟨j, r, rfl, h⟩ := po1_s h
      exact lv_istore_n hx hb hdn rfl (prs_has hL) (of_decide_eq_true hA) rfl (fun ls' hl' => go h hT hP hS (Lv_st1 (v := .int j) hL.1 hl'))
    case istore k =>
      cases hln rfl
      obtain ⟨j, r, rfl, h⟩ := po1_s h
      exact lv_istore hx hb hdn (prs_has hL) (of_decide_eq_true hA) rfl (fun ls' hl' => go h hT hP hS (Lv_st1 (v := .int j) hL.1 hl'))
    case lstore_n k =>
      cases hln rfl
      obtain ⟨j, r, rfl, h⟩ := poL_s h
      exact lv_lstore_n hx hb hdn rfl (prs_has hL) (of_decide_eq_true hA) rfl (fun ls' hl' => go h hT hP hS (Lv_st2 (v := .long j) hL.1 hl'))
    case lstore k =>
      cases hln rfl
      obtain ⟨j, r, rfl, h⟩ := poL_s h
      exact lv_lstore hx hb hdn (prs_has hL) (of_decide_eq_true hA) rfl (fun ls' hl' => go h hT hP hS (Lv_st2 (v := .long j) hL.1 hl'))
    case iinc k n =>
      cases hln rfl
      obtain ⟨v, hg, h⟩ := ldI_s h
      obtain ⟨ix, hix⟩ := List.getElem?_of_mem (prs_in (a := a) hL.1 hg)
      have hc : Int32.ofInt n = c' := of_decide_eq_true hA
      exact lv_iinc (k := ix) (v := v + c') hx hb hdn (prs_has hL) hix (by rw [hc]) (by rw [← hL.1]; exact gl_len hg) rfl (fun ls' hl' => go h hT hP hS (Lv_st1 (v := .int (v + c')) hL.1 hl'))
    case iconst k => cases hln rfl; exact lv_iconst hx hb hdn (of_decide_eq_true hA) (go h hT hP hS hL)
    case bipush k => cases hln rfl; exact lv_bipush hx hb hdn (of_decide_eq_true hA) (go h hT hP hS hL)
    case sipush k => cases hln rfl; exact lv_sipush hx hb hdn (of_decide_eq_true hA) (go h hT hP hS hL)
    case lconst k => cases hln rfl; exact lv_lconst hx hb hdn (of_decide_eq_true hA) (go h hT hP hS hL)
    case ldc2_w k => cases hln rfl; exact lv_ldc2 hx hb hown (hts _ (tw_in (of_decide_eq_true hA) rfl)) hdn (go h hT hP hS hL)
    case ldc k =>
      cases hln rfl
      cases hz : Nat.beq x 0 with
      | true =>
        simp only [hz, cond_true] at h
        simp only [chkA, hz, cond_true] at hA
        exact lv_ldc hx hb hown (hts _ (tw_in (of_decide_eq_true hA) rfl)) hdn (go h hT hP hS hL)
      | false =>
        simp only [hz, cond_false] at h
        simp only [chkA, hz, cond_false, Bool.and_eq_true, List.any_eq_true, beq_iff_eq] at hA
        obtain ⟨rfl, q, hq, rfl, rfl⟩ := hA
        exact va_ldcS hx hb hown (hst.2.2.1 q hq) hdn (go h hT hP hS hL)
    case ldc_w k =>
      cases hln rfl
      simp only [chkA, Bool.and_eq_true, List.any_eq_true, beq_iff_eq] at hA
      obtain ⟨rfl, q, hq, rfl, rfl⟩ := hA
      exact va_ldcSW hx hb hown (hst.2.2.1 q hq) hdn (go h hT hP hS hL)
    case getstatic k =>
      cases hln rfl
      simp only [chkA, Bool.and_eq_true, Bool.or_eq_true, decide_eq_true_eq] at hA
      obtain ⟨⟨h40, h47⟩, hw⟩ := hA
      have hz := (hst.1 x h40 h47).1
      rcases hw with hw | hw
      · exact va_gets hx hb hz hS hown (hts _ (tw_in hw rfl)) (fun _ h9 => h9) hdn (go h hT hP hS hL)
      · exact va_getsN hx hb hz hS hown (va_Nw.use rfl (hst.2.2.2.2.2.2.2.2 _ hw rfl)) (fun _ h9 => h9) hdn (go h hT hP hS hL)
    case dup =>
      cases hln rfl
      dsimp only at h
      split at h
      · exact lv_dup hx hb hdn rfl (go h hT hP hS hL)
      · exact lv_dup hx hb hdn rfl (go h hT hP hS hL)
      · exact h.elim
    case dup2 =>
      cases hln rfl
      dsimp only at h
      split at h
      · exact lv_dup2_11 hx hb hdn rfl rfl (go h hT hP hS hL)
      · exact h.elim
    case iadd => cases hln rfl; obtain ⟨v, w, r, rfl, h⟩ := po2_s h; exact lv_iadd hx hb hdn (go h hT hP hS hL)
    case isub => cases hln rfl; obtain ⟨v, w, r, rfl, h⟩ := po2_s h; exact lv_isub hx hb hdn (go h hT hP hS hL)
    case imul => cases hln rfl; obtain ⟨v, w, r, rfl, h⟩ := po2_s h; exact lv_imul hx hb hdn (go h hT hP hS hL)
    case idiv => cases hln rfl; obtain ⟨v, w, r, rfl, h0, h⟩ := po2_s h; exact lv_idiv hx hb hdn h0 (go h hT hP hS hL)
    case irem => cases hln rfl; obtain ⟨v, w, r, rfl, h0, h⟩ := po2_s h; exact lv_irem hx hb hdn h0 (go h hT hP hS hL)
    case iand => cases hln rfl; obtain ⟨v, w, r, rfl, h⟩ := po2_s h; exact lv_iand hx hb hdn (go h hT hP hS hL)
    case ishr => cases hln rfl; obtain ⟨v, w, r, rfl, h⟩ := po2_s h; exact lv_ishr hx hb hdn (go h hT hP hS hL)
    case iushr => cases hln rfl; obtain ⟨v, w, r, rfl, h⟩ := po2_s h; exact lv_iushr hx hb hdn rfl (go h hT hP hS hL)
    case i2l => cases hln rfl; obtain ⟨v, r, rfl, h⟩ := po1_s h; exact lv_i2l hx hb hdn rfl (go h hT hP hS hL)
    case i2b => cases hln rfl; obtain ⟨v, r, rfl, h⟩ := po1_s h; exact lv_i2b hx hb hdn rfl (go h hT hP hS hL)
    case l2i => cases hln rfl; obtain ⟨v, r, rfl, h⟩ := poL_s h; exact lv_l2i hx hb hdn rfl (go h hT hP hS hL)
    case ladd => cases hln rfl; obtain ⟨v, w, r, rfl, h⟩ := poLL_s h; exact lv_ladd hx hb hdn (go h hT hP hS hL)
    case lsub => cases hln rfl; obtain ⟨v, w, r, rfl, h⟩ := poLL_s h; exact lv_lsub hx hb hdn (go h hT hP hS hL)
    case lmul => cases hln rfl; obtain ⟨v, w, r, rfl, h⟩ := poLL_s h; exact lv_lmul hx hb hdn (go h hT hP hS hL)
    case ldiv => cases hln rfl; obtain ⟨v, w, r, rfl, h0, h⟩ := poLL_s h; exact lv_ldiv hx hb hdn h0 (go h hT hP hS hL)
    case lrem => cases hln rfl; obtain ⟨v, w, r, rfl, h0, h⟩ := poLL_s h; exact lv_lrem hx hb hdn h0 (go h hT hP hS hL)
    case lneg => cases hln rfl; obtain ⟨v, r, rfl, h⟩ := poL_s h; exact lv_lneg hx hb hdn (go h hT hP hS hL)
    case lcmp => cases hln rfl; obtain ⟨v, w, r, rfl, h⟩ := poLL_s h; exact W.lcmp hx hb hdn (go h hT hP hS hL)
    case goto o => cases hln rfl; exact lv_goto hx hb hdn (of_decide_eq_true hA) (go h hT hP hS hL)
    case if_icmp q o =>
      cases hln rfl
      obtain ⟨v, w, r, rfl, h⟩ := po2_s h
      have ht : (pc : Int) + o = (x : Int) := of_decide_eq_true hA
      cases q
      · exact lv_icmp_eq hx hb hdn ht (fun c1 => go (h.1 c1) hT hP hS hL) (fun c1 => go (h.2 c1) hT hP hS hL)
      · exact lv_icmp_ne hx hb hdn ht (fun c1 => go (h.1 c1) hT hP hS hL) (fun c1 => go (h.2 c1) hT hP hS hL)
      · exact lv_icmp_lt hx hb hdn ht (fun c1 => go (h.1 c1) hT hP hS hL) (fun c1 => go (h.2 c1) hT hP hS hL)
      · exact lv_icmp_ge hx hb hdn ht (fun c1 => go (h.1 c1) hT hP hS hL) (fun c1 => go (h.2 c1) hT hP hS hL)
      · exact lv_icmp_gt hx hb hdn ht (fun c1 => go (h.1 c1) hT hP hS hL) (fun c1 => go (h.2 c1) hT hP hS hL)
      · exact lv_icmp_le hx hb hdn ht (fun c1 => go (h.1 c1) hT hP hS hL) (fun c1 => go (h.2 c1) hT hP hS hL)
    case ifCond q o =>
      cases hln rfl
      obtain ⟨v, r, rfl, h⟩ := po1_s h
      have ht : (pc : Int) + o = (x : Int) := of_decide_eq_true hA
      cases q
      · exact lv_if_eq hx hb hdn ht (fun c1 => go (h.1 c1) hT hP hS hL) (fun c1 => go (h.2 c1) hT hP hS hL)
      · exact lv_if_ne hx hb hdn ht (fun c1 => go (h.1 c1) hT hP hS hL) (fun c1 => go (h.2 c1) hT hP hS hL)
      · exact lv_if_lt hx hb hdn ht (fun c1 => go (h.1 c1) hT hP hS hL) (fun c1 => go (h.2 c1) hT hP hS hL)
      · exact lv_if_ge hx hb hdn ht (fun c1 => go (h.1 c1) hT hP hS hL) (fun c1 => go (h.2 c1) hT hP hS hL)
      · exact lv_if_gt hx hb hdn ht (fun c1 => go (h.1 c1) hT hP hS hL) (fun c1 => go (h.2 c1) hT hP hS hL)
      · exact lv_if_le hx hb hdn ht (fun c1 => go (h.1 c1) hT hP hS hL) (fun c1 => go (h.2 c1) hT hP hS hL)
    case tableswitch df lo hi os =>
      obtain ⟨v, r, rfl, h⟩ := po1_s h
      simp only [chkA, Bool.and_eq_true, decide_eq_true_eq] at hA
      obtain ⟨⟨h1, h2⟩, h3⟩ := hA
      have hlen : (sws pc).length = os.toList.length := by have := congrArg List.length h1; simpa [tsw_len] using this
      rcases sw_s h with ⟨ix, q, e1, e2, e3, -⟩ | ⟨e1, e2⟩
      · have hq : (tsw pc lo os.toList)[ix]? = some (q.1.toInt, (q.2 : Int)) := by rw [← h1, List.getElem?_map, e1]; rfl
        obtain ⟨g1, o, g2, g3⟩ := tsw_at hq
        have g1' : q.1.toInt = lo + ix := g1
        have hix : ix < os.toList.length := by rw [← hlen]; exact (List.getElem?_eq_some_iff.mp e1).1
        have hv : v.toInt = lo + ix := by rw [e2]; exact g1'
        refine lv_tableIn (off := o) (tgt := q.2) hx hb hdn (by omega) (by omega) ?_ ?_ (go e3 hT hP hS hL)
        · have : (v.toInt - lo).toNat = ix := by omega
          rw [this, ← Array.getElem?_toList]; exact g2
        · have g3' : (q.2 : Int) = (pc : Int) + o := g3
          omega
      · refine lv_tableOut (tgt := x) hx hb hdn ?_ h3 (go e2 hT hP hS hL)
        rcases Int.lt_or_le v.toInt lo with q | q
        · exact Or.inl q
        · refine Or.inr ?_
          rcases Int.lt_or_le hi v.toInt with q2 | q2
          · exact q2
          · exfalso
            have hix : (v.toInt - lo).toNat < (sws pc).length := by rw [hlen]; omega
            obtain ⟨z, hz⟩ : ∃ z, (sws pc)[(v.toInt - lo).toNat]? = some z := ⟨_, List.getElem?_eq_getElem hix⟩
            have hq : (tsw pc lo os.toList)[(v.toInt - lo).toNat]? = some (z.1.toInt, (z.2 : Int)) := by rw [← h1, List.getElem?_map, hz]; rfl
            obtain ⟨g1, -⟩ := tsw_at hq
            have g1' : z.1.toInt = lo + ((v.toInt - lo).toNat : Nat) := g1
            exact e1 z (List.mem_of_getElem? hz) (Int32.toInt_inj.mp (by omega))
    case lookupswitch df ps =>
      obtain ⟨v, r, rfl, h⟩ := po1_s h
      simp only [chkA, Bool.and_eq_true, decide_eq_true_eq] at hA
      obtain ⟨⟨h1, h2⟩, h3⟩ := hA
      have key : ∀ (L : List (Int32 × Nat)) (M : List (Int × Int)), L.map (fun q => (q.1.toInt, (q.2 : Int))) = M.map (fun q => (q.1, (pc : Int) + q.2)) → sw v L (fun t => J T t lc r σ) x → ∃ (off : Int) (t : Nat), Op.lookupswitch.offset M df v.toInt = off ∧ (pc : Int) + off = (t : Int) ∧ J T t lc r σ := by
        intro L
        induction L with
        | nil =>
          intro M hM hs
          cases M with
          | nil => exact ⟨df, x, rfl, h3, hs⟩
          | cons z M => simp at hM
        | cons q L ih =>
          intro M hM hs
          cases M with
          | nil => simp at hM
          | cons z M =>
            simp only [List.map_cons, List.cons.injEq, Prod.mk.injEq] at hM
            obtain ⟨⟨g1, g2⟩, g3⟩ := hM
            obtain ⟨q1, q2⟩ := q
            obtain ⟨z1, z2⟩ := z
            by_cases hv : v = q1
            · refine ⟨z2, q2, ?_, g2.symm, hs.1 hv⟩
              rw [Op.lookupswitch.offset_cons, if_pos]
              first | (rw [hv]; exact g1) | (rw [hv]; exact g1.symm)
            · obtain ⟨off, t, f1, f2, f3⟩ := ih M g3 (hs.2 hv)
              exact ⟨off, t, by rw [lv_osw hv g1]; exact f1, f2, f3⟩
      obtain ⟨off, t, f1, f2, f3⟩ := key _ _ h1 h
      exact lv_lookup (off := off) (tgt := t) hx hb hdn h2 f1 f2 (go f3 hT hP hS hL)
    case getfield k =>
      cases hln rfl
      obtain ⟨j, r, rfl, h2⟩ := poR_s h
      simp only [chkA, Bool.and_eq_true, decide_eq_true_eq] at hA
      obtain ⟨h8, hA⟩ := hA
      obtain ⟨rfl, hy, v, h3, hv⟩ := gF_s (a := a) h2
      obtain ⟨C, T0, N, ty0, g1, g2, g3, g4, g5, g6⟩ := cinfo (oc_j h8).1
      obtain ⟨hw, -⟩ := fld_s g1 hA hts hst.2.2.2.2.2.2.2.2
      have hfv : (fvs a σ j)[y]? = some (cv a v) := by rw [fvs_at hy, hv]
      rcases hw with hw | hw
      · exact va_get (D := D) (C := C) (T := T0) (N := N) hx hb hts g3 hown hK hP j (wld_ao h8) g1 y (by omega) hw (fun _ h9 => h9) hfv hdn (go h3 hT hP hS hL)
      · exact va_getN (D := D) (C := C) (T := T0) (N := N) hx hb hts g3 hown hK hP j (wld_ao h8) g1 y (by omega) hw (fun _ h9 => h9) hfv hdn (go h3 hT hP hS hL)
    case putfield k =>
      cases hln rfl
      dsimp only at h
      split at h
      · rename_i v j r
        simp only [chkA, Bool.and_eq_true, decide_eq_true_eq] at hA
        obtain ⟨h8, hA⟩ := hA
        obtain ⟨rfl, hy, h3⟩ := pF_s h
        obtain ⟨C, T0, N, ty0, g1, g2, g3, g4, g5, g6⟩ := cinfo (oc_j h8).1
        obtain ⟨hw, hfin⟩ := fld_s g1 hA hts hst.2.2.2.2.2.2.2.2
        have hj := oc_j h8
        have hj34 : j < 34 := Nat.lt_trans hj.1 (by decide)
        have hyN : y < N := by omega
        have hk6 := g6 y hyN
        have hl9 : y < (fvs a σ j).length := by rw [fvs_len]; exact hy
        rcases h3 with ⟨z, rfl, hkd, h4⟩ | ⟨r2, rfl, hkd, h4⟩
        · have hty : ∃ ty, parseFieldDescriptor (T0 y).2.2.1 = some ty ∧ narrow ty (.int z) = .int z ∧ fits ty (.int z) = true := by
            rcases hkd with e | ⟨e, e2⟩
            · have : (T0 y).2.2.1 = "I" := by unfold kdOk at hk6; rw [e] at hk6; simpa using hk6
              rw [this]; exact ⟨.int, by decide +kernel, rfl, rfl⟩
            · have : (T0 y).2.2.1 = "Z" := by unfold kdOk at hk6; rw [e] at hk6; simpa using hk6
              rw [this]; refine ⟨.boolean, by decide +kernel, ?_, ?_⟩
              · rcases e2 with rfl | rfl <;> decide +kernel
              · rcases e2 with rfl | rfl <;> decide +kernel
          obtain ⟨ty, t1, t2, t3⟩ := hty
          have e9 := wld_sF (a := a) (cI := cI) (cB := cB) (cJ := cJ) (σ := σ) (v := z) hj34 hj.2 hy (by rcases hkd with e | ⟨e, -⟩; (· exact Or.inl e); (· exact Or.inr e))
          rcases hw with hw | hw
          · refine va_put (D := D) (C := C) (T := T0) (N := N) (v := .int z) (ty := ty) hx hb hts g3 ty0 g4 g5 hown hK hP hD hS j (wld_ao h8) g1 y hyN hw (fun _ h9 => h9) (hfin rfl) t1 t2 t3 hl9 hdn (fun H1 locs1 hP1 hD1 hS1 => ?_)
            rw [e9] at hP1
            exact go h4 hT hP1 hS1 hL
          · refine va_putN (D := D) (C := C) (T := T0) (N := N) (v := .int z) (ty := ty) hx hb hts g3 ty0 g4 g5 hown hK hP hD hS j (wld_ao h8) g1 y hyN hw (fun _ h9 => h9) (hfin rfl) t1 t2 t3 hl9 hdn (fun H1 locs1 hP1 hD1 hS1 => ?_)
            rw [e9] at hP1
            exact go h4 hT hP1 hS1 hL
        · have hde : (T0 y).2.2.1 = "[B" := by unfold kdOk at hk6; rw [hkd] at hk6; simpa using hk6
          have t1 : parseFieldDescriptor (T0 y).2.2.1 = some (.array .byte) := by rw [hde]; decide +kernel
          have e9 := wld_sR (a := a) (cI := cI) (cB := cB) (cJ := cJ) (σ := σ) (r := r2) hj34 hj.2 hy hkd
          rcases hw with hw | hw
          · refine va_put (D := D) (C := C) (T := T0) (N := N) (v := .ref (a r2)) (ty := .array .byte) hx hb hts g3 ty0 g4 g5 hown hK hP hD hS j (wld_ao h8) g1 y hyN hw (fun _ h9 => h9) (hfin rfl) t1 rfl rfl hl9 hdn (fun H1 locs1 hP1 hD1 hS1 => ?_)
            rw [e9] at hP1
            exact go h4 hT hP1 hS1 hL
          · refine va_putN (D := D) (C := C) (T := T0) (N := N) (v := .ref (a r2)) (ty := .array .byte) hx hb hts g3 ty0 g4 g5 hown hK hP hD hS j (wld_ao h8) g1 y hyN hw (fun _ h9 => h9) (hfin rfl) t1 rfl rfl hl9 hdn (fun H1 locs1 hP1 hD1 hS1 => ?_)
            rw [e9] at hP1
            exact go h4 hT hP1 hS1 hL
      · exact h.elim
    case arraylength =>
      cases hln rfl
      obtain ⟨j, r, rfl, h2⟩ := poR_s h
      cases hz : Nat.beq j 50 with
      | true =>
        simp only [hz, cond_true] at h2
        obtain ⟨rfl, h3⟩ := h2
        cases Nat.eq_of_beq_eq_true hz
        obtain ⟨f1, f2⟩ := hsc pc _ _ _ _ hE (Or.inr rfl)
        exact va_slen hx hb f1 (by omega) (by show ¬ N0 ≤ _; omega) hS hdn (go h3 hT hP hS hL)
      | false =>
        simp only [hz, cond_false] at h2
        obtain ⟨h0, h3⟩ := h2
        rcases ak_no j with e | e | e
        · exact absurd e h0
        · rcases e with e | e | e
          · exact va_alen hx hb hK hP j 0 (wld_ai e) (ty := .int) rfl rfl hdn (go h3 hT hP hS hL)
          · exact va_alen hx hb hK hP j 1 (wld_ab e) (ty := .byte) rfl rfl hdn (go h3 hT hP hS hL)
          · exact va_alen hx hb hK hP j 2 (wld_aj e) (ty := .long) rfl rfl hdn (go h3 hT hP hS hL)
        · obtain ⟨f1, f2⟩ := ak_st e
          exact va_tlen hx hb (hst.1 j f1 f2).2 hS rfl hdn (go h3 hT hP hS hL)
    case iaload =>
      cases hln rfl
      obtain ⟨v, r1, rfl, h1⟩ := po1_s h
      obtain ⟨j, r, rfl, h2⟩ := poR_s h1
      cases hz : Nat.beq j 50 with
      | true =>
        simp only [hz, cond_true] at h2
        obtain ⟨rfl, hi, h3⟩ := h2
        cases Nat.eq_of_beq_eq_true hz
        obtain ⟨f1, f2⟩ := hsc pc _ _ _ _ hE (Or.inl rfl)
        exact va_sld hx hb f1 (by omega) (by show ¬ N0 ≤ _; omega) hS hi hdn (go h3 hT hP hS hL)
      | false =>
        simp only [hz, cond_false] at h2
        obtain ⟨e, hi, h3⟩ := h2
        have e40 : j < 40 := Nat.lt_trans (ak_in (Or.inl e)) (by decide)
        simp only [el, if_pos e40] at h3
        exact va_iald hx hb hK hP j 0 (wld_ai e) rfl hi hdn (go h3 hT hP hS hL)
    case baload =>
      cases hln rfl
      obtain ⟨v, r1, rfl, h1⟩ := po1_s h
      obtain ⟨j, r, rfl, h2⟩ := poR_s h1
      obtain ⟨e, hi, h3⟩ := h2
      rcases e with e | e
      · have e40 : j < 40 := Nat.lt_trans (ak_in (Or.inr (Or.inl e))) (by decide)
        simp only [el, if_pos e40] at h3
        exact va_bald hx hb hK hP j 1 (wld_ab e) rfl hi hdn (go h3 hT hP hS hL)
      · obtain ⟨f1, f2⟩ := ak_st e
        have e40 : ¬ j < 40 := Nat.not_lt.mpr f1
        simp only [el, if_neg e40] at h3
        exact va_tb hx hb (hst.1 j f1 f2).2 hS hi rfl hdn (go h3 hT hP hS hL)
    case laload =>
      cases hln rfl
      obtain ⟨v, r1, rfl, h1⟩ := po1_s h
      obtain ⟨j, r, rfl, e, hi, h3⟩ := poR_s h1
      exact va_lald hx hb hK hP j 2 (wld_aj e) rfl hi hdn (go h3 hT hP hS hL)
    case iastore =>
      cases hln rfl
      obtain ⟨v, w, r1, rfl, h1⟩ := po2_s h
      obtain ⟨j, r, rfl, e, hi, h3⟩ := poR_s h1
      refine va_iast hx hb hK hP hD hS j 0 (wld_ai e) rfl hi hdn (fun H1 locs1 hP1 hD1 hS1 => ?_)
      rw [wld_sMi (ak_in (Or.inl e)) e] at hP1
      exact go h3 hT hP1 hS1 hL
    case bastore =>
      cases hln rfl
      obtain ⟨v, w, r1, rfl, h1⟩ := po2_s h
      obtain ⟨j, r, rfl, e, hi, h3⟩ := poR_s h1
      refine va_bast hx hb hK hP hD hS j 1 (wld_ab e) rfl hi hdn (fun H1 locs1 hP1 hD1 hS1 => ?_)
      rw [wld_sMb (ak_in (Or.inr (Or.inl e))) e] at hP1
      exact go h3 hT hP1 hS1 hL
    case lastore =>
      cases hln rfl
      obtain ⟨w, r, rfl, h⟩ := poL_s h
      obtain ⟨v, r1, rfl, h1⟩ := po1_s h
      obtain ⟨j, r, rfl, e, hi, h3⟩ := poR_s h1
      refine va_last hx hb hK hP hD hS j 2 (wld_aj e) rfl hi hdn (fun H1 locs1 hP1 hD1 hS1 => ?_)
      rw [wld_sO (ak_in (Or.inr (Or.inr e))) e] at hP1
      exact go h3 hT hP1 hS1 hL
    case invokevirtual k =>
      have hz : (Nat.ble y st.length && Nat.ble (st.drop y).length 4) = true := by
        cases hz : (Nat.ble y st.length && Nat.ble (st.drop y).length 4) with
        | true => rfl
        | false => simp only [hz, cond_false] at h
      simp only [hz, cond_true] at h
      rw [Bool.and_eq_true] at hz
      have hl1 : y ≤ st.length := Nat.le_of_ble_eq_true hz.1
      have hl2 : (st.drop y).length ≤ 4 := Nat.le_of_ble_eq_true hz.2
      have hst9 : st = (st.take y).reverse.reverse ++ st.drop y := by simp
      rw [hst9]
      refine hcall pc _ _ _ _ _ hE ⟨k, Or.inl rfl⟩ T _ _ σ _ _ H locs ls (by simp; omega) hl2 h.1 hL.2.1 h.2 hP hS (fun r τ H1 locs1 hq hP1 hS1 => go hq h.1 hP1 hS1 hL) (fun E τ H1 locs1 q ce' hq hP1 hS1 f1 f2 f3 => ?_)
      unfold hX at hq
      split at hq
      · rename_i h9 k9 hh
        exact hhand pc E h9 k9 _ lc _ H1 locs1 ls q ce' hh f1 f2 f3 hL (fun ls' hl' => go hq h.1 hP1 hS1 hl')
      · rename_i hh
        exact hout pc E _ τ _ H1 locs1 ls q ce' hh hq h.1 hP1 hS1 f1 f2 f3
    case invokestatic k =>
      have hz : (Nat.ble y st.length && Nat.ble (st.drop y).length 4) = true := by
        cases hz : (Nat.ble y st.length && Nat.ble (st.drop y).length 4) with
        | true => rfl
        | false => simp only [hz, cond_false] at h
      simp only [hz, cond_true] at h
      rw [Bool.and_eq_true] at hz
      have hl1 : y ≤ st.length := Nat.le_of_ble_eq_true hz.1
      have hl2 : (st.drop y).length ≤ 4 := Nat.le_of_ble_eq_true hz.2
      have hst9 : st = (st.take y).reverse.reverse ++ st.drop y := by simp
      rw [hst9]
      refine hcall pc _ _ _ _ _ hE ⟨k, Or.inr rfl⟩ T _ _ σ _ _ H locs ls (by simp; omega) hl2 h.1 hL.2.1 h.2 hP hS (fun r τ H1 locs1 hq hP1 hS1 => go hq h.1 hP1 hS1 hL) (fun E τ H1 locs1 q ce' hq hP1 hS1 f1 f2 f3 => ?_)
      unfold hX at hq
      split at hq
      · rename_i h9 k9 hh
        exact hhand pc E h9 k9 _ lc _ H1 locs1 ls q ce' hh f1 f2 f3 hL (fun ls' hl' => go hq h.1 hP1 hS1 hl')
      · rename_i hh
        exact hout pc E _ τ _ H1 locs1 ls q ce' hh hq h.1 hP1 hS1 f1 f2 f3
    case new k =>
      cases st with
      | nil => exact hthrow pc k x y c' d T σ H locs ls hE h.2 h.1 hL.2.1 hP hS
      | cons z r => exact h.elim
    case ireturn =>
      cases hln rfl
      dsimp only at h
      split at h
      · exact hri pc _ _ _ _ _ T σ H locs ls hE hdn h hT hP hS
      · exact h.elim
    case lreturn =>
      cases hln rfl
      dsimp only at h
      split at h
      · exact hrl pc _ _ _ _ _ T σ H locs ls hE hdn h hT hP hS
      · exact h.elim
    case return_ =>
      cases hln rfl
      dsimp only at h
      split at h
      · exact hrv pc _ _ _ _ T σ H locs ls hE hdn h hT hP hS
      · exact h.elim
    all_goals exact h.elim
end Snd
