/-! ===== the law's own methods: a call in a try, caught by name ===== -/
abbrev xI : String := "java/lang/IndexOutOfBoundsException"
abbrev xA : String := "java/lang/IllegalArgumentException"
def hdA (pc0 : Nat) (E0 : String) (h0 k0 : Nat) : Nat → String → Option (Nat × Nat) := fun pc E => if pc = pc0 ∧ E = E0 then some (h0, k0) else none
def hdB (pc0 : Nat) (h0 h1 k0 : Nat) : Nat → String → Option (Nat × Nat) := fun pc E => if pc = pc0 ∧ E = xI then some (h0, k0) else if pc = pc0 ∧ E = xA then some (h1, k0) else none
def mkW (tb : Nat → Option Ent) (ce : Nat → Nat × Ct) (hd : Nat → String → Option (Nat × Nat)) (mc maxL n : Nat) : Ct := fun av σ Q _ => okv 99 maxL n av = true ∧ Lf (Step tb ce hd sc0 xn0 mc sws0 (fun r _ τ => Q r τ) (fun _ _ _ => False)) 0 0 (pad maxL (lcs av)) [] σ
section Wr
variable {l : Launch} {N0 : Nat} {a : Nat → Nat} {D : va_G} {cI cB cJ : ClassId}
def GpW (N0 : Nat) (a : Nat → Nat) (D : va_G) (cI cB cJ : ClassId) (σ : Sg) (U : State) : Prop := Gp N0 a D cI cB cJ σ U ∧ va_Nc xA xI U
theorem GpW_blind {av : List Value} {σ : Sg} : FrameBlind (va_Pc av (GpW N0 a D cI cB cJ σ)) := by
  intro A U g mk h
  exact ⟨h.1, (Gp_blind A U g mk ⟨h.1, h.2.1⟩).2, va_Nc.moved (u := U) (U := U.calling g mk A) (Vm.Alike.refl U.vm) h.2.2⟩
def ConW (l : Launch) (N0 : Nat) (a : Nat → Nat) (D : va_G) (cI cB cJ : ClassId) (y : MethodName) (ws : List Cond) (f lo mc : Nat) (P : Ct) : Prop :=
  ∀ (av : List Value) (σ : Sg) (Q : Po) (X : Xo), P av σ Q X → vx_Met l y ws (rmO f lo mc) (va_Pc (av.map (cv a)) (GpW N0 a D cI cB cJ σ)) (Qg N0 a D cI cB cJ Q) (Xg N0 a D cI cB cJ X) mc (6 * mc) (AN N0)
/-- a handler's rule, in whatever method state -/
def HdS (l : Launch) (N0 : Nat) (a : Nat → Nat) (D : va_G) (cI cB cJ : ClassId) (own : String) (cc : ByteArray) (nL : Nat) (R : Room) (hh : List (Nat × Nat × Nat × Nat)) (hd : Nat → String → Option (Nat × Nat)) : Prop :=
  ∀ ⦃p : Program⦄ ⦃e : Env⦄ ⦃s : State⦄ ⦃m : MethodId⦄ ⦃args : Array Value⦄ ⦃below : List Frame⦄ ⦃meth : Method⦄ ⦃c : Code⦄ ⦃Z : State → Prop⦄, Cx p s m args c cc nL N0 a D cI cB cJ own → va_Nc xA xI s → c.exceptionTable.toList = tableOf hh →
    ∀ (pc : Nat) (E : String) (h k T : Nat) (lc : Lc) (rest : List Value) (H1 : Heap) (locs1 : List Loc) (ls : Array Slot) (q : Addr) (ce : Cell), hd pc E = some (h, k) → H1[q]? = some ce → ce.vm = .none → s.vm.findClass E = some ce.cls → Lv a ls nL lc →
      (∀ ls' : Array Slot, Lv a ls' nL (st1 lc k none) → W p l e R s m args below meth c H1 locs1 T (6 * T) Z (F0 m h ls' [])) → vx_W p l e R s m args below meth c H1 locs1 T (6 * T) Z (F0 m pc ls rest) q
/-- the handler's first instruction stores the exception -/
theorem st_ast {p : Program} {e : Env} {R : Room} {s : State} {m : MethodId} {args : Array Value} {below : List Frame} {meth : Method} {c : Code} {Z : State → Prop} {cc : ByteArray} {nL hp k T n : Nat} {H1 : Heap} {locs1 : List Loc} {ls : Array Slot} {q : Addr} {lc : Lc} (hx : p.tables.exec = Jvm.exec) (hb : c.code = cc)
    (hdec : (∃ k4 : Fin 4, k4.val = k ∧ decode cc hp = .ok (.astore_n k4, 1) ∧ n = 1) ∨ (decode cc hp = .ok (.astore k, 2) ∧ n = 2)) (hk : k < nL) (hL : Lv a ls nL lc)
    (kk : ∀ ls' : Array Slot, Lv a ls' nL (st1 lc k none) → W p l e R s m args below meth c H1 locs1 T (6 * T) Z (F0 m (hp + n) ls' [])) : W p l e R s m args below meth c H1 locs1 T (6 * T) Z (F0 m hp ls [.ref q]) := by
  rcases hdec with ⟨k4, rfl, h1, rfl⟩ | ⟨h1, rfl⟩
  · exact lv_astore_n hx hb h1 rfl (prs_has hL) hk rfl (fun ls' hl' => kk ls' (Lv_none hL.1 hl'))
  · exact lv_astore hx hb h1 (prs_has hL) hk rfl (fun ls' hl' => kk ls' (Lv_none hL.1 hl'))
theorem hd_A {own : String} {cc : ByteArray} {nL : Nat} {R : Room} {pc0 h0 k0 s0 e0 hp ct n : Nat} {E0 : String} (hc : s0 ≤ pc0 ∧ pc0 < e0) (hct : ct ≠ 0) (hlink : ∀ w ∈ ([.classLink own ct E0] : List Cond), w ∈ Tw) (hcast : Cond.castable E0 E0 ∈ lw_tbl)
    (hdec : (∃ k4 : Fin 4, k4.val = k0 ∧ decode cc hp = .ok (.astore_n k4, 1) ∧ n = 1) ∨ (decode cc hp = .ok (.astore k0, 2) ∧ n = 2)) (hh0 : hp + n = h0) (hk : k0 < nL) : HdS l N0 a D cI cB cJ own cc nL R [(s0, e0, hp, ct)] (hdA pc0 E0 h0 k0) := by
  intro p e s m args below meth c Z C0 hNc htab pc E h k T lc rest H1 locs1 ls q ce hd f1 f2 f3 hL kk
  obtain ⟨hx, hb, hml, hown, hts, hK, hDD, hst, hN⟩ := id C0
  unfold hdA at hd
  split at hd
  · rename_i hq
    obtain ⟨rfl, rfl⟩ := hq
    cases hd
    have hcv : covers (⟨s0, e0, hp, ct⟩ : ExceptionTableEntry) pc = true := by simp [covers, hc.1, hc.2]
    refine cb_first (x := ⟨s0, e0, hp, ct⟩) (t := []) hown htab hcv hct (hts _ (hlink _ (by simp))) (va_Nw.use rfl (hst.2.2.2.2.2.2.2.2 _ hcast rfl)) f1 f2 f3 ?_
    exact st_ast (n := n) hx hb hdec hk hL (fun ls' hl' => by rw [hh0]; exact kk ls' hl')
  · cases hd
theorem hd_B {own : String} {cc : ByteArray} {nL : Nat} {R : Room} {pc0 h0 h1 k0 s0 e0 hp hp1 ct ct1 n : Nat} (hc : s0 ≤ pc0 ∧ pc0 < e0) (hct : ct ≠ 0) (hct1 : ct1 ≠ 0) (hlink : ∀ w ∈ ([.classLink own ct xI, .classLink own ct1 xA] : List Cond), w ∈ Tw) (hcast : Cond.castable xI xI ∈ lw_tbl) (hcast1 : Cond.castable xA xA ∈ lw_tbl)
    (hdec : (∃ k4 : Fin 4, k4.val = k0 ∧ decode cc hp = .ok (.astore_n k4, 1) ∧ n = 1) ∨ (decode cc hp = .ok (.astore k0, 2) ∧ n = 2)) (hdec1 : (∃ k4 : Fin 4, k4.val = k0 ∧ decode cc hp1 = .ok (.astore_n k4, 1) ∧ n = 1) ∨ (decode cc hp1 = .ok (.astore k0, 2) ∧ n = 2)) (hh0 : hp + n = h0) (hh1 : hp1 + n = h1) (hk : k0 < nL) :
    HdS l N0 a D cI cB cJ own cc nL R [(s0, e0, hp, ct), (s0, e0, hp1, ct1)] (hdB pc0 h0 h1 k0) := by
  intro p e s m args below meth c Z C0 hNc htab pc E h k T lc rest H1 locs1 ls q ce hd f1 f2 f3 hL kk
  obtain ⟨hx, hb, hml, hown, hts, hK, hDD, hst, hN⟩ := id C0
  have hcv : ∀ pc', pc' = pc0 → covers (⟨s0, e0, hp, ct⟩ : ExceptionTableEntry) pc' = true := by intro pc' e9; simp [covers, e9, hc.1, hc.2]
  have hcv1 : ∀ pc', pc' = pc0 → covers (⟨s0, e0, hp1, ct1⟩ : ExceptionTableEntry) pc' = true := by intro pc' e9; simp [covers, e9, hc.1, hc.2]
  unfold hdB at hd
  split at hd
  · rename_i hq
    obtain ⟨e9, rfl⟩ := hq
    cases hd
    refine cb_first (x := ⟨s0, e0, hp, ct⟩) (t := [⟨s0, e0, hp1, ct1⟩]) hown htab (hcv _ e9) hct (hts _ (hlink _ (by simp))) (va_Nw.use rfl (hst.2.2.2.2.2.2.2.2 _ hcast rfl)) f1 f2 f3 ?_
    exact st_ast (n := n) hx hb hdec hk hL (fun ls' hl' => by rw [hh0]; exact kk ls' hl')
  · split at hd
    · rename_i hq
      obtain ⟨e9, rfl⟩ := hq
      cases hd
      refine cb_second (x1 := ⟨s0, e0, hp, ct⟩) (x := ⟨s0, e0, hp1, ct1⟩) (t := []) hown htab (hcv _ e9) hct (hcv1 _ e9) hct1 (hts _ (hlink _ (by simp))) hNc (hts _ (hlink _ (by simp))) (va_Nw.use rfl (hst.2.2.2.2.2.2.2.2 _ hcast1 rfl)) f1 f2 f3 ?_
      exact st_ast (n := n) hx hb hdec1 hk hL (fun ls' hl' => by rw [hh1]; exact kk ls' hl')
    · cases hd
set_option maxHeartbeats 1000000 in
/-- THE CONTRACT OF A METHOD WITH HANDLERS: nothing leaves it -/
theorem con_W {y : MethodName} {cc : ByteArray} {maxL f lo mc n : Nat} {hh : List (Nat × Nat × Nat × Nat)} {tb : Nat → Option Ent} {ce : Nat → Nat × Ct} {hd : Nat → String → Option (Nat × Nat)}
    (hy : plainName y.cls = true) (hchk : ∀ pc en, tb pc = some en → (chk y.cls cc maxL sws0 pc en && chkR (some .int) false en) = true)
    (hcall : ∀ pc i x yy c' d, tb pc = some (i, x, yy, c', d) → (∃ k, i = .invokevirtual k ∨ i = .invokestatic k) → decode cc pc = .ok (i, 3) → CallS l N0 a D cI cB cJ y.cls cc maxL (rmO f lo mc) mc pc yy (ce x).1 (ce x).2)
    (hhd : HdS l N0 a D cI cB cJ y.cls cc maxL (rmO f lo mc) hh hd) :
    ConW l N0 a D cI cB cJ y (Cond.codeWith y cc maxL (some .int) hh :: Tw) f lo mc (mkW tb ce hd mc maxL n) := by
  intro av σ Q X hp
  obtain ⟨hok, hp⟩ := hp
  refine vx_ofWH (cc := cc) (maxL := maxL) (ret := some .int) (hh := hh) hy rfl ?_
  intro p e s m args below meth c s₁ B hml hv
  obtain ⟨rfl, ⟨hN, hP, hK, hDD, hst⟩, hNc⟩ := hv
  have hx := B.exec
  have hb := B.bytes
  have hr := B.returns
  have hts0 := atoms_spec (ws := Cond.codeWith y cc maxL (some .int) hh :: Tw) B.pre
  have hts : ∀ w ∈ Tw, w.before (av.map (cv a)).toArray s = true := fun w h => hts0 w (List.mem_cons_of_mem _ h)
  have htab : c.exceptionTable.toList = tableOf hh := vx_table (x := y) B (hts0 _ List.mem_cons_self)
  have hown : s.vm.findClass y.cls = some m.cls := findClass_of_methodNamed B.named
  have hlocks := B.notSynchronized
  have C0 : Cx p s m (av.map (cv a)).toArray c cc maxL N0 a D cI cB cJ y.cls := ⟨hx, hb, hml, hown, hts, hK, hDD, hst, hN⟩
  have hchk1 : ∀ pc en, tb pc = some en → chk y.cls cc maxL sws0 pc en = true := fun pc en h => (Bool.and_eq_true_iff.mp (hchk pc en h)).1
  have hchk2 : ∀ pc en, tb pc = some en → chkR (some .int) false en = true := fun pc en h => (Bool.and_eq_true_iff.mp (hchk pc en h)).2
  have hS : va_S (AN N0) s.heap s.heap [] := va_S.rf
  have hl := lv_entry (av.map (cv a)) (n := maxL) (by rw [lcs_sl]; exact (okv_n hok).2)
  rw [lg_entry_eq]
  generalize (lg_sl (av.map (cv a)) ++ List.replicate (maxL - (lg_sl (av.map (cv a))).length) Slot.unset).toArray = ls at hl ⊢
  have hL : Lv a ls maxL (pad maxL (lcs av)) := by
    refine ⟨pad_len _ _, hl.1, hl.2.1, fun i v h => ?_⟩
    have h1 := lcs_args a av 0 i v (pad_gl _ _ _ _ h)
    rw [Nat.zero_add] at h1
    exact hl.2.2 _ h1
  have I : Im p l e (rmO f lo mc) s m (av.map (cv a)).toArray below meth c (vx_MQ below (Qg N0 a D cI cB cJ Q) (Xg N0 a D cI cB cJ X) (av.map (cv a)).toArray s mc (6 * mc) (AN N0)) maxL mc N0 a D cI cB cJ 0 0 (pad maxL (lcs av)) [] σ := by
    refine hp _ (sound C0 hchk1 ?_ ?_ (hhd C0 hNc htab) ?_ ?_ ?_ ?_ ?_)
    · intro pc i x yy c' d hE hi
      obtain ⟨n9, hd9, hl9⟩ := chk_d (hchk1 pc _ hE)
      have hd3 : decode cc pc = .ok (i, 3) := by
        obtain ⟨k, rfl | rfl⟩ := hi
        · cases hl9 rfl; exact hd9
        · cases hl9 rfl; exact hd9
      exact hcall pc i x yy c' d hE hi hd3 rfl rfl C0
    · intro pc i yy c' d hE hi
      have := hchk2 pc _ hE
      rcases hi with rfl | rfl <;> simp [chkR] at this
    · intro pc E T τ rest H1 locs1 ls q ce' _ hX
      exact hX.elim
    · intro pc k x yy c' d T σ H locs ls hE hX
      exact hX.elim
    · intro pc x yy c' d v T σ H locs ls hE hdg hR hT hP1 hS1
      refine vx_ret (W.widen (k := mc) (n := 6 * mc) hT (by omega) ?_)
      exact W.iret hx hb hr (fun t ht _ => ⟨⟨some (.int v), σ, rfl, hR, by rw [ht]; exact hP1⟩, hS1.F ht⟩) hS1.2.2 hdg hlocks
    · intro pc x yy c' d v T σ H locs ls hE hdg hR hT hP1 hS1
      have h9 := hchk2 pc _ hE
      simp [chkR] at h9
    · intro pc x yy c' d T σ H locs ls hE hdg hR hT hP1 hS1
      have h9 := hchk2 pc _ hE
      simp [chkR] at h9
  exact I (Nat.zero_le _) s.heap [] ls hP hS hL
theorem mkW_ok {tb : Nat → Option Ent} {ce : Nat → Nat × Ct} {hd : Nat → String → Option (Nat × Nat)} {mc maxL n : Nat} : ∀ av σ Q X, mkW tb ce hd mc maxL n av σ Q X → okv 99 maxL n av = true := fun _ _ _ _ h => h.1
end Wr
