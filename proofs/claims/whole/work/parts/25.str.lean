section Str
variable {l : Launch} {N0 : Nat} {a : Nat → Nat}
def Qs (r : Option Value) : Array Value → State → Outcome → State → Prop := fun _ st o t => o = .returned r ∧ t.heap = st.heap
abbrev Ms (l : Launch) (y : MethodName) (c : ByteArray) (mL : Nat) (rt : Option FieldType) (f lo : Nat) (av : List Value) (B : State → Prop) (r : Option Value) : Prop := Met l y (Cond.code y c mL rt :: Tw) { frames := f, cells := 0, slots := 0, locals := lo } (va_Pc av B) (Qs r) 0 0 (fun _ => False)
theorem Stt_blind {av : List Value} : FrameBlind (va_Pc av (fun U => Stt a N0 U U.heap)) := by
  intro A U g mk h
  exact ⟨h.1, Stt.same (s := U) (U := U.calling g mk A) rfl h.2⟩
theorem tru_blind {av : List Value} : FrameBlind (va_Pc av (fun _ => True)) := fun _ _ _ _ h => ⟨h.1, trivial⟩
set_option maxRecDepth 100000 in
theorem c_pchk {i n : Int32} {v : Value} (hv : v.category = 1) (h1 : ¬ i < 0) (h2 : i < n) : Ms l yJ3_checkIndex_8e157 cJ3_checkIndex_8e157 3 (some .int) 0 0 [.int i, .int n, v] (fun _ => True) (some (.int i)) := by
  refine Met.ofW (cc := cJ3_checkIndex_8e157) (maxL := 3) (ret := some .int) (by decide) rfl ?_
  intro p e s m args below meth c s₁ B hml hv'
  obtain ⟨rfl, -⟩ := hv'
  have hx := B.exec
  have hb := B.bytes
  have hr := B.returns
  have hlocks := B.notSynchronized
  have hl := lv_entry ([.int i, .int n, v]) (n := 3) (by rw [show lg_sl [.int i, .int n, v] = [.val (.int i), .val (.int n), .val v] by simp [lg_sl, List.flatMap_cons, hv, show (Value.int i).category = 1 from rfl, show (Value.int n).category = 1 from rfl]]; exact Nat.le_refl _)
  rw [lg_entry_eq]
  generalize (lg_sl ([.int i, .int n, v]) ++ List.replicate (3 - (lg_sl ([.int i, .int n, v])).length) Slot.unset).toArray = ls at hl ⊢
  have hl0 : ls[0]? = some (.val (.int i)) := hl.2.2 (0, .int i) (by simp [lv_args])
  have hl1 : ls[1]? = some (.val (.int n)) := hl.2.2 (1, .int n) (by simp [lv_args, Value.category])
  refine lv_iload_n hx hb (k := 0) (show decode cJ3_checkIndex_8e157 0 = .ok (.iload_n 0, 1) by decide +kernel) rfl hl0 ?_
  refine lv_if_lt (tgt := 9) hx hb (show decode cJ3_checkIndex_8e157 1 = .ok (.ifCond .lt 8, 3) by decide +kernel) (by decide) (fun c1 => absurd c1 h1) (fun _ => ?_)
  refine lv_iload_n hx hb (k := 0) (show decode cJ3_checkIndex_8e157 4 = .ok (.iload_n 0, 1) by decide +kernel) rfl hl0 ?_
  refine lv_iload_n hx hb (k := 1) (show decode cJ3_checkIndex_8e157 5 = .ok (.iload_n 1, 1) by decide +kernel) rfl hl1 ?_
  refine lv_icmp_lt (tgt := 16) hx hb (show decode cJ3_checkIndex_8e157 6 = .ok (.if_icmp .lt 10, 3) by decide +kernel) (by decide) (fun _ => ?_) (fun c1 => absurd h2 c1)
  refine lv_iload_n hx hb (k := 0) (show decode cJ3_checkIndex_8e157 16 = .ok (.iload_n 0, 1) by decide +kernel) rfl hl0 ?_
  exact W.iret hx hb hr (fun t ht _ => ⟨rfl, ht⟩) (fun q h => (nomatch h)) (show decode cJ3_checkIndex_8e157 17 = .ok (.ireturn, 1) by decide +kernel) hlocks
/-- a callee that only answers -/
theorem pure_S {p : Program} {e : Env} {R : Room} {s : State} {m : MethodId} {args : Array Value} {below : List Frame} {meth : Method} {c : Code} {H : Heap} {locs : List Loc} {cells slots : Nat} {Z : State → Prop} {cc cY : ByteArray} {nL mY f lo pc idx n : Nat} {y : MethodName} {rY : Option FieldType} {own : String} {av rest : List Value} {B : State → Prop} {r : Option Value} {ls : Array Slot}
    (S : CallFix p m c cc nL s args Tw own) (hM : Ms l y cY mY rY f lo av B r) (hw : ∀ w ∈ wd3 own idx y, w ∈ Tw) (hcode : Cond.code y cY mY rY ∈ Tw) (hB : FrameBlind (va_Pc av B)) (hU : ∀ U : State, U.heap = H → s.WarmedH U.vm → B U)
    (hd : y.cls ≠ "java/lang/invoke/MethodHandle" ∧ y.cls ≠ "java/lang/invoke/VarHandle" ∧ (parseMethodDescriptor y.desc).map (fun d => d.parameters.length) = some n) (hR : f + 1 ≤ R.frames ∧ 8 + (mY + 11) + lo ≤ R.locals) (hn : av.length = n) (hls : ls.size = nL) (hc : cells ≤ R.cells ∧ slots ≤ R.slots)
    (hrest : (rest.map fun v => v.category).sum ≤ 8) (hdec : decode cc pc = .ok (.invokestatic idx, 3)) (kk : W p l e R s m args below meth c H locs cells slots Z (F0 m (pc + 3) ls (r.toList ++ rest))) :
    W p l e R s m args below meth c H locs cells slots Z (F0 m pc ls (av.reverse ++ rest)) := by
  have hG : GoodIn Tw (va_wsS own idx y (Cond.code y cY mY rY :: Tw)) := good_sub (fun w hw' => by
    rcases List.mem_append.mp hw' with h | h
    · exact hw w h
    · rcases List.mem_cons.mp h with h | h
      · rw [h]; exact hcode
      · exact h)
  refine W.callX (W.runS (As := av) (rest := rest) (n := n) (ret := rY) (bytes := cY) (maxL := mY) (mc := 0) (ms := 0) S hM (va_cwS n S.2.2.2.2 hG rfl rfl rfl hd hR) ⟨hB, fun U h1 h2 => ⟨rfl, hU U h1 h2⟩⟩ rfl hn hls rfl (lv_room hrest) hdec hc) (fun _ h => h.elim) (fun v st₀ t h0 hq => ?_)
  obtain ⟨h1, h2⟩ := hq
  cases h1
  rw [h2, h0]
  exact kk
theorem pure_V {p : Program} {e : Env} {R : Room} {s : State} {m : MethodId} {args : Array Value} {below : List Frame} {meth : Method} {c : Code} {H : Heap} {locs : List Loc} {cells slots : Nat} {Z : State → Prop} {cc cY : ByteArray} {nL mY f lo pc idx n b : Nat} {y : MethodName} {rY : Option FieldType} {own C : String} {av rest : List Value} {B : State → Prop} {r : Option Value} {ls : Array Slot}
    (S : CallFix p m c cc nL s args Tw own) (hM : Ms l y cY mY rY f lo (.ref b :: av) B r) (hw : ∀ w ∈ wd4 own idx C y, w ∈ Tw) (hcode : Cond.code y cY mY rY ∈ Tw) (hB : FrameBlind (va_Pc (.ref b :: av) B)) (hU : ∀ U : State, U.heap = H → s.WarmedH U.vm → B U)
    (hrec : ∃ cellB : Cell, H[b]? = some cellB ∧ cellB.vm.isStatics = false ∧ s.vm.findClass C = some cellB.cls)
    (hd : y.cls = C ∧ y.cls ≠ "java/lang/invoke/MethodHandle" ∧ y.cls ≠ "java/lang/invoke/VarHandle" ∧ (parseMethodDescriptor y.desc).map (fun d => d.parameters.length) = some n) (hR : f + 1 ≤ R.frames ∧ 8 + (mY + 11) + lo ≤ R.locals) (hn : av.length = n) (hls : ls.size = nL) (hc : cells ≤ R.cells ∧ slots ≤ R.slots)
    (hrest : (rest.map fun v => v.category).sum ≤ 8) (hdec : decode cc pc = .ok (.invokevirtual idx, 3)) (kk : W p l e R s m args below meth c H locs cells slots Z (F0 m (pc + 3) ls (r.toList ++ rest))) :
    W p l e R s m args below meth c H locs cells slots Z (F0 m pc ls (av.reverse ++ .ref b :: rest)) := by
  have hG : GoodIn Tw (wsV own idx C y (Cond.code y cY mY rY :: Tw)) := good_sub (fun w hw' => by
    rcases List.mem_append.mp hw' with h | h
    · exact hw w h
    · rcases List.mem_cons.mp h with h | h
      · rw [h]; exact hcode
      · exact h)
  refine W.callX (W.runV (As := av) (b := b) (rest := rest) (n := n) (C := C) (ret := rY) (bytes := cY) (maxL := mY) (mc := 0) (ms := 0) S hM (cwV n S.2.2.2.2 hG rfl rfl rfl hd hR) ⟨hB, hrec, fun U h1 h2 => ⟨rfl, hU U h1 h2⟩⟩ rfl hn hls rfl (lv_room hrest) hdec hc) (fun _ h => h.elim) (fun v st₀ t h0 hq => ?_)
  obtain ⟨h1, h2⟩ := hq
  cases h1
  rw [h2, h0]
  exact kk
set_option maxRecDepth 100000 in
theorem wJ3c : Cond.code yJ3_checkIndex_8e157 cJ3_checkIndex_8e157 3 (some .int) ∈ Tw := tw_all (ws := [_]) (by decide +kernel) _ List.mem_cons_self
set_option maxRecDepth 100000 in
theorem wJ0k : Cond.code yJ0_checkIndex_df160 cJ0_checkIndex_df160 2 none ∈ Tw := tw_all (ws := [_]) (by decide +kernel) _ List.mem_cons_self
set_option maxRecDepth 100000 in
theorem wJ1c : Cond.code yJ1_charAt_3b067 cJ1_charAt_3b067 2 (some .char) ∈ Tw := tw_all (ws := [_]) (by decide +kernel) _ List.mem_cons_self
set_option maxRecDepth 100000 in
theorem wJ0l : Cond.code yJ0_isLatin1_aae02 cJ0_isLatin1_aae02 1 (some .boolean) ∈ Tw := tw_all (ws := [_]) (by decide +kernel) _ List.mem_cons_self
set_option maxRecDepth 100000 in
theorem wJ0d : Cond.code yJ0_coder_7d493 cJ0_coder_7d493 1 (some .byte) ∈ Tw := tw_all (ws := [_]) (by decide +kernel) _ List.mem_cons_self
set_option maxRecDepth 100000 in
theorem wJ0n : Cond.code yJ0_length_8abf5 cJ0_length_8abf5 1 (some .int) ∈ Tw := tw_all (ws := [_]) (by decide +kernel) _ List.mem_cons_self
set_option maxRecDepth 100000 in
theorem wJ0c : Cond.code yJ0_charAt_5068e cJ0_charAt_5068e 2 (some .char) ∈ Tw := tw_all (ws := [_]) (by decide +kernel) _ List.mem_cons_self
set_option maxRecDepth 100000 in
theorem wStr : ∀ w ∈ ([.fieldLink RJ0 1053 "jdk/internal/util/Preconditions" "SIOOBE_FORMATTER" "Ljava/util/function/BiFunction;", .fieldLink RJ0 38 "java/lang/String" "COMPACT_STRINGS" "Z", .fieldLink RJ0 15 "java/lang/String" "coder" "B", .fieldLink RJ0 9 "java/lang/String" "value" "[B"] ++ wd3 RJ0 1059 yJ3_checkIndex_8e157 ++ wd3 RJ1 9 yJ0_checkIndex_df160 ++ wd4 RJ0 492 RJ0 yJ0_isLatin1_aae02 ++ wd3 RJ0 495 yJ1_charAt_3b067 ++ wd4 RJ0 335 RJ0 yJ0_coder_7d493 : List Cond), w ∈ Tw := tw_all (by decide +kernel)
set_option maxRecDepth 100000 in
theorem c_schk {i n : Int32} (h1 : ¬ i < 0) (h2 : i < n) : Ms l yJ0_checkIndex_df160 cJ0_checkIndex_df160 2 none 1 22 [.int i, .int n] (fun U => Stt a N0 U U.heap) none := by
  refine Met.ofW (cc := cJ0_checkIndex_df160) (maxL := 2) (ret := none) (by decide) rfl ?_
  intro p e s m args below meth c s₁ B hml hv'
  obtain ⟨rfl, hst⟩ := hv'
  have hx := B.exec
  have hb := B.bytes
  have hr := B.returns
  have hlocks := B.notSynchronized
  have hts0 := atoms_spec (ws := Cond.code yJ0_checkIndex_df160 cJ0_checkIndex_df160 2 none :: Tw) B.pre
  have hts : ∀ w ∈ Tw, w.before _ s = true := fun w h => hts0 w (List.mem_cons_of_mem _ h)
  have hown : s.vm.findClass RJ0 = some m.cls := findClass_of_methodNamed B.named
  have hS : va_S (AN N0) s.heap s.heap [] := va_S.rf
  have hl := lv_entry ([.int i, .int n]) (n := 2) (Nat.le_of_ble_eq_true rfl)
  rw [lg_entry_eq]
  generalize (lg_sl ([.int i, .int n]) ++ List.replicate (2 - (lg_sl ([.int i, .int n])).length) Slot.unset).toArray = ls at hl ⊢
  have hl : lv_has ls 2 [(0, .int i), (1, .int n)] := hl
  refine lv_iload_n hx hb (k := 0) (show decode cJ0_checkIndex_df160 0 = .ok (.iload_n 0, 1) by decide +kernel) rfl (lv_at hl 0 rfl) ?_
  refine lv_iload_n hx hb (k := 1) (show decode cJ0_checkIndex_df160 1 = .ok (.iload_n 1, 1) by decide +kernel) rfl (lv_at hl 1 rfl) ?_
  have fin : ∀ v : Value, v.category = 1 → W p l e (headSpec (Cond.code yJ0_checkIndex_df160 cJ0_checkIndex_df160 2 none :: Tw) { frames := 1, cells := 0, slots := 0, locals := 22 }).room s m #[Value.int i, Value.int n] below meth c s.heap [] 0 0 (MQ below (Qs none) #[Value.int i, Value.int n] s 0 0 (fun _ => False)) (F0 m 5 ls [v, .int n, .int i]) := by
    intro v hv
    refine pure_S (n := 3) (rest := []) (av := [.int i, .int n, v]) (own := RJ0) (nL := 2) ⟨hx, hb, hml, hown, hts⟩ (c_pchk hv h1 h2) (fun w h => wStr w (by simp [h])) wJ3c tru_blind (fun _ _ _ => trivial) (by decide +kernel) ⟨Nat.le_of_ble_eq_true rfl, Nat.le_of_ble_eq_true rfl⟩ rfl hl.1 ⟨Nat.le_refl _, Nat.le_refl _⟩ (Nat.le_of_ble_eq_true rfl) (show decode cJ0_checkIndex_df160 5 = .ok (.invokestatic 1059, 3) by decide +kernel) ?_
    refine lv_pop hx hb (show decode cJ0_checkIndex_df160 8 = .ok (.pop, 1) by decide +kernel) rfl ?_
    exact W.vret hx hb hr (fun t ht _ => ⟨rfl, ht⟩) (fun q h => (nomatch h)) (show decode cJ0_checkIndex_df160 9 = .ok (.return_, 1) by decide +kernel) hlocks
  rcases hst.2.2.2.2.2.2.2.1 with hz | ⟨t, hz⟩
  · exact va_gets hx hb hz hS hown (hts _ (wStr _ (by simp))) (fun _ h9 => h9) (show decode cJ0_checkIndex_df160 2 = .ok (.getstatic 1053, 3) by decide +kernel) (fin _ rfl)
  · exact va_gets hx hb hz hS hown (hts _ (wStr _ (by simp))) (fun _ h9 => h9) (show decode cJ0_checkIndex_df160 2 = .ok (.getstatic 1053, 3) by decide +kernel) (fin _ rfl)
theorem by_all : ∀ k, k < 12 → (lenS.getD k 0 = (bytS.getD k []).length ∧ lenS.getD k 0 < 100 ∧ ∀ i, i < 10 → ((((bytS.getD k []).getD i 0) &&& 255).toUInt32 % 65536).toInt32 = (bytS.getD k []).getD i 0 ∧ narrow .char (.int ((bytS.getD k []).getD i 0)) = .int ((bytS.getD k []).getD i 0)) ∧ lenS.getD k 0 < 10 := by decide +kernel
set_option maxRecDepth 100000 in
theorem c_lchr {k : Nat} (hk : k < 12) {i : Int32} (hi : vp_in i (lenS.getD k 0)) : Ms l yJ1_charAt_3b067 cJ1_charAt_3b067 2 (some .char) 2 43 [.ref (a (80 + k)), .int i] (fun U => Stt a N0 U U.heap) (some (.int ((bytS.getD k []).getD i.toNatClampNeg 0))) := by
  refine Met.ofW (cc := cJ1_charAt_3b067) (maxL := 2) (ret := some .char) (by decide) rfl ?_
  intro p e s m args below meth c s₁ B hml hv'
  obtain ⟨rfl, hst⟩ := hv'
  have hx := B.exec
  have hb := B.bytes
  have hr := B.returns
  have hlocks := B.notSynchronized
  have hts0 := atoms_spec (ws := Cond.code yJ1_charAt_3b067 cJ1_charAt_3b067 2 (some .char) :: Tw) B.pre
  have hts : ∀ w ∈ Tw, w.before _ s = true := fun w h => hts0 w (List.mem_cons_of_mem _ h)
  have hown : s.vm.findClass RJ1 = some m.cls := findClass_of_methodNamed B.named
  have hS : va_S (AN N0) s.heap s.heap [] := va_S.rf
  have hl := lv_entry ([.ref (a (80 + k)), .int i]) (n := 2) (Nat.le_of_ble_eq_true rfl)
  rw [lg_entry_eq]
  generalize (lg_sl ([.ref (a (80 + k)), .int i]) ++ List.replicate (2 - (lg_sl ([.ref (a (80 + k)), .int i])).length) Slot.unset).toArray = ls at hl ⊢
  have hl : lv_has ls 2 [(0, .ref (a (80 + k))), (1, .int i)] := hl
  have hT := ((hst.2.1).1 k hk).2.2.2
  obtain ⟨⟨b1, b2, b3⟩, b4⟩ := by_all k hk
  obtain ⟨n0, hn0, rfl⟩ := vp_in_of hi (by omega)
  have ec : (nI n0).toNatClampNeg = n0 := nI_clamp (by omega)
  obtain ⟨b5, b6⟩ := b3 n0 (by omega)
  refine lv_iload_n hx hb (k := 1) (show decode cJ1_charAt_3b067 0 = .ok (.iload_n 1, 1) by decide +kernel) rfl (lv_at hl 1 rfl) ?_
  refine lv_aload_n hx hb (k := 0) (show decode cJ1_charAt_3b067 1 = .ok (.aload_n 0, 1) by decide +kernel) rfl (lv_at hl 0 rfl) ?_
  refine va_tlen hx hb hT hS rfl (show decode cJ1_charAt_3b067 2 = .ok (.arraylength, 1) by decide +kernel) ?_
  refine pure_S (n := 2) (rest := []) (av := [.int (nI n0), .int (Int32.ofNat (lenS.getD k 0))]) (own := RJ1) (nL := 2) ⟨hx, hb, hml, hown, hts⟩ (c_schk (a := a) (N0 := N0) (nI_pos (by omega)) (nI_lt hn0 (by omega))) (fun w h => wStr w (by simp [h])) wJ0k Stt_blind (fun U hU hW => by rw [hU]; exact hst.warm hW) (by decide +kernel) ⟨Nat.le_of_ble_eq_true rfl, Nat.le_of_ble_eq_true rfl⟩ rfl hl.1 ⟨Nat.le_refl _, Nat.le_refl _⟩ (Nat.le_of_ble_eq_true rfl) (show decode cJ1_charAt_3b067 3 = .ok (.invokestatic 9, 3) by decide +kernel) ?_
  refine lv_aload_n hx hb (k := 0) (show decode cJ1_charAt_3b067 6 = .ok (.aload_n 0, 1) by decide +kernel) rfl (lv_at hl 0 rfl) ?_
  refine lv_iload_n hx hb (k := 1) (show decode cJ1_charAt_3b067 7 = .ok (.iload_n 1, 1) by decide +kernel) rfl (lv_at hl 1 rfl) ?_
  refine va_tb hx hb hT hS hi rfl (show decode cJ1_charAt_3b067 8 = .ok (.baload, 1) by decide +kernel) ?_
  refine lv_sipush (v := 255) hx hb (show decode cJ1_charAt_3b067 9 = .ok (.sipush 255, 3) by decide +kernel) (by decide) ?_
  refine lv_iand hx hb (show decode cJ1_charAt_3b067 12 = .ok (.iand, 1) by decide +kernel) ?_
  refine lv_i2c hx hb (show decode cJ1_charAt_3b067 13 = .ok (.i2c, 1) by decide +kernel) rfl ?_
  rw [ec, b5]
  exact W.zret hx hb hr b6 (fun t ht _ => ⟨rfl, ht⟩) (fun q h => (nomatch h)) (show decode cJ1_charAt_3b067 14 = .ok (.ireturn, 1) by decide +kernel) hlocks
set_option maxRecDepth 100000 in
theorem c_isL {k : Nat} (hk : k < 12) : Ms l yJ0_isLatin1_aae02 cJ0_isLatin1_aae02 1 (some .boolean) 0 0 [.ref (a (60 + k))] (fun U => Stt a N0 U U.heap) (some (.int 1)) := by
  refine Met.ofW (cc := cJ0_isLatin1_aae02) (maxL := 1) (ret := some .boolean) (by decide) rfl ?_
  intro p e s m args below meth c s₁ B hml hv'
  obtain ⟨rfl, hst⟩ := hv'
  have hx := B.exec
  have hb := B.bytes
  have hr := B.returns
  have hlocks := B.notSynchronized
  have hts0 := atoms_spec (ws := Cond.code yJ0_isLatin1_aae02 cJ0_isLatin1_aae02 1 (some .boolean) :: Tw) B.pre
  have hts : ∀ w ∈ Tw, w.before _ s = true := fun w h => hts0 w (List.mem_cons_of_mem _ h)
  have hown : s.vm.findClass RJ0 = some m.cls := findClass_of_methodNamed B.named
  have hS : va_S (AN N0) s.heap s.heap [] := va_S.rf
  have hl := lv_entry ([.ref (a (60 + k))]) (n := 1) (Nat.le_of_ble_eq_true rfl)
  rw [lg_entry_eq]
  generalize (lg_sl ([.ref (a (60 + k))]) ++ List.replicate (1 - (lg_sl ([.ref (a (60 + k))])).length) Slot.unset).toArray = ls at hl ⊢
  have hl : lv_has ls 1 [(0, .ref (a (60 + k)))] := hl
  have hO := ((hst.2.1).1 k hk).2.1
  refine va_gets hx hb hst.2.2.2.2.1 hS hown (hts _ (wStr _ (by simp))) (fun _ h9 => h9) (show decode cJ0_isLatin1_aae02 0 = .ok (.getstatic 38, 3) by decide +kernel) ?_
  refine lv_if_eq (tgt := 17) hx hb (show decode cJ0_isLatin1_aae02 3 = .ok (.ifCond .eq 14, 3) by decide +kernel) (by decide) (fun c1 => absurd c1 (by decide)) (fun _ => ?_)
  refine lv_aload_n hx hb (k := 0) (show decode cJ0_isLatin1_aae02 6 = .ok (.aload_n 0, 1) by decide +kernel) rfl (lv_at hl 0 rfl) ?_
  refine vk_getf hx hb hO hS hown (hts _ (wStr _ (by simp))) (fun _ h9 => h9) (show decode cJ0_isLatin1_aae02 7 = .ok (.getfield 15, 3) by decide +kernel) ?_
  refine lv_if_ne (tgt := 17) hx hb (show decode cJ0_isLatin1_aae02 10 = .ok (.ifCond .ne 7, 3) by decide +kernel) (by decide) (fun c1 => absurd rfl c1) (fun _ => ?_)
  refine lv_iconst (v := 1) hx hb (show decode cJ0_isLatin1_aae02 13 = .ok (.iconst 1, 1) by decide +kernel) (by decide) ?_
  refine lv_goto (tgt := 18) hx hb (show decode cJ0_isLatin1_aae02 14 = .ok (.goto 4, 3) by decide +kernel) (by decide) ?_
  exact W.zret hx hb hr (by decide +kernel) (fun t ht _ => ⟨rfl, ht⟩) (fun q h => (nomatch h)) (show decode cJ0_isLatin1_aae02 18 = .ok (.ireturn, 1) by decide +kernel) hlocks
set_option maxRecDepth 100000 in
theorem c_cod {k : Nat} (hk : k < 12) : Ms l yJ0_coder_7d493 cJ0_coder_7d493 1 (some .byte) 0 0 [.ref (a (60 + k))] (fun U => Stt a N0 U U.heap) (some (.int 0)) := by
  refine Met.ofW (cc := cJ0_coder_7d493) (maxL := 1) (ret := some .byte) (by decide) rfl ?_
  intro p e s m args below meth c s₁ B hml hv'
  obtain ⟨rfl, hst⟩ := hv'
  have hx := B.exec
  have hb := B.bytes
  have hr := B.returns
  have hlocks := B.notSynchronized
  have hts0 := atoms_spec (ws := Cond.code yJ0_coder_7d493 cJ0_coder_7d493 1 (some .byte) :: Tw) B.pre
  have hts : ∀ w ∈ Tw, w.before _ s = true := fun w h => hts0 w (List.mem_cons_of_mem _ h)
  have hown : s.vm.findClass RJ0 = some m.cls := findClass_of_methodNamed B.named
  have hS : va_S (AN N0) s.heap s.heap [] := va_S.rf
  have hl := lv_entry ([.ref (a (60 + k))]) (n := 1) (Nat.le_of_ble_eq_true rfl)
  rw [lg_entry_eq]
  generalize (lg_sl ([.ref (a (60 + k))]) ++ List.replicate (1 - (lg_sl ([.ref (a (60 + k))])).length) Slot.unset).toArray = ls at hl ⊢
  have hl : lv_has ls 1 [(0, .ref (a (60 + k)))] := hl
  have hO := ((hst.2.1).1 k hk).2.1
  refine va_gets hx hb hst.2.2.2.2.1 hS hown (hts _ (wStr _ (by simp))) (fun _ h9 => h9) (show decode cJ0_coder_7d493 0 = .ok (.getstatic 38, 3) by decide +kernel) ?_
  refine lv_if_eq (tgt := 13) hx hb (show decode cJ0_coder_7d493 3 = .ok (.ifCond .eq 10, 3) by decide +kernel) (by decide) (fun c1 => absurd c1 (by decide)) (fun _ => ?_)
  refine lv_aload_n hx hb (k := 0) (show decode cJ0_coder_7d493 6 = .ok (.aload_n 0, 1) by decide +kernel) rfl (lv_at hl 0 rfl) ?_
  refine vk_getf hx hb hO hS hown (hts _ (wStr _ (by simp))) (fun _ h9 => h9) (show decode cJ0_coder_7d493 7 = .ok (.getfield 15, 3) by decide +kernel) ?_
  refine lv_goto (tgt := 14) hx hb (show decode cJ0_coder_7d493 10 = .ok (.goto 4, 3) by decide +kernel) (by decide) ?_
  exact W.zret hx hb hr (by decide +kernel) (fun t ht _ => ⟨rfl, ht⟩) (fun q h => (nomatch h)) (show decode cJ0_coder_7d493 14 = .ok (.ireturn, 1) by decide +kernel) hlocks
set_option maxRecDepth 100000 in
theorem c_len {k : Nat} (hk : k < 12) : Ms l yJ0_length_8abf5 cJ0_length_8abf5 1 (some .int) 1 20 [.ref (a (60 + k))] (fun U => Stt a N0 U U.heap) (some (.int (Int32.ofNat (lenS.getD k 0)))) := by
  refine Met.ofW (cc := cJ0_length_8abf5) (maxL := 1) (ret := some .int) (by decide) rfl ?_
  intro p e s m args below meth c s₁ B hml hv'
  obtain ⟨rfl, hst⟩ := hv'
  have hx := B.exec
  have hb := B.bytes
  have hr := B.returns
  have hlocks := B.notSynchronized
  have hts0 := atoms_spec (ws := Cond.code yJ0_length_8abf5 cJ0_length_8abf5 1 (some .int) :: Tw) B.pre
  have hts : ∀ w ∈ Tw, w.before _ s = true := fun w h => hts0 w (List.mem_cons_of_mem _ h)
  have hown : s.vm.findClass RJ0 = some m.cls := findClass_of_methodNamed B.named
  have hS : va_S (AN N0) s.heap s.heap [] := va_S.rf
  have hl := lv_entry ([.ref (a (60 + k))]) (n := 1) (Nat.le_of_ble_eq_true rfl)
  rw [lg_entry_eq]
  generalize (lg_sl ([.ref (a (60 + k))]) ++ List.replicate (1 - (lg_sl ([.ref (a (60 + k))])).length) Slot.unset).toArray = ls at hl ⊢
  have hl : lv_has ls 1 [(0, .ref (a (60 + k)))] := hl
  have hO := ((hst.2.1).1 k hk).2.2.1
  have hT := ((hst.2.1).1 k hk).2.2.2
  obtain ⟨⟨b1, b2, b3⟩, b4⟩ := by_all k hk
  refine lv_aload_n hx hb (k := 0) (show decode cJ0_length_8abf5 0 = .ok (.aload_n 0, 1) by decide +kernel) rfl (lv_at hl 0 rfl) ?_
  refine vk_getf hx hb hO hS hown (hts _ (wStr _ (by simp))) (fun _ h9 => h9) (show decode cJ0_length_8abf5 1 = .ok (.getfield 9, 3) by decide +kernel) ?_
  refine va_tlen hx hb hT hS rfl (show decode cJ0_length_8abf5 4 = .ok (.arraylength, 1) by decide +kernel) ?_
  refine lv_aload_n hx hb (k := 0) (show decode cJ0_length_8abf5 5 = .ok (.aload_n 0, 1) by decide +kernel) rfl (lv_at hl 0 rfl) ?_
  refine pure_V (n := 0) (b := a (60 + k)) (av := []) (rest := [.int (Int32.ofNat (lenS.getD k 0))]) (own := RJ0) (C := RJ0) (nL := 1) ⟨hx, hb, hml, hown, hts⟩ (c_cod (a := a) (N0 := N0) hk) (fun w h => wStr w (by simp [h])) wJ0d Stt_blind (fun U hU hW => by rw [hU]; exact hst.warm hW) (vk_recv (adK := fun i => a (60 + i)) (i := k) hst.2.1 hk hS) (by decide +kernel) ⟨Nat.le_of_ble_eq_true rfl, Nat.le_of_ble_eq_true rfl⟩ rfl hl.1 ⟨Nat.le_refl _, Nat.le_refl _⟩ (Nat.le_of_ble_eq_true rfl) (show decode cJ0_length_8abf5 6 = .ok (.invokevirtual 335, 3) by decide +kernel) ?_
  refine lv_ishr hx hb (show decode cJ0_length_8abf5 9 = .ok (.ishr, 1) by decide +kernel) ?_
  have e0 : Int32.ofNat (lenS.getD k 0) >>> ((0 : Int32) &&& 31) = Int32.ofNat (lenS.getD k 0) := sb_shr0 _
  rw [e0]
  exact W.iret hx hb hr (fun t ht _ => ⟨rfl, ht⟩) (fun q h => (nomatch h)) (show decode cJ0_length_8abf5 10 = .ok (.ireturn, 1) by decide +kernel) hlocks
set_option maxRecDepth 100000 in
theorem c_chr {k : Nat} (hk : k < 12) {i : Int32} (hi : vp_in i (lenS.getD k 0)) : Ms l yJ0_charAt_5068e cJ0_charAt_5068e 2 (some .char) 3 64 [.ref (a (60 + k)), .int i] (fun U => Stt a N0 U U.heap) (some (.int ((bytS.getD k []).getD i.toNatClampNeg 0))) := by
  refine Met.ofW (cc := cJ0_charAt_5068e) (maxL := 2) (ret := some .char) (by decide) rfl ?_
  intro p e s m args below meth c s₁ B hml hv'
  obtain ⟨rfl, hst⟩ := hv'
  have hx := B.exec
  have hb := B.bytes
  have hr := B.returns
  have hlocks := B.notSynchronized
  have hts0 := atoms_spec (ws := Cond.code yJ0_charAt_5068e cJ0_charAt_5068e 2 (some .char) :: Tw) B.pre
  have hts : ∀ w ∈ Tw, w.before _ s = true := fun w h => hts0 w (List.mem_cons_of_mem _ h)
  have hown : s.vm.findClass RJ0 = some m.cls := findClass_of_methodNamed B.named
  have hS : va_S (AN N0) s.heap s.heap [] := va_S.rf
  have hl := lv_entry ([.ref (a (60 + k)), .int i]) (n := 2) (Nat.le_of_ble_eq_true rfl)
  rw [lg_entry_eq]
  generalize (lg_sl ([.ref (a (60 + k)), .int i]) ++ List.replicate (2 - (lg_sl ([.ref (a (60 + k)), .int i])).length) Slot.unset).toArray = ls at hl ⊢
  have hl : lv_has ls 2 [(0, .ref (a (60 + k))), (1, .int i)] := hl
  have hO := ((hst.2.1).1 k hk).2.2.1
  obtain ⟨⟨b1, b2, b3⟩, b4⟩ := by_all k hk
  obtain ⟨n0, hn0, en⟩ := vp_in_of hi (by omega)
  have ec : i.toNatClampNeg = n0 := by rw [en]; exact nI_clamp (by omega)
  have b6 := (b3 n0 (by omega)).2
  refine lv_aload_n hx hb (k := 0) (show decode cJ0_charAt_5068e 0 = .ok (.aload_n 0, 1) by decide +kernel) rfl (lv_at hl 0 rfl) ?_
  refine pure_V (n := 0) (b := a (60 + k)) (av := []) (rest := []) (own := RJ0) (C := RJ0) (nL := 2) ⟨hx, hb, hml, hown, hts⟩ (c_isL (a := a) (N0 := N0) hk) (fun w h => wStr w (by simp [h])) wJ0l Stt_blind (fun U hU hW => by rw [hU]; exact hst.warm hW) (vk_recv (adK := fun i => a (60 + i)) (i := k) hst.2.1 hk hS) (by decide +kernel) ⟨Nat.le_of_ble_eq_true rfl, Nat.le_of_ble_eq_true rfl⟩ rfl hl.1 ⟨Nat.le_refl _, Nat.le_refl _⟩ (Nat.le_of_ble_eq_true rfl) (show decode cJ0_charAt_5068e 1 = .ok (.invokevirtual 492, 3) by decide +kernel) ?_
  refine lv_if_eq (tgt := 16) hx hb (show decode cJ0_charAt_5068e 4 = .ok (.ifCond .eq 12, 3) by decide +kernel) (by decide) (fun c1 => absurd c1 (by decide)) (fun _ => ?_)
  refine lv_aload_n hx hb (k := 0) (show decode cJ0_charAt_5068e 7 = .ok (.aload_n 0, 1) by decide +kernel) rfl (lv_at hl 0 rfl) ?_
  refine vk_getf hx hb hO hS hown (hts _ (wStr _ (by simp))) (fun _ h9 => h9) (show decode cJ0_charAt_5068e 8 = .ok (.getfield 9, 3) by decide +kernel) ?_
  refine lv_iload_n hx hb (k := 1) (show decode cJ0_charAt_5068e 11 = .ok (.iload_n 1, 1) by decide +kernel) rfl (lv_at hl 1 rfl) ?_
  refine pure_S (n := 2) (rest := []) (av := [.ref (a (80 + k)), .int i]) (own := RJ0) (nL := 2) ⟨hx, hb, hml, hown, hts⟩ (c_lchr (a := a) (N0 := N0) hk hi) (fun w h => wStr w (by simp [h])) wJ1c Stt_blind (fun U hU hW => by rw [hU]; exact hst.warm hW) (by decide +kernel) ⟨Nat.le_of_ble_eq_true rfl, Nat.le_of_ble_eq_true rfl⟩ rfl hl.1 ⟨Nat.le_refl _, Nat.le_refl _⟩ (Nat.le_of_ble_eq_true rfl) (show decode cJ0_charAt_5068e 12 = .ok (.invokestatic 495, 3) by decide +kernel) ?_
  exact W.zret hx hb hr (by rw [ec]; exact b6) (fun t ht _ => ⟨rfl, ht⟩) (fun q h => (nomatch h)) (show decode cJ0_charAt_5068e 15 = .ok (.ireturn, 1) by decide +kernel) hlocks
theorem j60 {j : Nat} (h1 : 60 ≤ j) (h2 : j < 72) : ∃ k, j = 60 + k ∧ k < 12 ∧ 60 + k - 60 = k := ⟨j - 60, by omega, by omega, by omega⟩
variable {D : va_G} {cI cB cJ : ClassId} {own : String} {cc : ByteArray} {nL f lo mc : Nat}
theorem cs_len {pc idx : Nat} (hd : decode cc pc = .ok (.invokevirtual idx, 3)) (hw : (wd4 own idx RJ0 yJ0_length_8abf5).all (fun w => decide (w ∈ lw_tbl) && goodWord w) = true) (hR : 2 ≤ f ∧ 8 + 12 + 20 ≤ lo) : CallS l N0 a D cI cB cJ own cc nL (rmO f lo mc) mc pc 1 0 P_slen := by
  intro p e s m args below meth c Z hRc hRs C0 T av rest σ Q X H locs ls hlen hrest hmc hls hp hPw hS kk kx
  obtain ⟨hx, hb, hml, hown, hts, hK, hDD, hst, hN⟩ := id C0
  have hw := tw_all hw
  unfold P_slen at hp
  split at hp
  · rename_i j
    obtain ⟨⟨j1, j2⟩, hq⟩ := hp
    obtain ⟨k, rfl, hk, ek⟩ := j60 j1 j2
    rw [ek] at hq
    have h9 := kk _ σ H locs hq hPw hS
    rw [Nat.add_zero] at h9
    exact pure_V (n := 0) (b := a (60 + k)) (av := []) (rest := rest.map (cv a)) (own := own) (C := RJ0) (nL := nL) ⟨hx, hb, hml, hown, hts⟩ (c_len (a := a) (N0 := N0) hk) hw wJ0n Stt_blind (fun U hU hW => by rw [hU]; exact (hst.kept hS.2.1).warm hW) (vk_recv (adK := fun i => a (60 + i)) (i := k) hst.2.1 hk hS) (by decide +kernel) hR rfl hls ⟨by show T ≤ mc; omega, by show 6 * T ≤ 6 * mc; omega⟩ (cat_sum a hrest) hd h9
  · exact hp.elim
theorem cs_chr {pc idx : Nat} (hd : decode cc pc = .ok (.invokevirtual idx, 3)) (hw : (wd4 own idx RJ0 yJ0_charAt_5068e).all (fun w => decide (w ∈ lw_tbl) && goodWord w) = true) (hR : 4 ≤ f ∧ 8 + 13 + 64 ≤ lo) : CallS l N0 a D cI cB cJ own cc nL (rmO f lo mc) mc pc 2 0 P_schr := by
  intro p e s m args below meth c Z hRc hRs C0 T av rest σ Q X H locs ls hlen hrest hmc hls hp hPw hS kk kx
  obtain ⟨hx, hb, hml, hown, hts, hK, hDD, hst, hN⟩ := id C0
  have hw := tw_all hw
  unfold P_schr at hp
  split at hp
  · rename_i j i
    obtain ⟨⟨j1, j2⟩, hi, hq⟩ := hp
    obtain ⟨k, rfl, hk, ek⟩ := j60 j1 j2
    rw [ek] at hq hi
    have h9 := kk _ σ H locs hq hPw hS
    rw [Nat.add_zero] at h9
    exact pure_V (n := 1) (b := a (60 + k)) (av := [.int i]) (rest := rest.map (cv a)) (own := own) (C := RJ0) (nL := nL) ⟨hx, hb, hml, hown, hts⟩ (c_chr (a := a) (N0 := N0) hk hi) hw wJ0c Stt_blind (fun U hU hW => by rw [hU]; exact (hst.kept hS.2.1).warm hW) (vk_recv (adK := fun i => a (60 + i)) (i := k) hst.2.1 hk hS) (by decide +kernel) hR rfl hls ⟨by show T ≤ mc; omega, by show 6 * T ≤ 6 * mc; omega⟩ (cat_sum a hrest) hd h9
  · exact hp.elim
end Str
