/-! ===== constructors: worlds that grow ===== -/
section Ik
variable {D : va_G} {cl : List vw_C} {A : Nat → Prop} {ws ws' : va_W} {H : Heap}
theorem pP (h : ∀ q ∈ ws', q ∈ ws) (hP : va_P D cl ws H) : va_P D cl ws' H := by
  intro k q hk
  obtain ⟨i, hi⟩ := List.getElem?_of_mem (h q (List.mem_of_getElem? hk))
  exact hP i q hi
theorem va_D_iff : va_D A ws ↔ (ws.map (·.1)).Nodup ∧ ∀ q ∈ ws, A q.1 := by
  have key : (ws.map (·.1)).Nodup ↔ ∀ (i j : Nat) (x y : Nat × va_E), ws[i]? = some x → ws[j]? = some y → i < j → x.1 ≠ y.1 := by
    unfold List.Nodup
    rw [List.pairwise_iff_getElem]
    constructor
    · intro h i j x y hx hy hij
      obtain ⟨hi, ei⟩ := List.getElem?_eq_some_iff.mp hx
      obtain ⟨hj, ej⟩ := List.getElem?_eq_some_iff.mp hy
      have := h i j (by simpa using hi) (by simpa using hj) hij
      simpa [ei, ej] using this
    · intro h i j hi hj hij
      have hi' : i < ws.length := by simpa using hi
      have hj' : j < ws.length := by simpa using hj
      have := h i j _ _ (List.getElem?_eq_getElem hi') (List.getElem?_eq_getElem hj') hij
      simpa using this
  rw [key]
  constructor
  · intro h
    refine ⟨fun i j x y hx hy hij e => ?_, fun q hq => ?_⟩
    · have := h.1 i j x y hx hy e
      omega
    · obtain ⟨i, hi⟩ := List.getElem?_of_mem hq
      exact h.2 i q hi
  · intro h
    refine ⟨fun i j x y hx hy hxy => ?_, fun k q hk => h.2 q (List.mem_of_getElem? hk)⟩
    rcases Nat.lt_trichotomy i j with q | q | q
    · exact absurd hxy (h.1 i j x y hx hy q)
    · exact q
    · exact absurd hxy.symm (h.1 j i y x hy hx q)
theorem pD (h : ws'.Perm ws) (hD : va_D A ws) : va_D A ws' := by
  rw [va_D_iff] at hD ⊢
  exact ⟨((h.map (·.1)).nodup_iff).mpr hD.1, fun q hq => hD.2 q (h.mem_iff.mp hq)⟩
theorem pPD (h : ws'.Perm ws) (hP : va_P D cl ws H) : va_P D cl ws' H := pP (fun _ hq => h.mem_iff.mp hq) hP
theorem pm_a (h x : Nat × va_E) (W : va_W) : (h :: x :: W).Perm ((h :: W) ++ [x]) := ((List.perm_append_singleton x W).symm.cons h)
theorem pm_n (x : Nat × va_E) (W : va_W) : (x :: W).Perm (W ++ [x]) := (List.perm_append_singleton x W).symm
theorem pm_b (h x : Nat × va_E) (N W : va_W) : (h :: x :: (N ++ W)).Perm (x :: (N ++ h :: W)) := ((List.Perm.swap x h (N ++ W)).trans ((List.perm_middle (a := h) (l₁ := N) (l₂ := W)).symm.cons x))
theorem arr_of {args : Array Value} {s : State} {ty : FieldType} (hp : ∀ C, ty ≠ .object C) (h : (Cond.arrayClass ty).before args s = true) : ∃ cA, ArrOfT s cA ty ∧ va_RA s cA ty := by
  obtain ⟨c, k, comp, h1, h2, h3⟩ := Cond.arrayClass_spec h
  refine ⟨c, fun n z => ⟨(fun _ h => by cases h), k, h2, comp, h3⟩, ?_⟩
  cases ty <;> first | exact absurd rfl (hp _) | exact h1
theorem ra_uniq {s : State} {ty : FieldType} {c1 c2 : ClassId} (hp : ∀ C, ty ≠ .object C) (h1 : va_RA s c1 ty) (h2 : va_RA s c2 ty) : c1 = c2 := by
  cases ty <;> first | exact absurd rfl (hp _) | exact Option.some.inj (h1.symm.trans h2)
variable {l : Launch} {N0 : Nat} {cI cB cJ : ClassId}
def Kp (N0 : Nat) (D : va_G) (cI cB cJ : ClassId) (ws : va_W) (U : State) : Prop := N0 ≤ U.heap.size ∧ va_P D vwCl ws U.heap ∧ va_K D vwCl (tys3 cI cB cJ) U ∧ va_D (AN N0) ws ∧ va_Nw (.methodLinkNest "SheetObjects$Reader" 30 yX1_init "SheetObjects") U
def KQ (N0 : Nat) (B : State → Prop) : Array Value → State → Outcome → State → Prop := fun _ st oc' t => (oc' = .returned none ∧ B t) ∧ va_F (AN N0) st t
theorem Kp_blind {av : List Value} {ws : va_W} : FrameBlind (va_Pc av (Kp N0 D cI cB cJ ws)) := by
  intro A U g mk h
  obtain ⟨h1, h2, h3, h4, h5, h6⟩ := h
  exact ⟨h1, h2, h3, va_K.moved (u := U) (U := U.calling g mk A) (Vm.Alike.refl U.vm) h4, h5, va_Nw.same rfl (u := U) (U := U.calling g mk A) rfl h6⟩
/-- a constructor called -/
theorem kcall {p : Program} {e : Env} {R : Room} {s : State} {m : MethodId} {args : Array Value} {below : List Frame} {meth : Method} {c : Code} {locs : List Loc} {cells slots mc ms pc : Nat} {ls : Array Slot} {st0 rest : List Value} {Z : State → Prop} {B : State → Prop} {av : Array Value}
    (hr : va_Run p l e R s m args below meth c H locs cells slots mc ms (F0 m pc ls st0) rest (KQ N0 B av) (AN N0)) (hS : va_S (AN N0) s.heap H locs)
    (kk : ∀ (t : State) (locs1 : List Loc), B t → s.vm.Alike t.vm → va_S (AN N0) s.heap t.heap locs1 → W p l e R s m args below meth c t.heap locs1 (cells + mc) (slots + ms) Z (F0 m (pc + 3) ls rest)) : W p l e R s m args below meth c H locs cells slots Z (F0 m pc ls st0) := by
  intro T hT X
  obtain ⟨v, st₀, t, T', L, h0, X', hL, e1, e2, ⟨⟨hv, hb⟩, hF⟩, st⟩ := hr T hT X
  cases hv
  obtain ⟨k1, k2, k3⟩ := vx_keep (A0 := AN N0) h0 e1 hS (fun _ _ h => h) (fun _ h => h) hL hF
  rw [e1] at k3
  obtain ⟨t2, a1, b1⟩ := kk t (locs ++ L) hb (by rw [← e2]; exact X'.warmed.alike) k3 T' e1 X'
  exact ⟨t2, st t2 a1, b1⟩
end Ik
