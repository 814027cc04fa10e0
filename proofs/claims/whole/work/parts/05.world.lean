/-! ===== THE WORLD: what a state is in the heap ===== -/
def cv (a : Nat → Nat) (v : Value) : Value := match v with
  | .ref j => .ref (a j)
  | v => v
theorem cv_cat (a : Nat → Nat) (v : Value) : (cv a v).category = v.category := by cases v <;> rfl
def fv (a : Nat → Nat) (σ : Sg) (j : Nat) (k : Nat) (q : Nat × Nat) : Value := match q with
  | (2, r) => .ref (a r)
  | (3, _) => .ref (a (σ.2.1 j k))
  | _ => .int (σ.1 j k)
def fvs (a : Nat → Nat) (σ : Sg) (j : Nat) : List Value := (List.range (fl j).length).map (fun k => fv a σ j k (fg (fl j) k))
def cel (a : Nat → Nat) (cI cB cJ : ClassId) (σ : Sg) (j : Nat) : va_E := match (ak j).1 with
  | 0 => .inr (oc j, fvs a σ j)
  | 1 => .inl (cI, (ak j).2, .inl (σ.1 j))
  | 2 => .inl (cB, (ak j).2, .inl (σ.1 j))
  | _ => .inl (cJ, (ak j).2, .inr (.inl σ.2.2))
def wld (a : Nat → Nat) (cI cB cJ : ClassId) (σ : Sg) : va_W := (List.range 34).map (fun j => (a j, cel a cI cB cJ σ j))
abbrev tys3 (cI cB cJ : ClassId) : List (ClassId × FieldType) := [(cI, .int), (cB, .byte), (cJ, .long)]
section WL
variable {a : Nat → Nat} {cI cB cJ : ClassId} {σ τ : Sg}
theorem wld_at {j : Nat} (hj : j < 34) : (wld a cI cB cJ σ)[j]? = some (a j, cel a cI cB cJ σ j) := by
  simp [wld, List.getElem?_map, List.getElem?_range hj]
theorem wld_ge {j : Nat} (hj : 34 ≤ j) : (wld a cI cB cJ σ)[j]? = none := by
  simp [wld, hj]
theorem wld_set {j : Nat} {e : va_E} (hj : j < 34) (he : cel a cI cB cJ τ j = e) (ho : ∀ i, i < 34 → i ≠ j → cel a cI cB cJ τ i = cel a cI cB cJ σ i) : (wld a cI cB cJ σ).set j (a j, e) = wld a cI cB cJ τ := by
  apply List.ext_getElem?
  intro i
  by_cases hi : i < 34
  · by_cases hij : j = i
    · subst hij
      rw [List.getElem?_set_self (by simp [wld]; exact hj), wld_at hj, he]
    · rw [List.getElem?_set_ne hij, wld_at hi, wld_at hi, ho i hi (fun h => hij h.symm)]
  · have hi' : 34 ≤ i := Nat.le_of_not_lt hi
    rw [wld_ge hi', List.getElem?_set_ne (by omega), wld_ge hi']
theorem fvs_at {j k : Nat} (hk : k < (fl j).length) : (fvs a σ j)[k]? = some (fv a σ j k (fg (fl j) k)) := by
  simp [fvs, List.getElem?_map, List.getElem?_range hk]
theorem fvs_len {j : Nat} : (fvs a σ j).length = (fl j).length := by simp [fvs]
/-- the cells of another state differ only where the state does -/
theorem cel_eq {i : Nat} (h1 : σ.1 i = τ.1 i) (h2 : σ.2.1 i = τ.2.1 i) (h3 : (ak i).1 ≠ 3 ∨ σ.2.2 = τ.2.2) (hi : (ak i).1 < 4) : cel a cI cB cJ τ i = cel a cI cB cJ σ i := by
  have hf : fvs a τ i = fvs a σ i := by
    simp only [fvs]
    apply List.map_congr_left
    intro k _
    simp only [fv, h1, h2]
  unfold cel
  rw [hf, h1]
  rcases h3 with h3 | h3
  · have : (ak i).1 = 0 ∨ (ak i).1 = 1 ∨ (ak i).1 = 2 := by omega
    rcases this with e | e | e <;> rw [e] <;> rfl
  · rw [h3]
theorem ak_lt : ∀ i, i < 34 → (ak i).1 < 4 := by decide +kernel
theorem oc_lt : ∀ i, i < 34 → (ak i).1 = 0 → oc i < 8 := by decide +kernel
theorem upd2_ne {M : Nat → Nat → Int32} {i j k : Nat} {v : Int32} (h : i ≠ j) : upd2 M j k v i = M i := by simp [upd2, h]
theorem upd2_eq {M : Nat → Nat → Int32} {j k : Nat} {v : Int32} : upd2 M j k v j = upd (M j) k v := by simp [upd2]
/-- a number stored in an array -/
theorem wld_sMi {j i : Nat} {v : Int32} (hj : j < 34) (hk : (ak j).1 = 1) : (wld a cI cB cJ σ).set j (a j, .inl (cI, (ak j).2, .inl (upd (σ.1 j) i v))) = wld a cI cB cJ (sM σ j i v) := by
  refine wld_set hj ?_ (fun q hq hne => cel_eq ?_ rfl (Or.inr rfl) (ak_lt q hq))
  · unfold cel; rw [hk]; simp [sM, upd2_eq]
  · show σ.1 q = upd2 σ.1 j i v q
    rw [upd2_ne hne]
theorem wld_sMb {j i : Nat} {v : Int32} (hj : j < 34) (hk : (ak j).1 = 2) : (wld a cI cB cJ σ).set j (a j, .inl (cB, (ak j).2, .inl (upd (σ.1 j) i v))) = wld a cI cB cJ (sM σ j i v) := by
  refine wld_set hj ?_ (fun q hq hne => cel_eq ?_ rfl (Or.inr rfl) (ak_lt q hq))
  · unfold cel; rw [hk]; simp [sM, upd2_eq]
  · show σ.1 q = upd2 σ.1 j i v q
    rw [upd2_ne hne]
theorem wld_sAb {j : Nat} {f : Nat → Int32} (hj : j < 34) (hk : (ak j).1 = 2) : (wld a cI cB cJ σ).set j (a j, .inl (cB, (ak j).2, .inl f)) = wld a cI cB cJ (sA σ j f) := by
  refine wld_set hj ?_ (fun q hq hne => cel_eq ?_ rfl (Or.inr rfl) (ak_lt q hq))
  · unfold cel; rw [hk]; simp [sA]
  · show σ.1 q = (if q = j then f else σ.1 q)
    rw [if_neg hne]
theorem wld_sO {j i : Nat} {v : Int64} (hj : j < 34) (hk : (ak j).1 = 3) : (wld a cI cB cJ σ).set j (a j, .inl (cJ, (ak j).2, .inr (.inl (vp_updL σ.2.2 i v)))) = wld a cI cB cJ (sO σ i v) := by
  refine wld_set hj ?_ (fun q hq hne => cel_eq rfl rfl (Or.inl ?_) (ak_lt q hq))
  · unfold cel; rw [hk]; rfl
  · have hone : ∀ q, q < 34 → (ak q).1 = 3 → q = 33 := by decide +kernel
    intro h
    exact hne ((hone q hq h).trans (hone j hj hk).symm)
/-- a number stored in a field -/
theorem fvs_sM {j k : Nat} {v : Int32} (hk : k < (fl j).length) (h0 : (fg (fl j) k).1 = 0 ∨ (fg (fl j) k).1 = 1) : (fvs a σ j).set k (.int v) = fvs a (sM σ j k v) j := by
  apply List.ext_getElem?
  intro i
  by_cases hik : k = i
  · subst hik
    rw [List.getElem?_set_self (by rw [fvs_len]; exact hk), fvs_at hk]
    have e : (sM σ j k v).1 j k = v := by simp [sM, upd2, upd]
    generalize fg (fl j) k = q at h0
    obtain ⟨q1, q2⟩ := q
    simp only at h0
    rcases h0 with rfl | rfl <;> simp [fv, e]
  · rw [List.getElem?_set_ne hik]
    by_cases hi : i < (fl j).length
    · rw [fvs_at hi, fvs_at hi]
      have e : (sM σ j k v).1 j i = σ.1 j i := by simp [sM, upd2, upd, Ne.symm hik]
      have e2 : (sM σ j k v).2 = σ.2 := rfl
      simp only [fv, e, e2]
    · simp [fvs, hi]
theorem fvs_sR {j k r : Nat} (hk : k < (fl j).length) (h0 : (fg (fl j) k).1 = 3) : (fvs a σ j).set k (.ref (a r)) = fvs a (sR σ j k r) j := by
  apply List.ext_getElem?
  intro i
  by_cases hik : k = i
  · subst hik
    rw [List.getElem?_set_self (by rw [fvs_len]; exact hk), fvs_at hk]
    generalize fg (fl j) k = q at h0
    obtain ⟨q1, q2⟩ := q
    simp only at h0
    subst h0
    simp [fv, sR]
  · rw [List.getElem?_set_ne hik]
    by_cases hi : i < (fl j).length
    · rw [fvs_at hi, fvs_at hi]
      have e : (sR σ j k r).2.1 j i = σ.2.1 j i := by simp [sR, Ne.symm hik]
      have e2 : (sR σ j k r).1 = σ.1 := rfl
      simp only [fv, e, e2]
    · simp [fvs, hi]
theorem wld_sF {j k : Nat} {v : Int32} (hj : j < 34) (hz : (ak j).1 = 0) (hk : k < (fl j).length) (h0 : (fg (fl j) k).1 = 0 ∨ (fg (fl j) k).1 = 1) : (wld a cI cB cJ σ).set j (a j, .inr (oc j, (fvs a σ j).set k (.int v))) = wld a cI cB cJ (sM σ j k v) := by
  refine wld_set hj ?_ (fun q hq hne => cel_eq ?_ rfl (Or.inr rfl) (ak_lt q hq))
  · unfold cel; rw [hz, fvs_sM hk h0]; rfl
  · show σ.1 q = upd2 σ.1 j k v q
    rw [upd2_ne hne]
theorem wld_sR {j k r : Nat} (hj : j < 34) (hz : (ak j).1 = 0) (hk : k < (fl j).length) (h0 : (fg (fl j) k).1 = 3) : (wld a cI cB cJ σ).set j (a j, .inr (oc j, (fvs a σ j).set k (.ref (a r)))) = wld a cI cB cJ (sR σ j k r) := by
  refine wld_set hj ?_ (fun q hq hne => cel_eq rfl ?_ (Or.inr rfl) (ak_lt q hq))
  · unfold cel; rw [hz, fvs_sR hk h0]; rfl
  · funext n
    show σ.2.1 q n = (if q = j ∧ n = k then r else σ.2.1 q n)
    rw [if_neg (fun h => hne h.1)]
theorem wld_D {A : Nat → Prop} (h : va_D A (wld a cI cB cJ σ)) (τ : Sg) : va_D A (wld a cI cB cJ τ) := by
  have key : ∀ (k : Nat) (q : Nat × va_E), (wld a cI cB cJ τ)[k]? = some q → k < 34 ∧ q.1 = a k := by
    intro k q hq
    by_cases hk : k < 34
    · rw [wld_at hk] at hq; cases hq; exact ⟨hk, rfl⟩
    · rw [wld_ge (Nat.le_of_not_lt hk)] at hq; cases hq
  refine ⟨fun i j x y hx hy hxy => ?_, fun k q hq => ?_⟩
  · obtain ⟨h1, e1⟩ := key i x hx
    obtain ⟨h2, e2⟩ := key j y hy
    exact h.1 i j _ _ (wld_at h1) (wld_at h2) (by rw [← e1, ← e2]; exact hxy)
  · obtain ⟨h1, e1⟩ := key k q hq
    rw [e1]
    exact h.2 k _ (wld_at h1)
end WL
/-! the locals -/
def Lv (a : Nat → Nat) (ls : Array Slot) (nL : Nat) (l : Lc) : Prop := l.length = nL ∧ ls.size = nL ∧ lv_wf ls ∧ ∀ i v, gl l i = some v → ls[i]? = some (.val (cv a v))
def prs (a : Nat → Nat) (nL : Nat) (l : Lc) : List (Nat × Value) := (List.range nL).filterMap (fun i => (gl l i).map (fun v => (i, cv a v)))
theorem gl_len {l : Lc} {i : Nat} {v : Value} (h : gl l i = some v) : i < l.length := by
  induction l generalizing i with
  | nil => simp [gl] at h
  | cons x xs ih =>
    cases i with
    | zero => simp
    | succ n => simp only [gl] at h; have := ih h; simp; omega
theorem gl_ml {l : Lc} {k i : Nat} {f : Option Value → Option Value} : gl (ml l k f) i = if i = k ∧ k < l.length then f (gl l i) else gl l i := by
  induction l generalizing k i with
  | nil => simp [ml, gl]
  | cons x xs ih =>
    cases k with
    | zero => cases i with
      | zero => simp [ml, gl]
      | succ n => simp [ml, gl]
    | succ k => cases i with
      | zero => simp [ml, gl]
      | succ n => simp only [ml, gl, ih]; simp
theorem ml_len {l : Lc} {k : Nat} {f : Option Value → Option Value} : (ml l k f).length = l.length := by
  induction l generalizing k with
  | nil => simp [ml]
  | cons x xs ih => cases k with
    | zero => simp [ml]
    | succ k => simp [ml, ih]
theorem st1_len {l : Lc} {k : Nat} {o : Option Value} : (st1 l k o).length = l.length := by
  cases k <;> simp [st1, ml_len]
theorem st2_len {l : Lc} {k : Nat} {o : Option Value} : (st2 l k o).length = l.length := by simp [st2, ml_len, st1_len]
theorem kl_some {o : Option Value} {v : Value} (h : kl o = some v) : o = some v ∧ v.category = 1 := by
  unfold kl at h
  split at h <;> simp_all
  subst h
  rename_i v h1 h2
  cases v <;> simp_all [Value.category]
theorem st1_at {l : Lc} {k i : Nat} {o : Option Value} {v : Value} (h : gl (st1 l k o) i = some v) : (i = k ∧ o = some v) ∨ (i ≠ k ∧ gl l i = some v ∧ (i + 1 = k → v.category = 1)) := by
  have hl := gl_len h
  rw [st1_len] at hl
  cases k with
  | zero =>
    simp only [st1, gl_ml] at h
    split at h
    · rename_i q; exact Or.inl ⟨q.1, h⟩
    · rename_i q
      by_cases hi : i = 0
      · subst hi; exact absurd ⟨rfl, hl⟩ q
      · exact Or.inr ⟨hi, h, fun z => absurd z (by omega)⟩
  | succ k =>
    simp only [st1, gl_ml, ml_len] at h
    split at h
    · rename_i q; exact Or.inl ⟨q.1, h⟩
    · rename_i q
      have hik : i ≠ k + 1 := fun z => q ⟨z, by omega⟩
      split at h
      · rename_i q2
        obtain ⟨h1, h2⟩ := kl_some h
        exact Or.inr ⟨hik, h1, fun _ => h2⟩
      · rename_i q2
        refine Or.inr ⟨hik, h, fun z => ?_⟩
        exact absurd ⟨by omega, by omega⟩ q2
theorem prs_in {a : Nat → Nat} {nL : Nat} {l : Lc} {i : Nat} {v : Value} (hn : l.length = nL) (h : gl l i = some v) : (i, cv a v) ∈ prs a nL l := by
  refine List.mem_filterMap.mpr ⟨i, ?_, by rw [h]; rfl⟩
  rw [List.mem_range, ← hn]
  exact gl_len h
theorem prs_has {a : Nat → Nat} {ls : Array Slot} {nL : Nat} {l : Lc} (h : Lv a ls nL l) : lv_has ls nL (prs a nL l) := by
  refine ⟨h.2.1, h.2.2.1, fun q hq => ?_⟩
  obtain ⟨i, -, hi⟩ := List.mem_filterMap.mp hq
  cases hg : gl l i with
  | none => rw [hg] at hi; cases hi
  | some v =>
    rw [hg] at hi
    cases hi
    exact h.2.2.2 i v hg
theorem Lv_st1 {a : Nat → Nat} {ls' : Array Slot} {nL i : Nat} {l : Lc} {v : Value} (hn : l.length = nL) (h : lv_has ls' nL ((i, cv a v) :: (prs a nL l).filter (fun q => !(q.1 == i) && !(q.1 + 1 == i && q.2.category == 2)))) : Lv a ls' nL (st1 l i (some v)) := by
  refine ⟨by rw [st1_len]; exact hn, h.1, h.2.1, fun j w hw => ?_⟩
  rcases st1_at hw with ⟨rfl, e⟩ | ⟨h1, h2, h3⟩
  · cases e
    exact h.2.2 _ List.mem_cons_self
  · refine h.2.2 (j, cv a w) (List.mem_cons_of_mem _ (List.mem_filter.mpr ⟨prs_in hn h2, ?_⟩))
    by_cases hj : j + 1 = i
    · simp [h1, cv_cat, h3 hj]
    · simp [h1, hj]
theorem Lv_st2 {a : Nat → Nat} {ls' : Array Slot} {nL i : Nat} {l : Lc} {v : Value} (hn : l.length = nL) (h : lv_has ls' nL ((i, cv a v) :: (prs a nL l).filter (fun q => !(q.1 == i) && (!(q.1 == i + 1) && !(q.1 + 1 == i && q.2.category == 2))))) : Lv a ls' nL (st2 l i (some v)) := by
  refine ⟨by rw [st2_len]; exact hn, h.1, h.2.1, fun j w hw => ?_⟩
  have hl := gl_len hw
  rw [st2_len] at hl
  simp only [st2, gl_ml, st1_len] at hw
  split at hw
  · cases hw
  · rename_i q
    have hj1 : j ≠ i + 1 := fun z => q ⟨z, by omega⟩
    rcases st1_at hw with ⟨rfl, e⟩ | ⟨h1, h2, h3⟩
    · cases e
      exact h.2.2 _ List.mem_cons_self
    · refine h.2.2 (j, cv a w) (List.mem_cons_of_mem _ (List.mem_filter.mpr ⟨prs_in hn h2, ?_⟩))
      by_cases hj : j + 1 = i
      · simp [h1, hj1, cv_cat, h3 hj]
      · simp [h1, hj1, hj]
/-- a local forgotten -/
theorem Lv_none {a : Nat → Nat} {ls' : Array Slot} {nL i : Nat} {l : Lc} {w0 : Value} (hn : l.length = nL) (h : lv_has ls' nL ((i, w0) :: (prs a nL l).filter (fun q => !(q.1 == i) && !(q.1 + 1 == i && q.2.category == 2)))) : Lv a ls' nL (st1 l i none) := by
  refine ⟨by rw [st1_len]; exact hn, h.1, h.2.1, fun j w hw => ?_⟩
  rcases st1_at hw with ⟨rfl, e⟩ | ⟨h1, h2, h3⟩
  · cases e
  · refine h.2.2 (j, cv a w) (List.mem_cons_of_mem _ (List.mem_filter.mpr ⟨prs_in hn h2, ?_⟩))
    by_cases hj : j + 1 = i
    · simp [h1, cv_cat, h3 hj]
    · simp [h1, hj]
