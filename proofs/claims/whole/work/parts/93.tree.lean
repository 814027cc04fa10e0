/-! ===== PURE: the nodes are trees ===== -/
def en (S : St) (k : Nat) : Nat := (S.2.1 3 k).toNatClampNeg
def sr (S : St) (k : Nat) : Nat := (S.2.1 4 k).toNatClampNeg
def dpt (S : St) (k : Nat) : Nat := (S.2.1 5 k).toNatClampNeg
def KD (S : St) (k j : Nat) : Prop := S.2.1 0 k = nI j
def cn (S : St) (k : Nat) : Prop := KD S k 6 ∨ KD S k 7
def nx (S : St) (k : Nat) : Nat := if k + 1 < S.1 then sr S (k + 1) else S.2.2.1
def it (S : St) (c : Nat) : Nat → Nat
  | 0 => c
  | m + 1 => en S (it S c m)
def WK (S : St) (c m e : Nat) : Prop := it S c m = e ∧ ∀ j, j < m → it S c j < e
def KY (S : St) (c m : Nat) : Prop := ∀ j, 2 * j < m → KD S (it S c (2 * j)) 5
def Vl (S : St) (k : Nat) : Prop := (∃ j, j < 10 ∧ KD S k j) ∧ ((KD S k 2 ∨ KD S k 3) → ∃ s, s ≤ 2147483647 ∧ (S.2.1 1 k = nI s ∨ S.2.1 1 k = (- lN s).toInt32)) ∧ (KD S k 8 → ∃ p g, p ≤ 8388607 ∧ g ≤ 65535 ∧ S.2.1 1 k = nI p ∧ S.2.1 2 k = nI g) ∧ (KD S k 5 → S.2.1 2 k = 0)
def Nd (S : St) (k : Nat) : Prop := (S.2.1 3 k = nI (en S k) ∧ k < en S k ∧ en S k ≤ S.1) ∧ (¬ cn S k → en S k = k + 1) ∧ (S.2.1 4 k = nI (sr S k) ∧ sr S k ≤ nx S k ∧ ((KD S k 4 ∨ KD S k 5) → ∃ l, S.2.1 1 k = nI l ∧ sr S k + l ≤ nx S k)) ∧ Vl S k ∧ (cn S k → dpt S k ≤ 99)
def Cm (S : St) (k : Nat) : Prop := cn S k → ∃ v, v ≤ 4000 ∧ S.2.1 1 k = nI v ∧ (KD S k 6 → WK S (k + 1) v (en S k)) ∧ (KD S k 7 → WK S (k + 1) (2 * v) (en S k) ∧ KY S (k + 1) (2 * v))
/-- whole trees -/
def WF (S : St) : Prop := ∀ k, k < S.1 → Nd S k ∧ Cm S k ∧ (∀ j, j < k → k < en S j → (cn S j → dpt S j < dpt S k) ∧ en S k ≤ en S j ∧ ¬ KD S k 9) ∧ (KD S k 9 → ∃ x, x < k ∧ S.2.1 2 k = nI x ∧ KD S x 7)
def pnd (d : Nat) (st : Nat → Nat) (k : Nat) : Prop := ∃ i, i < d ∧ st i = k
/-- how many parts a container that is open has, if it is the innermost -/
def cnt (S : St) (c : Nat) (kd : Bool) (v : Nat) : Nat → Prop := fun m => (KD S c 6 ∧ m = v) ∨ (KD S c 7 ∧ m = 2 * v + (if kd = true then 0 else 1))
def INV (S0 S : St) (d : Nat) (st : Nat → Nat) (kd : Bool) (q : Nat) : Prop :=
  (∀ i, i < d → S0.1 ≤ st i ∧ st i < S.1 ∧ cn S (st i) ∧ dpt S (st i) = i ∧ (∀ j, j < i → st j < st i)) ∧
  (∀ k, k < S.1 → Nd S k ∧ (¬ pnd d st k → Cm S k) ∧ (∀ j, j < k → (pnd d st j ∨ k < en S j) → (cn S j → dpt S j < dpt S k)) ∧ (∀ j, j < k → ¬ pnd d st j → k < en S j → ¬ pnd d st k ∧ en S k ≤ en S j) ∧ (KD S k 9 → k < S0.1 ∧ (∀ j, j < k → en S j ≤ k) ∧ ∃ x, x < k ∧ S.2.1 2 k = nI x ∧ KD S x 7)) ∧
  (∀ i, i < d → ∃ v m, v ≤ 4000 ∧ S.2.1 1 (st i) = nI v ∧ (KD S (st i) 7 → KY S (st i + 1) (if i + 1 < d then m else m + q)) ∧ (if i + 1 < d then cnt S (st i) false v m ∧ WK S (st i + 1) m (st (i + 1)) else cnt S (st i) kd v m ∧ WK S (st i + 1) (m + q) S.1))
theorem KD_u {S : St} {k i j : Nat} (h1 : KD S k i) (h2 : KD S k j) (hi : i < 10) (hj : j < 10) : i = j := by
  unfold KD at h1 h2
  rw [h1] at h2
  exact (nI_eq (by omega) (by omega)).mp h2
theorem it_congr {S S' : St} {c : Nat} : ∀ m, (∀ j, j < m → en S' (it S c j) = en S (it S c j)) → ∀ j, j ≤ m → it S' c j = it S c j := by
  intro m
  induction m with
  | zero => intro h j hj; rw [show j = 0 by omega]; rfl
  | succ m ih =>
    intro h j hj
    have ih := ih (fun j hj => h j (by omega))
    by_cases e : j ≤ m
    · exact ih j e
    · rw [show j = m + 1 by omega]
      show en S' (it S' c m) = en S (it S c m)
      rw [ih m (Nat.le_refl _)]
      exact h m (by omega)
theorem it_ge {S : St} {c N : Nat} (hN : ∀ k, k < N → k < en S k) : ∀ m, (∀ j, j < m → it S c j < N) → c + m ≤ it S c m := by
  intro m
  induction m with
  | zero => intro h; exact Nat.le_refl _
  | succ m ih =>
    intro h
    have := ih (fun j hj => h j (by omega))
    have := hN _ (h m (by omega))
    show c + (m + 1) ≤ en S (it S c m)
    omega
theorem WK.congr {S S' : St} {c m e : Nat} (h : WK S c m e) (hc : ∀ j, j < m → en S' (it S c j) = en S (it S c j)) : WK S' c m e ∧ ∀ j, j ≤ m → it S' c j = it S c j := by
  have := it_congr m hc
  refine ⟨⟨?_, fun j hj => ?_⟩, this⟩
  · rw [this m (Nat.le_refl _)]
    exact h.1
  · rw [this j (by omega)]
    exact h.2 j hj
theorem KY.congr {S S' : St} {c m : Nat} (h : KY S c m) (hi : ∀ j, j < m → it S' c j = it S c j) (hk : ∀ j, j < m → KD S (it S c j) 5 → KD S' (it S c j) 5) : KY S' c m := by
  intro j hj
  rw [hi _ hj]
  exact hk _ hj (h j hj)
/-- two stores that agree on the nodes below N -/
def AG (S S' : St) (N : Nat) : Prop := ∀ i k, k < N → S'.2.1 i k = S.2.1 i k
theorem AG.aen {S S' : St} {N k : Nat} (h : AG S S' N) (hk : k < N) : en S' k = en S k := by unfold en; rw [h 3 k hk]
theorem AG.asr {S S' : St} {N k : Nat} (h : AG S S' N) (hk : k < N) : sr S' k = sr S k := by unfold sr; rw [h 4 k hk]
theorem AG.adp {S S' : St} {N k : Nat} (h : AG S S' N) (hk : k < N) : dpt S' k = dpt S k := by unfold dpt; rw [h 5 k hk]
theorem AG.akd {S S' : St} {N k j : Nat} (h : AG S S' N) (hk : k < N) : KD S' k j ↔ KD S k j := by unfold KD; rw [h 0 k hk]
theorem AG.acn {S S' : St} {N k : Nat} (h : AG S S' N) (hk : k < N) : cn S' k ↔ cn S k := by unfold cn; rw [h.akd hk, h.akd hk]
theorem AG.awk {S S' : St} {N c m e : Nat} (h : AG S S' N) (hw : WK S c m e) (he : e ≤ N) : WK S' c m e ∧ ∀ j, j ≤ m → it S' c j = it S c j := hw.congr (fun j hj => h.aen (by have := hw.2 j hj; omega))
theorem AG.aky {S S' : St} {N c m e : Nat} (h : AG S S' N) (hw : WK S c m e) (he : e ≤ N) (hk : KY S c m) : KY S' c m := hk.congr (fun j hj => (h.awk hw he).2 j (by omega)) (fun j hj z => (h.akd (by have := hw.2 j hj; omega)).mpr z)
theorem AG.avl {S S' : St} {N k : Nat} (h : AG S S' N) (hk : k < N) (hv : Vl S k) : Vl S' k := by
  obtain ⟨v1, v2, v3, v4⟩ := hv
  refine ⟨?_, ?_, ?_, ?_⟩
  · obtain ⟨j, hj, hkd⟩ := v1
    exact ⟨j, hj, (h.akd hk).mpr hkd⟩
  · rw [h.akd hk, h.akd hk, h 1 k hk]; exact v2
  · rw [h.akd hk, h 1 k hk, h 2 k hk]; exact v3
  · rw [h.akd hk, h 2 k hk]; exact v4
theorem AG.acm {S S' : St} {N k : Nat} (h : AG S S' N) (hk : k < N) (he : en S k ≤ N) (hc : Cm S k) : Cm S' k := by
  intro hcn
  obtain ⟨v, v1, v2, v3, v4⟩ := hc ((h.acn hk).mp hcn)
  refine ⟨v, v1, by rw [h 1 k hk]; exact v2, fun z => ?_, fun z => ?_⟩
  · rw [h.aen hk]
    exact (h.awk (v3 ((h.akd hk).mp z)) he).1
  · have := v4 ((h.akd hk).mp z)
    rw [h.aen hk]
    exact ⟨(h.awk this.1 he).1, h.aky this.1 he this.2⟩
theorem AG.aad {S : St} {what dp : Nat} {v x : Int32} {l : List Nat} : AG S (adS S what v x l dp) S.1 := by
  intro i k hk
  show (if k = S.1 then _ else S.2.1 i k) = _
  rw [if_neg (by omega)]
theorem ad_at {S : St} {what dp : Nat} {v x : Int32} {l : List Nat} (hS : SZ S) (hd : dp ≤ 100) : KD (adS S what v x l dp) S.1 what ∧ (adS S what v x l dp).2.1 1 S.1 = v ∧ (adS S what v x l dp).2.1 2 S.1 = x ∧ en (adS S what v x l dp) S.1 = S.1 + 1 ∧ (adS S what v x l dp).2.1 3 S.1 = nI (S.1 + 1) ∧ sr (adS S what v x l dp) S.1 = S.2.2.1 ∧ (adS S what v x l dp).2.1 4 S.1 = nI S.2.2.1 ∧ dpt (adS S what v x l dp) S.1 = dp := by
  obtain ⟨z1, z2⟩ := hS
  have e : ∀ i, (adS S what v x l dp).2.1 i S.1 = (if i = 0 then nI what else if i = 1 then v else if i = 2 then x else if i = 3 then nI (S.1 + 1) else if i = 4 then nI S.2.2.1 else nI dp) := fun i => if_pos rfl
  refine ⟨e 0, e 1, e 2, ?_, e 3, ?_, e 4, ?_⟩
  · unfold en; rw [e 3]; exact nI_clamp (by omega)
  · unfold sr; rw [e 4]; exact nI_clamp (by omega)
  · unfold dpt; rw [e 5]; exact nI_clamp (by omega)
theorem ad_nx {S : St} {what dp : Nat} {v x : Int32} {l : List Nat} (hS : SZ S) (hd : dp ≤ 100) {k : Nat} : (k < S.1 → nx (adS S what v x l dp) k = nx S k) ∧ nx (adS S what v x l dp) S.1 = S.2.2.1 + l.length := by
  constructor
  · intro hk
    show (if k + 1 < S.1 + 1 then sr (adS S what v x l dp) (k + 1) else S.2.2.1 + l.length) = (if k + 1 < S.1 then sr S (k + 1) else S.2.2.1)
    rw [if_pos (by omega)]
    by_cases e : k + 1 < S.1
    · rw [if_pos e]
      exact AG.aad.asr e
    · rw [if_neg e, show k + 1 = S.1 by omega]
      exact (ad_at hS hd).2.2.2.2.2.1
  · show (if S.1 + 1 < S.1 + 1 then _ else S.2.2.1 + l.length) = _
    rw [if_neg (by omega)]
/-- old nodes, once a node is added -/
theorem ad_Nd {S : St} {what dp : Nat} {v x : Int32} {l : List Nat} (hS : SZ S) (hd : dp ≤ 100) {k : Nat} (hk : k < S.1) (h : Nd S k) : Nd (adS S what v x l dp) k := by
  have ag : AG S (adS S what v x l dp) S.1 := AG.aad
  obtain ⟨⟨n1, n2, n3⟩, n4, ⟨n5, n6, n7⟩, n8, n9⟩ := h
  refine ⟨⟨?_, ?_, ?_⟩, ?_, ⟨?_, ?_, ?_⟩, ag.avl hk n8, ?_⟩
  · rw [ag.aen hk, ag 3 k hk]; exact n1
  · rw [ag.aen hk]; exact n2
  · rw [ag.aen hk]; show _ ≤ S.1 + 1; omega
  · rw [ag.aen hk, ag.acn hk]; exact n4
  · rw [ag.asr hk, ag 4 k hk]; exact n5
  · rw [ag.asr hk, (ad_nx hS hd).1 hk]; exact n6
  · rw [ag.asr hk, (ad_nx hS hd).1 hk, ag.akd hk, ag.akd hk, ag 1 k hk]; exact n7
  · rw [ag.acn hk, ag.adp hk]; exact n9
/-- the new node -/
theorem ad_new {S : St} {what dp : Nat} {v x : Int32} {l : List Nat} (hS : SZ S) (hd : dp ≤ 100) (hw : what < 10) (ht : (what = 4 ∨ what = 5) → v = nI l.length) (hv : ((what = 2 ∨ what = 3) → ∃ s, s ≤ 2147483647 ∧ (v = nI s ∨ v = (- lN s).toInt32)) ∧ (what = 8 → ∃ p g, p ≤ 8388607 ∧ g ≤ 65535 ∧ v = nI p ∧ x = nI g) ∧ (what = 5 → x = 0)) (hc : (what = 6 ∨ what = 7) → dp ≤ 99) : Nd (adS S what v x l dp) S.1 := by
  obtain ⟨a1, a2, a3, a4, a5, a6, a7, a8⟩ := ad_at (what := what) (v := v) (x := x) (l := l) hS hd
  have hn := (ad_nx (what := what) (v := v) (x := x) (l := l) hS hd (k := 0)).2
  have ku : ∀ j, j < 10 → KD (adS S what v x l dp) S.1 j → what = j := fun j hj z => KD_u a1 z hw hj
  refine ⟨⟨by rw [a4]; exact a5, by rw [a4]; omega, by rw [a4]; exact Nat.le_refl _⟩, fun _ => a4, ⟨by rw [a6]; exact a7, by rw [a6, hn]; omega, fun z => ?_⟩, ⟨⟨what, hw, a1⟩, fun z => ?_, fun z => ?_, fun z => ?_⟩, fun z => ?_⟩
  · refine ⟨l.length, ?_, by rw [a6, hn]; exact Nat.le_refl _⟩
    rw [a2]
    refine ht ?_
    rcases z with z | z
    · exact Or.inl (ku 4 (by omega) z)
    · exact Or.inr (ku 5 (by omega) z)
  · rw [a2]
    refine hv.1 ?_
    rcases z with z | z
    · exact Or.inl (ku 2 (by omega) z)
    · exact Or.inr (ku 3 (by omega) z)
  · rw [a2, a3]
    exact hv.2.1 (ku 8 (by omega) z)
  · rw [a3]
    exact hv.2.2 (ku 5 (by omega) z)
  · rw [a8]
    refine hc ?_
    rcases z with z | z
    · exact Or.inl (ku 6 (by omega) z)
    · exact Or.inr (ku 7 (by omega) z)
