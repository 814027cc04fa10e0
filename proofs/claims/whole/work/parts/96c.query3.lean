/-! ===== PURE: finding, likeness, kinds, values, bytes ===== -/
def fdl (S : St) (nm : Nat) : Nat → Nat → Int32 → Int32
  | 0, _, f => f
  | m + 1, k, f => fdl S nm m (en S (k + 1)) (if sBy S k nm = true then nI (k + 1) else f)
def fnA (S : St) (d nm : Nat) : Int32 := if S.2.1 0 d = nI 7 ∧ S.2.1 0 nm = nI 5 then (if ¬ fdl S nm (S.2.1 1 d).toNatClampNeg (d + 1) (-1) < 0 ∧ S.2.1 0 (fdl S nm (S.2.1 1 d).toNatClampNeg (d + 1) (-1)).toNatClampNeg = nI 0 then -1 else fdl S nm (S.2.1 1 d).toNatClampNeg (d + 1) (-1)) else -1
theorem k5 {S : St} {k nm : Nat} (hW : WF S) (hk : k < S.1) (hn : nm < S.1) (h1 : KD S k 5) (h2 : KD S nm 5) : sND S k nm = sBy S k nm := by
  have e1 := (hW k hk).1.2.2.2.1.2.2.2 h1
  have e2 := (hW nm hn).1.2.2.2.1.2.2.2 h2
  have h1' : S.2.1 0 k = nI 5 := h1
  have h2' : S.2.1 0 nm = nI 5 := h2
  unfold sND sBy
  rw [if_pos (Or.inr h1'), h1', h2', e1, e2]
  congr 1
  rw [decide_eq_decide]
  exact ⟨fun z => z.2.1, fun z => ⟨rfl, z, rfl⟩⟩
section QC3
variable {σ : Sg} {Q : Po} {X : Xo} {S : St}
theorem lp_lookUp {d nm v : Nat} (hC : CS σ S) (hS : SZ S) (hW : WF S) (hd : d < S.1) (hn : nm < S.1) (h5 : KD S nm 5) (hw : WK S (d + 1) (2 * v) (en S d)) (hk : KY S (d + 1) (2 * v)) (v2 : S.2.1 1 d = nI v) (hv : v ≤ 4000) (h : ∀ r, (r = -1 ∨ ∃ q, q < S.1 ∧ r = nI q) → r = fdl S nm v (d + 1) (-1) → Q (some (.int r)) σ) {I : Jt} (hI : Cl (FM (cutN 53 t_X4_lookUp) e_X4_lookUp xn0 0 sws0 false Q X) I) :
    ∀ m i f, i + m = v → (f = -1 ∨ ∃ q, q < S.1 ∧ f = nI q) → fdl S nm m (it S (d + 1) (2 * i)) f = fdl S nm v (d + 1) (-1) → I 0 10 [some (.ref 2), some (.int (nI d)), some (.int (nI nm)), some (.int f), some (.int (nI (it S (d + 1) (2 * i)))), some (.int (nI i))] [] σ := by
  have he := (hW d hd).1.1.2.2
  have lt : ∀ q, q < 2 * v → it S (d + 1) q < S.1 := fun q hq => by have := hw.2 q hq; omega
  have nx1 : ∀ p, p < v → it S (d + 1) (2 * p + 1) = it S (d + 1) (2 * p) + 1 := fun p hp => it_leaf hW hS (lt _ (by omega)) (hk p (by omega))
  intro m
  induction m with
  | zero =>
    intro i f hi hf hr
    refine run_in (stop := fun pc => Nat.beq pc 10) hI 40 ?_
    refine ⟨Nat.le_refl _, sp_X4_valueOf hC hS hd (fun r hr' => ?_)⟩
    subst hr'
    exact pk_le v i (fun g => h f hf hr) (fun g => by omega) v2 rfl
  | succ m ih =>
    intro i f hi hf hr
    have hl1 := lt (2 * i) (by omega)
    have hl2 := lt (2 * i + 1) (by omega)
    have hn1 := nx1 i (by omega)
    have e2 : it S (d + 1) (2 * (i + 1)) = en S (it S (d + 1) (2 * i) + 1) := by rw [← hn1]; rfl
    have nxt : ∀ f', (f' = -1 ∨ ∃ q, q < S.1 ∧ f' = nI q) → f' = (if sBy S (it S (d + 1) (2 * i)) nm = true then nI (it S (d + 1) (2 * i) + 1) else f) → I 0 35 [some (.ref 2), some (.int (nI d)), some (.int (nI nm)), some (.int f'), some (.int (nI (it S (d + 1) (2 * i)))), some (.int (nI i))] [] σ := by
      intro f' hf' he'
      refine run_in (stop := fun pc => Nat.beq pc 10) hI 40 ?_
      refine ⟨Nat.le_refl _, ?_⟩
      show P_X4_endOf [.ref 2, .int (nI (it S (d + 1) (2 * i)) + 1)] σ _ _
      rw [← nI_succ]
      refine sp_end hC hS hW (by omega) ?_
      have := ih (i + 1) f' (by omega) hf' (by rw [← hr, e2, he']; rfl)
      rw [e2, nI_succ i] at this
      exact this
    refine run_in (stop := fun pc => Nat.beq pc 35) hI 40 ?_
    refine ⟨Nat.le_refl _, sp_X4_valueOf hC hS hd (fun r hr' => ?_)⟩
    subst hr'
    refine pk_le v i (fun g => by omega) (fun g => ?_) v2 rfl
    refine ⟨Nat.le_refl _, sp_X4_sameBytes hC hS hW hl1 hn (Or.inr (hk i (by omega))) (fun _ => Or.inr h5) (fun r hr' => ?_)⟩
    subst hr'
    refine And.intro (fun g => ?_) (fun g => ?_)
    · exact nxt f hf (by rw [bIf g, if_neg (by simp)])
    · have := nxt (nI (it S (d + 1) (2 * i) + 1)) (Or.inr ⟨_, by omega, rfl⟩) (by rw [bIt g, if_pos rfl])
      rw [nI_succ (it S (d + 1) (2 * i))] at this
      exact this
theorem sp_X4_lookUp {d nm v : Nat} (hC : CS σ S) (hS : SZ S) (hW : WF S) (hd : d < S.1) (hn : nm < S.1) (h5 : KD S nm 5) (hw : WK S (d + 1) (2 * v) (en S d)) (hk : KY S (d + 1) (2 * v)) (v2 : S.2.1 1 d = nI v) (hv : v ≤ 4000) (h : ∀ r, (r = -1 ∨ ∃ q, q < S.1 ∧ r = nI q) → r = fdl S nm v (d + 1) (-1) → Q (some (.int r)) σ) : P_X4_lookUp [.ref 2, .int (nI d), .int (nI nm)] σ Q X := by
  refine ⟨rfl, fun I hI => run_in (stop := fun pc => Nat.beq pc 10) hI 40 ?_⟩
  have := lp_lookUp hC hS hW hd hn h5 hw hk v2 hv h hI v 0 (-1) (by omega) (Or.inl rfl) rfl
  rw [show it S (d + 1) (2 * 0) = d + 1 from rfl, nI_succ] at this
  exact this
theorem sp_X7_find {x y : Int32} (hC : CS σ S) (hS : SZ S) (hW : WF S) (h0 : ((x < 0 ∨ nI S.1 ≤ x) ∨ (y < 0 ∨ nI S.1 ≤ y)) → X xI σ) (h1 : ∀ i j, i < S.1 → j < S.1 → x = nI i → y = nI j → Q (some (.int (fnA S (unw S i) j))) σ) : P_X7_find [.ref 0, .int x, .int y] σ Q X := by
  have hz := hS.1
  refine ⟨rfl, fun I hI => run_in (stop := fun _ => false) hI 60 ?_⟩
  refine ⟨by decide, sp_X7_needNode hC hS (fun g => h0 (Or.inl g)) (fun i hi hx => ?_)⟩
  subst hx
  refine ⟨Nat.le_refl _, sp_X7_needNode hC hS (fun g => h0 (Or.inr g)) (fun j hj hy => ?_)⟩
  subst hy
  have h := h1 i j hi hj rfl rfl
  have hu := (unw_b hW hS hi).1
  refine ⟨Nat.le_refl _, sp_X4_unwrap hC hS hW hi ?_⟩
  generalize unw S i = d at hu h ⊢
  unfold fnA at h
  refine ⟨Nat.le_refl _, sp_X4_kindOf hC hS hu (fun r hr => ?_)⟩
  subst hr
  refine And.intro (fun g => ?_) (fun g7 => ?_)
  · rw [if_neg (fun z => g z.1)] at h
    exact h
  refine ⟨Nat.le_refl _, sp_X4_kindOf hC hS hj (fun r hr => ?_)⟩
  subst hr
  refine And.intro (fun g5 => ?_) (fun g => ?_)
  · rw [if_pos ⟨g7, g5⟩] at h
    obtain ⟨v, v1, v2, v3, v4⟩ := dic_ok hW hu g7
    rw [v2, nI_clamp (by omega)] at h
    refine ⟨Nat.le_refl _, sp_X4_lookUp hC hS hW hu hj g5 v3 v4 v2 v1 (fun r hr hr2 => ?_)⟩
    rw [← hr2] at h
    rcases hr with rfl | ⟨q, hq, rfl⟩
    · refine ⟨Nat.le_refl _, sp_X4_kindOf_no (by decide) ?_⟩
      rw [if_neg (fun z => absurd (by decide) z.1)] at h
      exact And.intro (fun _ => h) (fun z => absurd z (by decide))
    · refine ⟨Nat.le_refl _, sp_X4_kindOf hC hS hq (fun r hr => ?_)⟩
      subst hr
      rw [nI_clamp (by omega)] at h
      refine And.intro (fun z => ?_) (fun z => ?_)
      · rw [if_neg (fun y => z y.2)] at h
        exact h
      · rw [if_pos ⟨nI_pos (by omega), z⟩] at h
        exact h
  · rw [if_neg (fun z => g z.2)] at h
    exact h
def alA (S : St) (i j : Nat) : Bool := decide (S.2.1 0 i = S.2.1 0 j) && sT S (unw S i) (unw S j)
theorem sp_X7_alike {x y : Int32} (hC : CS σ S) (hS : SZ S) (hW : WF S) (h0 : ((x < 0 ∨ nI S.1 ≤ x) ∨ (y < 0 ∨ nI S.1 ≤ y)) → X xI σ) (h1 : ∀ i j, i < S.1 → j < S.1 → x = nI i → y = nI j → Q (some (.int (bI (alA S i j)))) σ) : P_X7_alike [.ref 0, .int x, .int y] σ Q X := by
  refine ⟨rfl, fun I hI => run_in (stop := fun _ => false) hI 60 ?_⟩
  refine ⟨by decide, sp_X7_needNode hC hS (fun g => h0 (Or.inl g)) (fun i hi hx => ?_)⟩
  subst hx
  refine ⟨Nat.le_refl _, sp_X7_needNode hC hS (fun g => h0 (Or.inr g)) (fun j hj hy => ?_)⟩
  subst hy
  have h := h1 i j hi hj rfl rfl
  refine ⟨Nat.le_refl _, sp_X4_kindOf hC hS hi (fun r hr => ?_)⟩
  subst hr
  refine ⟨Nat.le_refl _, sp_X4_kindOf hC hS hj (fun r hr => ?_)⟩
  subst hr
  unfold alA at h
  refine And.intro (fun g => ?_) (fun g => ?_)
  · rw [decide_eq_true g, Bool.true_and] at h
    refine ⟨Nat.le_refl _, sp_X4_unwrap hC hS hW hi ?_⟩
    refine ⟨Nat.le_refl _, sp_X4_unwrap hC hS hW hj ?_⟩
    refine ⟨Nat.le_refl _, sp_X4_sameTree hC hS hW (unw_b hW hS hi).1 (unw_b hW hS hj).1 (fun r hr => ?_)⟩
    subst hr
    refine ⟨?_, h⟩
    cases sT S (unw S i) (unw S j) <;> first | exact bo1 | exact bo0
  · rw [decide_eq_false g] at h
    exact ⟨bo0, h⟩
theorem sp_X7_kind {x : Int32} (hC : CS σ S) (hS : SZ S) (h0 : (x < 0 ∨ nI S.1 ≤ x) → X xI σ) (h1 : ∀ i, i < S.1 → x = nI i → Q (some (.int (S.2.1 0 i))) σ) : P_X7_kind [.ref 0, .int x] σ Q X := by
  refine ⟨rfl, fun I hI => run_in (stop := fun _ => false) hI 60 ?_⟩
  refine ⟨Nat.le_refl _, sp_X7_needNode hC hS h0 (fun i hi hx => ?_)⟩
  subst hx
  exact ⟨Nat.le_refl _, sp_X4_kindOf hC hS hi (fun r hr => by rw [hr]; exact h1 i hi rfl)⟩
theorem sp_X7_value {x : Int32} (hC : CS σ S) (hS : SZ S) (h0 : (x < 0 ∨ nI S.1 ≤ x) → X xI σ) (h1 : ∀ i, i < S.1 → x = nI i → Q (some (.int (S.2.1 1 i))) σ) : P_X7_value [.ref 0, .int x] σ Q X := by
  refine ⟨rfl, fun I hI => run_in (stop := fun _ => false) hI 60 ?_⟩
  refine ⟨Nat.le_refl _, sp_X7_needNode hC hS h0 (fun i hi hx => ?_)⟩
  subst hx
  exact ⟨Nat.le_refl _, sp_X4_valueOf hC hS hi (fun r hr => by rw [hr]; exact h1 i hi rfl)⟩
theorem sp_X7_byteAt {x y : Int32} (hC : CS σ S) (hS : SZ S) (hW : WF S) (h0 : (x < 0 ∨ nI S.1 ≤ x) → X xI σ) (h1 : ∀ i, i < S.1 → x = nI i → Q (some (.int (byA S i y))) σ) : P_X7_byteAt [.ref 0, .int x, .int y] σ Q X := by
  refine ⟨rfl, fun I hI => run_in (stop := fun _ => false) hI 60 ?_⟩
  refine ⟨Nat.le_refl _, sp_X7_needNode hC hS h0 (fun i hi hx => ?_)⟩
  subst hx
  exact ⟨Nat.le_refl _, sp_X4_byteOf hC hS hW hi (fun r hr => by rw [hr]; exact h1 i hi rfl)⟩
end QC3
section QM3
variable {σ : Sg} {Q : Po} {X : Xo} {S : St}
theorem sp_X8_kind {x : Int32} (hM : MS σ S) (hS : SZ S) (h0 : (x < 0 ∨ nI S.1 ≤ x) → Q (some (.int 0)) (sM σ 7 0 1)) (h1 : ∀ i, i < S.1 → x = nI i → Q (some (.int (S.2.1 0 i))) (sM σ 7 0 0)) : P_X8_kind [.ref 7, .int x] σ Q X := by
  have hz := hS.1
  refine ⟨rfl, fun I hI => run_in (stop := fun _ => false) hI 60 ?_⟩
  rcases pk_ix x (n := S.1) (by omega) with g | g | ⟨j, hj, hx⟩
  · refine ⟨Nat.le_refl _, sp_X8_isWrong_no hM (Or.inl g) ?_⟩
    exact And.intro (fun z => absurd z (by decide)) (fun _ => h0 (Or.inl g))
  · refine ⟨Nat.le_refl _, sp_X8_isWrong_no hM (Or.inr g) ?_⟩
    exact And.intro (fun z => absurd z (by decide)) (fun _ => h0 (Or.inr g))
  subst hx
  obtain ⟨a1, a2⟩ := ldm (i := 0) (hM.f0 (v := 0)) hS (by omega) hj
  have a2 : el (sM σ 7 0 0) 21 (nI j) = S.2.1 0 j := a2
  refine ⟨Nat.le_refl _, sp_X8_isWrong_ok hM hS hj ?_⟩
  refine And.intro (fun _ => ?_) (fun z => absurd rfl z)
  refine ⟨rfl, a1, ?_⟩
  rw [a2]
  exact h1 j hj rfl
theorem sp_X8_value {x : Int32} (hM : MS σ S) (hS : SZ S) (h0 : (x < 0 ∨ nI S.1 ≤ x) → Q (some (.int 0)) (sM σ 7 0 1)) (h1 : ∀ i, i < S.1 → x = nI i → Q (some (.int (S.2.1 1 i))) (sM σ 7 0 0)) : P_X8_value [.ref 7, .int x] σ Q X := by
  have hz := hS.1
  refine ⟨rfl, fun I hI => run_in (stop := fun _ => false) hI 60 ?_⟩
  rcases pk_ix x (n := S.1) (by omega) with g | g | ⟨j, hj, hx⟩
  · refine ⟨Nat.le_refl _, sp_X8_isWrong_no hM (Or.inl g) ?_⟩
    exact And.intro (fun z => absurd z (by decide)) (fun _ => h0 (Or.inl g))
  · refine ⟨Nat.le_refl _, sp_X8_isWrong_no hM (Or.inr g) ?_⟩
    exact And.intro (fun z => absurd z (by decide)) (fun _ => h0 (Or.inr g))
  subst hx
  obtain ⟨a1, a2⟩ := ldm (i := 1) (hM.f0 (v := 0)) hS (by omega) hj
  have a2 : el (sM σ 7 0 0) 22 (nI j) = S.2.1 1 j := a2
  refine ⟨Nat.le_refl _, sp_X8_isWrong_ok hM hS hj ?_⟩
  refine And.intro (fun _ => ?_) (fun z => absurd rfl z)
  refine ⟨rfl, a1, ?_⟩
  rw [a2]
  exact h1 j hj rfl
theorem sp_X8_byteAt {x y : Int32} (hM : MS σ S) (hS : SZ S) (hW : WF S) (h0 : (x < 0 ∨ nI S.1 ≤ x) → Q (some (.int 0)) (sM σ 7 0 1)) (h1 : ∀ i, i < S.1 → x = nI i → Q (some (.int (byA S i y))) (sM σ 7 0 0)) : P_X8_byteAt [.ref 7, .int x, .int y] σ Q X := by
  have hz := hS.1
  refine ⟨rfl, fun I hI => run_in (stop := fun _ => false) hI 60 ?_⟩
  rcases pk_ix x (n := S.1) (by omega) with g | g | ⟨j, hj, hx⟩
  · refine ⟨Nat.le_refl _, sp_X8_isWrong_no hM (Or.inl g) ?_⟩
    exact And.intro (fun z => absurd z (by decide)) (fun _ => h0 (Or.inl g))
  · refine ⟨Nat.le_refl _, sp_X8_isWrong_no hM (Or.inr g) ?_⟩
    exact And.intro (fun z => absurd z (by decide)) (fun _ => h0 (Or.inr g))
  subst hx
  have h := h1 j hj rfl
  have hM0 : MS (sM σ 7 0 0) S := hM.f0
  obtain ⟨b1, b2⟩ := ldm (i := 1) hM0 hS (by omega) hj
  have b2 : el (sM σ 7 0 0) 22 (nI j) = S.2.1 1 j := b2
  refine ⟨Nat.le_refl _, sp_X8_isWrong_ok hM hS hj ?_⟩
  refine And.intro (fun _ => ?_) (fun z => absurd rfl z)
  refine ⟨Nat.le_refl _, sp_X8_isText hM0 hS hj (fun r hr => ?_)⟩
  subst hr
  unfold byA at h
  refine And.intro (fun g => ?_) (fun g => ?_)
  · have g := of_decide_eq_false (bIf g)
    rw [if_neg (fun z => g z.1)] at h
    exact h
  · have g := of_decide_eq_true (bIt g)
    obtain ⟨l, l1, l2, l3, l4⟩ := tx_ok hW hS hj g
    have hz2 := hS.2
    refine And.intro (fun g1 => ?_) (fun g1 => ?_)
    · rw [if_neg (fun z => z.2.1 g1)] at h
      exact h
    · obtain ⟨i, hi, rfl⟩ := nI_of g1
      refine ⟨rfl, b1, ?_⟩
      rw [b2]
      refine And.intro (fun g2 => ?_) (fun g2 => ?_)
      · rw [if_neg (fun z => absurd z.2.2 (Int32.not_lt.mpr g2))] at h
        exact h
      · have g3 : nI i < S.2.1 1 j := Int32.not_le.mp g2
        rw [if_pos ⟨g, g1, g3⟩, nI_clamp hi] at h
        rw [l1] at g3
        obtain ⟨⟨s1, s2⟩, s3, s4⟩ := ldb (i := i) hM0 hS hj l2 ((nI_ltI hi (by omega)).mp g3) l3
        refine ⟨rfl, s1, ?_⟩
        rw [s2]
        refine ⟨rfl, s3, ?_⟩
        rw [s4]
        exact h
theorem lp_find {d nm v n0 : Nat} (hM : MS σ S) (hS : SZ S) (hW : WF S) (hd : d < S.1) (hn : nm < S.1) (h5 : KD S nm 5) (hw : WK S (d + 1) (2 * v) (en S d)) (hk : KY S (d + 1) (2 * v)) (hv : v ≤ 4000) {I : Jt} (h : ∀ r z5 z6, (r = -1 ∨ ∃ q, q < S.1 ∧ r = nI q) → r = fdl S nm v (d + 1) (-1) → I 0 116 [some (.ref 7), some (.int (nI n0)), some (.int (nI nm)), some (.int (nI d)), some (.int r), z5, z6] [] σ) (hI : Cl (FM (cutN 138 t_X8_find) e_X8_find xn0 0 sws0 false Q X) I) :
    ∀ m i f z6, i + m = v → (f = -1 ∨ ∃ q, q < S.1 ∧ f = nI q) → fdl S nm m (it S (d + 1) (2 * i)) f = fdl S nm v (d + 1) (-1) → I 0 65 [some (.ref 7), some (.int (nI n0)), some (.int (nI nm)), some (.int (nI d)), some (.int f), some (.int (nI (it S (d + 1) (2 * i)))), z6] [] σ := by
  have hz := hS.1
  obtain ⟨he1, he2, he⟩ := (hW d hd).1.1
  have lt : ∀ q, q < 2 * v → it S (d + 1) q < S.1 := fun q hq => by have := hw.2 q hq; omega
  have nx1 : ∀ p, p < v → it S (d + 1) (2 * p + 1) = it S (d + 1) (2 * p) + 1 := fun p hp => it_leaf hW hS (lt _ (by omega)) (hk p (by omega))
  obtain ⟨a1, a2⟩ := ldm (i := 3) hM hS (by omega) hd
  have a2 : el σ 25 (nI d) = nI (en S d) := by rw [show el σ 25 (nI d) = S.2.1 3 d from a2, he1]
  intro m
  induction m with
  | zero =>
    intro i f z6 hi hf hr
    have hiv : i = v := by omega
    subst hiv
    have := hw.1
    refine run_in (stop := fun pc => Nat.beq pc 65 || Nat.beq pc 116) hI 40 ?_
    refine ⟨rfl, a1, ?_⟩
    rw [a2]
    exact pk_le (en S d) (it S (d + 1) (2 * i)) (fun g => h f _ _ hf hr) (fun g => by omega) rfl rfl
  | succ m ih =>
    intro i f z6 hi hf hr
    have hl1 := lt (2 * i) (by omega)
    have hl2 := lt (2 * i + 1) (by omega)
    have hlw := hw.2 (2 * i) (by omega)
    have hn1 := nx1 i (by omega)
    have e2 : it S (d + 1) (2 * (i + 1)) = en S (it S (d + 1) (2 * i) + 1) := by rw [← hn1]; rfl
    obtain ⟨b1, b2⟩ := ldm (i := 3) hM hS (by omega) hl1
    have b2 : el σ 25 (nI (it S (d + 1) (2 * i))) = nI (it S (d + 1) (2 * i + 1)) := by rw [show el σ 25 (nI (it S (d + 1) (2 * i))) = S.2.1 3 (it S (d + 1) (2 * i)) from b2, (hW _ hl1).1.1.1]; rfl
    obtain ⟨c1, c2⟩ := ldm (i := 3) hM hS (by omega) hl2
    have c2 : el σ 25 (nI (it S (d + 1) (2 * i + 1))) = nI (it S (d + 1) (2 * (i + 1))) := by rw [show el σ 25 (nI (it S (d + 1) (2 * i + 1))) = S.2.1 3 (it S (d + 1) (2 * i + 1)) from c2, (hW _ hl2).1.1.1]; rfl
    have nxt : ∀ f', (f' = -1 ∨ ∃ q, q < S.1 ∧ f' = nI q) → f' = (if sBy S (it S (d + 1) (2 * i)) nm = true then nI (it S (d + 1) (2 * i) + 1) else f) → I 0 104 [some (.ref 7), some (.int (nI n0)), some (.int (nI nm)), some (.int (nI d)), some (.int f'), some (.int (nI (it S (d + 1) (2 * i)))), some (.int (nI (it S (d + 1) (2 * i + 1))))] [] σ := by
      intro f' hf' he'
      refine run_in (stop := fun pc => Nat.beq pc 65) hI 40 ?_
      refine ⟨rfl, c1, ?_⟩
      rw [c2]
      exact ih (i + 1) f' _ (by omega) hf' (by rw [← hr, e2, he']; rfl)
    refine run_in (stop := fun pc => Nat.beq pc 104 || Nat.beq pc 116) hI 60 ?_
    refine ⟨rfl, a1, ?_⟩
    rw [a2]
    refine pk_le (en S d) (it S (d + 1) (2 * i)) (fun g => by omega) (fun g => ?_) rfl rfl
    refine ⟨rfl, b1, ?_⟩
    rw [b2]
    refine ⟨Nat.le_refl _, sp_X8_same hM hS hW hl1 hn (fun r hr' => ?_)⟩
    rw [k5 hW hl1 hn (hk i (by omega)) h5] at hr'
    subst hr'
    refine And.intro (fun g => ?_) (fun g => ?_)
    · exact nxt f hf (by rw [bIf g, if_neg (by simp)])
    · have := nxt (nI (it S (d + 1) (2 * i) + 1)) (Or.inr ⟨_, by omega, rfl⟩) (by rw [bIt g, if_pos rfl])
      rw [← hn1] at this
      exact this
/-- two nodes that must be there -/
theorem two_nodes {x y : Int32} (hS : SZ S) : ((x < 0 ∨ nI S.1 ≤ x) ∨ (y < 0 ∨ nI S.1 ≤ y)) ∨ ∃ i j, i < S.1 ∧ j < S.1 ∧ x = nI i ∧ y = nI j := by
  have hz := hS.1
  rcases pk_ix x (n := S.1) (by omega) with g | g | ⟨i, hi, hx⟩
  · exact Or.inl (Or.inl (Or.inl g))
  · exact Or.inl (Or.inl (Or.inr g))
  · rcases pk_ix y (n := S.1) (by omega) with g | g | ⟨j, hj, hy⟩
    · exact Or.inl (Or.inr (Or.inl g))
    · exact Or.inl (Or.inr (Or.inr g))
    · exact Or.inr ⟨i, j, hi, hj, hx, hy⟩
theorem sp_X8_find {x y : Int32} (hM : MS σ S) (hS : SZ S) (hW : WF S) (h0 : ((x < 0 ∨ nI S.1 ≤ x) ∨ (y < 0 ∨ nI S.1 ≤ y)) → Q (some (.int 0)) (sM σ 7 0 1)) (h1 : ∀ i j, i < S.1 → j < S.1 → x = nI i → y = nI j → Q (some (.int (fnA S (unw S i) j))) (sM σ 7 0 0)) : P_X8_find [.ref 7, .int x, .int y] σ Q X := by
  have hz := hS.1
  refine ⟨rfl, fun I hI => run_in (stop := fun pc => Nat.beq pc 22) hI 60 ?_⟩
  have bad : ((x < 0 ∨ nI S.1 ≤ x) ∨ (y < 0 ∨ nI S.1 ≤ y)) → I 0 22 [some (.ref 7), some (.int x), some (.int y), none, none, none, none] [.int 1, .ref 7] σ := by
    intro g
    refine run_in (stop := fun _ => false) hI 60 ?_
    refine ⟨Nat.le_refl _, sp_X8_refused (b := true) (by decide) ?_⟩
    exact And.intro (fun g => absurd g (by decide)) (fun _ => h0 g)
  rcases two_nodes (x := x) (y := y) hS with g | ⟨i, j, hi, hj, hx, hy⟩
  · rcases g with g | g
    · refine ⟨Nat.le_refl _, sp_X8_isNode hM (nd_no g) (fun r hr => ?_)⟩
      subst hr
      exact And.intro (fun _ => bad (Or.inl g)) (fun z => absurd rfl z)
    · rcases pk_ix x (n := S.1) (by omega) with g2 | g2 | ⟨i, hi, hx⟩
      · refine ⟨Nat.le_refl _, sp_X8_isNode hM (nd_no (Or.inl g2)) (fun r hr => ?_)⟩
        subst hr
        exact And.intro (fun _ => bad (Or.inr g)) (fun z => absurd rfl z)
      · refine ⟨Nat.le_refl _, sp_X8_isNode hM (nd_no (Or.inr g2)) (fun r hr => ?_)⟩
        subst hr
        exact And.intro (fun _ => bad (Or.inr g)) (fun z => absurd rfl z)
      · subst hx
        refine ⟨Nat.le_refl _, sp_X8_isNode hM (nd_ok hS hi) (fun r hr => ?_)⟩
        subst hr
        refine And.intro (fun z => absurd z (by decide)) (fun _ => ?_)
        refine ⟨Nat.le_refl _, sp_X8_isNode hM (nd_no g) (fun r hr => ?_)⟩
        subst hr
        exact And.intro (fun _ => bad (Or.inr g)) (fun z => absurd rfl z)
  subst hx hy
  have h := h1 i j hi hj rfl rfl
  have hM0 : MS (sM σ 7 0 0) S := hM.f0
  have hu := (unw_b hW hS hi).1
  have end1 : ∀ r z5 z6, (r = -1 ∨ ∃ q, q < S.1 ∧ r = nI q) → (if ¬ r < 0 ∧ S.2.1 0 r.toNatClampNeg = nI 0 then (-1 : Int32) else r) = fnA S (unw S i) j → I 0 116 [some (.ref 7), some (.int (nI i)), some (.int (nI j)), some (.int (nI (unw S i))), some (.int r), z5, z6] [] (sM σ 7 0 0) := by
    intro r z5 z6 hr hq
    rw [← hq] at h
    refine run_in (stop := fun _ => false) hI 40 ?_
    rcases hr with rfl | ⟨q, hq', rfl⟩
    · rw [if_neg (fun z => absurd (by decide) z.1)] at h
      exact And.intro (fun _ => h) (fun z => absurd (by decide) z)
    · rw [nI_clamp (by omega)] at h
      obtain ⟨a1, a2⟩ := ldm (i := 0) hM0 hS (by omega) hq'
      have a2 : el (sM σ 7 0 0) 21 (nI q) = S.2.1 0 q := a2
      refine And.intro (fun z => absurd z (nI_pos (by omega))) (fun _ => ?_)
      refine ⟨rfl, a1, ?_⟩
      rw [a2]
      refine And.intro (fun z => ?_) (fun z => ?_)
      · rw [if_neg (fun y => z y.2)] at h
        exact h
      · rw [if_pos ⟨nI_pos (by omega), z⟩] at h
        exact h
  have m39 : I 0 39 [some (.ref 7), some (.int (nI i)), some (.int (nI j)), some (.int (nI (unw S i))), some (.int (-1)), none, none] [] (sM σ 7 0 0) := by
    generalize unw S i = d at hu h end1 ⊢
    obtain ⟨a1, a2⟩ := ldm (i := 0) hM0 hS (by omega) hu
    have a2 : el (sM σ 7 0 0) 21 (nI d) = S.2.1 0 d := a2
    obtain ⟨b1, b2⟩ := ldm (i := 0) hM0 hS (by omega) hj
    have b2 : el (sM σ 7 0 0) 21 (nI j) = S.2.1 0 j := b2
    refine run_in (stop := fun pc => Nat.beq pc 65 || Nat.beq pc 116) hI 40 ?_
    refine ⟨rfl, a1, ?_⟩
    rw [a2]
    refine And.intro (fun g => ?_) (fun g7 => ?_)
    · exact end1 (-1) _ _ (Or.inl rfl) (by unfold fnA; rw [if_neg (fun z => absurd (by decide) z.1), if_neg (fun z => g z.1)])
    refine ⟨rfl, b1, ?_⟩
    rw [b2]
    refine And.intro (fun g => ?_) (fun g5 => ?_)
    · exact end1 (-1) _ _ (Or.inl rfl) (by unfold fnA; rw [if_neg (fun z => absurd (by decide) z.1), if_neg (fun z => g z.2)])
    obtain ⟨v, v1, v2, v3, v4⟩ := dic_ok hW hu g7
    have := lp_find (n0 := i) hM0 hS hW hu hj g5 v3 v4 v1 (fun r z5 z6 hr hr2 => end1 r z5 z6 hr (by rw [show fnA S d j = _ from if_pos ⟨g7, g5⟩, v2, nI_clamp (by omega), ← hr2])) hI v 0 (-1) none (by omega) (Or.inl rfl) rfl
    rw [show it S (d + 1) (2 * 0) = d + 1 from rfl, nI_succ] at this
    exact this
  refine ⟨Nat.le_refl _, sp_X8_isNode hM (nd_ok hS hi) (fun r hr => ?_)⟩
  subst hr
  refine And.intro (fun z => absurd z (by decide)) (fun _ => ?_)
  refine ⟨Nat.le_refl _, sp_X8_isNode hM (nd_ok hS hj) (fun r hr => ?_)⟩
  subst hr
  refine And.intro (fun z => absurd z (by decide)) (fun _ => ?_)
  show I 0 22 _ _ _
  refine run_in (stop := fun pc => Nat.beq pc 39) hI 40 ?_
  refine ⟨Nat.le_refl _, sp_X8_refused (b := false) (by decide) ?_⟩
  refine And.intro (fun _ => ?_) (fun z => absurd rfl z)
  exact ⟨Nat.le_refl _, sp_X8_dictionaryOf hM0 hS hW hi m39⟩
theorem lp_alike {a b l n1 n2 : Nat} (hM : MS σ S) (hS : SZ S) (hW : WF S) (ha : a < S.1) (hl : l = en S a - a) (hb : b + l ≤ S.1) {I : Jt} (hI : Cl (FM (cutN 131 t_X8_alike) e_X8_alike xn0 0 sws0 true Q X) I) :
    ∀ m i is, i + m = l → (∀ r, r = bI (is && sTR S a b m i) → Q (some (.int r)) σ) → I 0 89 [some (.ref 7), some (.int (nI n1)), some (.int (nI n2)), some (.int (nI a)), some (.int (nI b)), some (.int (bI is)), some (.int (nI i))] [] σ := by
  have hz := hS.1
  obtain ⟨he1, he2, he3⟩ := (hW a ha).1.1
  obtain ⟨a1, a2⟩ := ldm (i := 3) hM hS (by omega) ha
  have a2 : el σ 25 (nI a) = nI (en S a) := by rw [show el σ 25 (nI a) = S.2.1 3 a from a2, he1]
  have s1 : nI (en S a) - nI a = nI l := by rw [hl]; exact nI_sub (by omega)
  have ex : ∀ i is, i ≤ l → (is = false ∨ i = l) → (∀ r, r = bI is → Q (some (.int r)) σ) → I 0 89 [some (.ref 7), some (.int (nI n1)), some (.int (nI n2)), some (.int (nI a)), some (.int (nI b)), some (.int (bI is)), some (.int (nI i))] [] σ := by
    intro i is hil hc h
    have hb2 : bo (some (.int (bI is))) := by cases is <;> first | exact bo1 | exact bo0
    refine run_in (stop := fun pc => Nat.beq pc 89) hI 60 ?_
    refine And.intro (fun g => ⟨hb2, h _ rfl⟩) (fun g => ?_)
    have g := bIt g
    refine ⟨rfl, a1, ?_⟩
    rw [a2]
    refine pk_le l i (fun _ => ⟨hb2, h _ rfl⟩) (fun z => ?_) s1 rfl
    rcases hc with hc | hc
    · rw [hc] at g; cases g
    · omega
  intro m
  induction m with
  | zero =>
    intro i is hi h
    exact ex i is (by omega) (Or.inr (by omega)) (fun r hr => h r (by rw [hr]; simp [sTR]))
  | succ m ih =>
    intro i is hi h
    cases his : is with
    | false => exact ex i false (by omega) (Or.inl rfl) (fun r hr => h r (by rw [hr, his]; rfl))
    | true =>
      refine run_in (stop := fun pc => Nat.beq pc 89) hI 60 ?_
      refine And.intro (fun g => absurd g (by decide)) (fun _ => ?_)
      refine ⟨rfl, a1, ?_⟩
      rw [a2]
      refine pk_le l i (fun g => by omega) (fun g => ?_) s1 rfl
      refine ⟨Nat.le_refl _, ?_⟩
      show P_X8_same [.ref 7, .int (nI a + nI i), .int (nI b + nI i)] σ _ _
      rw [nI_add, nI_add]
      refine sp_X8_same hM hS hW (by omega) (by omega) (fun r hr => ?_)
      subst hr
      have := ih (i + 1) (sND S (a + i) (b + i)) (by omega) (fun r hr => h r (by
        rw [hr, his]
        simp only [sTR]
        cases sND S (a + i) (b + i) <;> simp))
      rw [nI_succ] at this
      exact this
theorem sp_X8_alike {x y : Int32} (hM : MS σ S) (hS : SZ S) (hW : WF S) (h0 : ((x < 0 ∨ nI S.1 ≤ x) ∨ (y < 0 ∨ nI S.1 ≤ y)) → Q (some (.int 0)) (sM σ 7 0 1)) (h1 : ∀ i j, i < S.1 → j < S.1 → x = nI i → y = nI j → Q (some (.int (bI (alA S i j)))) (sM σ 7 0 0)) : P_X8_alike [.ref 7, .int x, .int y] σ Q X := by
  have hz := hS.1
  refine ⟨rfl, fun I hI => run_in (stop := fun pc => Nat.beq pc 22) hI 60 ?_⟩
  have bad : ((x < 0 ∨ nI S.1 ≤ x) ∨ (y < 0 ∨ nI S.1 ≤ y)) → I 0 22 [some (.ref 7), some (.int x), some (.int y), none, none, none, none] [.int 1, .ref 7] σ := by
    intro g
    refine run_in (stop := fun _ => false) hI 60 ?_
    refine ⟨Nat.le_refl _, sp_X8_refused (b := true) (by decide) ?_⟩
    exact And.intro (fun g => absurd g (by decide)) (fun _ => ⟨bo0, h0 g⟩)
  rcases two_nodes (x := x) (y := y) hS with g | ⟨i, j, hi, hj, hx, hy⟩
  · rcases g with g | g
    · refine ⟨Nat.le_refl _, sp_X8_isNode hM (nd_no g) (fun r hr => ?_)⟩
      subst hr
      exact And.intro (fun _ => bad (Or.inl g)) (fun z => absurd rfl z)
    · rcases pk_ix x (n := S.1) (by omega) with g2 | g2 | ⟨i, hi, hx⟩
      · refine ⟨Nat.le_refl _, sp_X8_isNode hM (nd_no (Or.inl g2)) (fun r hr => ?_)⟩
        subst hr
        exact And.intro (fun _ => bad (Or.inr g)) (fun z => absurd rfl z)
      · refine ⟨Nat.le_refl _, sp_X8_isNode hM (nd_no (Or.inr g2)) (fun r hr => ?_)⟩
        subst hr
        exact And.intro (fun _ => bad (Or.inr g)) (fun z => absurd rfl z)
      · subst hx
        refine ⟨Nat.le_refl _, sp_X8_isNode hM (nd_ok hS hi) (fun r hr => ?_)⟩
        subst hr
        refine And.intro (fun z => absurd z (by decide)) (fun _ => ?_)
        refine ⟨Nat.le_refl _, sp_X8_isNode hM (nd_no g) (fun r hr => ?_)⟩
        subst hr
        exact And.intro (fun _ => bad (Or.inr g)) (fun z => absurd rfl z)
  subst hx hy
  have h := h1 i j hi hj rfl rfl
  have hM0 : MS (sM σ 7 0 0) S := hM.f0
  have hu := (unw_b hW hS hi).1
  have hw := (unw_b hW hS hj).1
  have m43 : I 0 43 [some (.ref 7), some (.int (nI i)), some (.int (nI j)), some (.int (nI (unw S i))), some (.int (nI (unw S j))), none, none] [] (sM σ 7 0 0) := by
    unfold alA sT at h
    generalize unw S i = a at hu h ⊢
    generalize unw S j = b at hw h ⊢
    obtain ⟨ea, ea1, ea2⟩ := (hW a hu).1.1
    obtain ⟨eb, eb1, eb2⟩ := (hW b hw).1.1
    obtain ⟨a1, a2⟩ := ldm (i := 0) hM0 hS (by omega) hi
    have a2 : el (sM σ 7 0 0) 21 (nI i) = S.2.1 0 i := a2
    obtain ⟨b1, b2⟩ := ldm (i := 0) hM0 hS (by omega) hj
    have b2 : el (sM σ 7 0 0) 21 (nI j) = S.2.1 0 j := b2
    obtain ⟨c1, c2⟩ := ldm (i := 3) hM0 hS (by omega) hu
    have c2 : el (sM σ 7 0 0) 25 (nI a) = nI (en S a) := by rw [show el (sM σ 7 0 0) 25 (nI a) = S.2.1 3 a from c2, ea]
    obtain ⟨d1, d2⟩ := ldm (i := 3) hM0 hS (by omega) hw
    have d2 : el (sM σ 7 0 0) 25 (nI b) = nI (en S b) := by rw [show el (sM σ 7 0 0) 25 (nI b) = S.2.1 3 b from d2, eb]
    have no : (decide (S.2.1 0 i = S.2.1 0 j) && (decide (en S a - a = en S b - b) && sTR S a b (en S a - a) 0)) = false → I 0 89 [some (.ref 7), some (.int (nI i)), some (.int (nI j)), some (.int (nI a)), some (.int (nI b)), some (.int 0), some (.int 0)] [] (sM σ 7 0 0) := by
      intro e
      rw [e] at h
      refine run_in (stop := fun _ => false) hI 40 ?_
      exact And.intro (fun _ => ⟨bo0, h⟩) (fun z => absurd rfl z)
    refine run_in (stop := fun pc => Nat.beq pc 89) hI 60 ?_
    refine ⟨rfl, a1, ?_⟩
    rw [a2]
    refine ⟨rfl, b1, ?_⟩
    rw [b2]
    refine And.intro (fun g => no (by rw [decide_eq_false g]; rfl)) (fun g => ?_)
    refine ⟨rfl, c1, ?_⟩
    rw [c2]
    refine ⟨rfl, d1, ?_⟩
    rw [d2]
    refine kne (en S a - a) (en S b - b) (fun q => no (by rw [decide_eq_false q]; simp)) (fun q => ?_) (nI_sub (by omega)) (nI_sub (by omega))
    refine lp_alike (l := en S a - a) hM0 hS hW hu rfl (by omega) hI (en S a - a) 0 true (by omega) (fun r hr => ?_)
    rw [decide_eq_true g, decide_eq_true q] at h
    rw [hr]
    exact h
  refine ⟨Nat.le_refl _, sp_X8_isNode hM (nd_ok hS hi) (fun r hr => ?_)⟩
  subst hr
  refine And.intro (fun z => absurd z (by decide)) (fun _ => ?_)
  refine ⟨Nat.le_refl _, sp_X8_isNode hM (nd_ok hS hj) (fun r hr => ?_)⟩
  subst hr
  refine And.intro (fun z => absurd z (by decide)) (fun _ => ?_)
  show I 0 22 _ _ _
  refine run_in (stop := fun pc => Nat.beq pc 43) hI 40 ?_
  refine ⟨Nat.le_refl _, sp_X8_refused (b := false) (by decide) ?_⟩
  refine And.intro (fun _ => ?_) (fun z => absurd rfl z)
  refine ⟨Nat.le_refl _, sp_X8_dictionaryOf hM0 hS hW hi ?_⟩
  exact ⟨Nat.le_refl _, sp_X8_dictionaryOf hM0 hS hW hj m43⟩
end QM3
