/-! ===== PURE: children, finding, likeness ===== -/
theorem it_leaf {S : St} {c m : Nat} (hW : WF S) (hS : SZ S) (hlt : it S c m < S.1) (h5 : KD S (it S c m) 5) : it S c (m + 1) = it S c m + 1 := by
  refine (hW _ hlt).1.2.1 (fun z => ?_)
  rcases z with z | z
  · have := KD_u h5 z (by omega) (by omega); omega
  · have := KD_u h5 z (by omega) (by omega); omega
/-- the parts of an array, of a dictionary -/
theorem arr_ok {S : St} {j : Nat} (hW : WF S) (hj : j < S.1) (h : KD S j 6) : ∃ v, v ≤ 4000 ∧ S.2.1 1 j = nI v ∧ WK S (j + 1) v (en S j) := by
  obtain ⟨v, h1, h2, h3, h4⟩ := (hW j hj).2.1 (Or.inl h)
  exact ⟨v, h1, h2, h3 h⟩
theorem dic_ok {S : St} {j : Nat} (hW : WF S) (hj : j < S.1) (h : KD S j 7) : ∃ v, v ≤ 4000 ∧ S.2.1 1 j = nI v ∧ WK S (j + 1) (2 * v) (en S j) ∧ KY S (j + 1) (2 * v) := by
  obtain ⟨v, h1, h2, h3, h4⟩ := (hW j hj).2.1 (Or.inr h)
  exact ⟨v, h1, h2, (h4 h).1, (h4 h).2⟩
def chA (S : St) (j : Nat) (x : Int32) (key : Bool) : Int32 :=
  if S.2.1 0 j = nI 6 then (if x < 0 ∨ ¬ x < S.2.1 1 j then -1 else nI (it S (j + 1) x.toNatClampNeg)) else
  if S.2.1 0 j = nI 7 then (if x < 0 ∨ ¬ x < S.2.1 1 j then -1 else nI (it S (j + 1) (2 * x.toNatClampNeg + (if key = true then 0 else 1)))) else
  if S.2.1 0 j = nI 8 ∨ S.2.1 0 j = nI 9 then S.2.1 2 j else -1
section QC2
variable {σ : Sg} {Q : Po} {X : Xo} {S : St}
theorem sp_end {k : Nat} (hC : CS σ S) (hS : SZ S) (hW : WF S) (hk : k < S.1) (h : Q (some (.int (nI (en S k)))) σ) : P_X4_endOf [.ref 2, .int (nI k)] σ Q X := sp_X4_endOf hC hS hk (fun r hr => by rw [hr, (hW k hk).1.1.1]; exact h)
theorem lp_partOf {j i v : Nat} (hC : CS σ S) (hS : SZ S) (hW : WF S) (hj : j < S.1) (hw : WK S (j + 1) v (en S j)) (hi : i < v) (hv : v ≤ 4000) (h : Q (some (.int (nI (it S (j + 1) i)))) σ) {I : Jt} (hI : Cl (FM (cutN 42 t_X4_partOf) e_X4_partOf xn0 0 sws0 false Q X) I) :
    ∀ m p, p + m = i → I 0 22 [some (.ref 2), some (.int (nI j)), some (.int (nI i)), some (.int (nI (it S (j + 1) p))), some (.int (nI p))] [] σ := by
  have he := (hW j hj).1.1.2.2
  intro m
  induction m with
  | zero =>
    intro p hp
    refine run_in (stop := fun pc => Nat.beq pc 22) hI 40 ?_
    refine pk_le i p (fun g => ?_) (fun g => by omega) rfl rfl
    rw [show p = i by omega]
    exact h
  | succ m ih =>
    intro p hp
    refine run_in (stop := fun pc => Nat.beq pc 22) hI 40 ?_
    refine pk_le i p (fun g => by omega) (fun g => ?_) rfl rfl
    refine ⟨Nat.le_refl _, sp_end hC hS hW (by have := hw.2 p (by omega); omega) ?_⟩
    have := ih (p + 1) (by omega)
    rw [nI_succ] at this
    exact this
theorem lp_sideOf {j i v : Nat} {key : Bool} (hC : CS σ S) (hS : SZ S) (hW : WF S) (hj : j < S.1) (hw : WK S (j + 1) (2 * v) (en S j)) (hk : KY S (j + 1) (2 * v)) (hi : i < v) (hv : v ≤ 4000) (h : Q (some (.int (nI (it S (j + 1) (2 * i + (if key = true then 0 else 1)))))) σ) {I : Jt} (hI : Cl (FM (cutN 59 t_X4_sideOf) e_X4_sideOf xn0 0 sws0 false Q X) I) :
    ∀ m p, p + m = i → I 0 23 [some (.ref 2), some (.int (nI j)), some (.int (nI i)), some (.int (bI key)), some (.int (nI (it S (j + 1) (2 * p)))), some (.int (nI p))] [] σ := by
  have he := (hW j hj).1.1.2.2
  have lt : ∀ q, q < 2 * v → it S (j + 1) q < S.1 := fun q hq => by have := hw.2 q hq; omega
  have nx1 : ∀ p, p < v → it S (j + 1) (2 * p + 1) = it S (j + 1) (2 * p) + 1 := fun p hp => it_leaf hW hS (lt _ (by omega)) (hk p (by omega))
  intro m
  induction m with
  | zero =>
    intro p hp
    have : p = i := by omega
    subst this
    refine run_in (stop := fun pc => Nat.beq pc 23) hI 40 ?_
    refine pk_le p p (fun g => ?_) (fun g => by omega) rfl rfl
    refine And.intro (fun g => ?_) (fun g => ?_)
    · rw [bIf g, if_neg (by simp), nx1 p hi, nI_succ] at h
      exact h
    · rw [bIt g, if_pos rfl, Nat.add_zero] at h
      exact h
  | succ m ih =>
    intro p hp
    refine run_in (stop := fun pc => Nat.beq pc 23) hI 40 ?_
    refine pk_le i p (fun g => by omega) (fun g => ?_) rfl rfl
    refine ⟨Nat.le_refl _, ?_⟩
    show P_X4_endOf [.ref 2, .int (nI (it S (j + 1) (2 * p)) + 1)] σ _ _
    rw [← nI_succ, ← nx1 p (by omega)]
    refine sp_end hC hS hW (lt _ (by omega)) ?_
    have := ih (p + 1) (by omega)
    rw [nI_succ] at this
    exact this
theorem sp_X4_partOf {j v : Nat} {y : Int32} (hC : CS σ S) (hS : SZ S) (hW : WF S) (hj : j < S.1) (hw : WK S (j + 1) v (en S j)) (v2 : S.2.1 1 j = nI v) (hv : v ≤ 4000) (h : Q (some (.int (if y < 0 ∨ ¬ y < S.2.1 1 j then -1 else nI (it S (j + 1) y.toNatClampNeg)))) σ) : P_X4_partOf [.ref 2, .int (nI j), .int y] σ Q X := by
  refine ⟨rfl, fun I hI => run_in (stop := fun pc => Nat.beq pc 22) hI 40 ?_⟩
  refine And.intro (fun q => ?_) (fun q => ?_)
  · rw [if_pos (Or.inl q)] at h
    exact h
  · obtain ⟨i, hi, rfl⟩ := nI_of q
    refine ⟨Nat.le_refl _, sp_X4_valueOf hC hS hj (fun r hr => ?_)⟩
    subst hr
    refine And.intro (fun q2 => ?_) (fun q2 => ?_)
    · have q3 := q2
      rw [v2] at q3
      have q3 := (nI_ltI hi (by omega)).mp q3
      rw [if_neg (fun z => z.elim q (fun y => y q2)), nI_clamp hi] at h
      have := lp_partOf (i := i) hC hS hW hj hw q3 hv h hI i 0 (by omega)
      rw [show it S (j + 1) 0 = j + 1 from rfl, nI_succ] at this
      exact this
    · rw [if_pos (Or.inr q2)] at h
      exact h
theorem sp_X4_sideOf {j v : Nat} {y : Int32} {key : Bool} (hC : CS σ S) (hS : SZ S) (hW : WF S) (hj : j < S.1) (hw : WK S (j + 1) (2 * v) (en S j)) (hk : KY S (j + 1) (2 * v)) (v2 : S.2.1 1 j = nI v) (hv : v ≤ 4000) (h : Q (some (.int (if y < 0 ∨ ¬ y < S.2.1 1 j then -1 else nI (it S (j + 1) (2 * y.toNatClampNeg + (if key = true then 0 else 1)))))) σ) : P_X4_sideOf [.ref 2, .int (nI j), .int y, .int (bI key)] σ Q X := by
  refine ⟨rfl, fun I hI => run_in (stop := fun pc => Nat.beq pc 23) hI 40 ?_⟩
  refine And.intro (fun q => ?_) (fun q => ?_)
  · rw [if_pos (Or.inl q)] at h
    exact h
  · obtain ⟨i, hi, rfl⟩ := nI_of q
    refine ⟨Nat.le_refl _, sp_X4_valueOf hC hS hj (fun r hr => ?_)⟩
    subst hr
    refine And.intro (fun q2 => ?_) (fun q2 => ?_)
    · have q3 := q2
      rw [v2] at q3
      have q3 := (nI_ltI hi (by omega)).mp q3
      rw [if_neg (fun z => z.elim q (fun y => y q2)), nI_clamp hi] at h
      have := lp_sideOf (i := i) hC hS hW hj hw hk q3 hv h hI i 0 (by omega)
      rw [show it S (j + 1) (2 * 0) = j + 1 from rfl, nI_succ] at this
      exact this
    · rw [if_pos (Or.inr q2)] at h
      exact h
theorem sp_X7_child {x y : Int32} {key : Bool} (hC : CS σ S) (hS : SZ S) (hW : WF S) (h0 : (x < 0 ∨ nI S.1 ≤ x) → X xI σ) (h1 : ∀ j, j < S.1 → x = nI j → Q (some (.int (chA S j y key))) σ) : P_X7_child [.ref 0, .int x, .int y, .int (bI key)] σ Q X := by
  refine ⟨rfl, fun I hI => run_in (stop := fun _ => false) hI 60 ?_⟩
  refine ⟨Nat.le_refl _, sp_X7_needNode hC hS h0 (fun j hj hx => ?_)⟩
  subst hx
  have h := h1 j hj rfl
  refine ⟨Nat.le_refl _, sp_X4_kindOf hC hS hj (fun r hr => ?_)⟩
  subst hr
  unfold chA at h
  refine And.intro (fun g => ?_) (fun g6 => ?_)
  · rw [if_pos (show S.2.1 0 j = nI 6 from g)] at h
    obtain ⟨v, v1, v2, v3⟩ := arr_ok hW hj g
    exact ⟨Nat.le_refl _, sp_X4_partOf hC hS hW hj v3 v2 v1 h⟩
  rw [if_neg (show ¬ S.2.1 0 j = nI 6 from g6)] at h
  refine And.intro (fun g => ?_) (fun g7 => ?_)
  · rw [if_pos (show S.2.1 0 j = nI 7 from g)] at h
    obtain ⟨v, v1, v2, v3, v4⟩ := dic_ok hW hj g
    exact ⟨Nat.le_refl _, sp_X4_sideOf hC hS hW hj v3 v4 v2 v1 h⟩
  rw [if_neg (show ¬ S.2.1 0 j = nI 7 from g7)] at h
  refine And.intro (fun g => ?_) (fun g8 => ?_)
  · rw [if_pos (Or.inl (show S.2.1 0 j = nI 8 from g))] at h
    exact ⟨Nat.le_refl _, sp_X4_extraOf hC hS hj (fun r hr => by rw [hr]; exact h)⟩
  refine And.intro (fun g => ?_) (fun g9 => ?_)
  · rw [if_pos (Or.inr (show S.2.1 0 j = nI 9 from g))] at h
    exact ⟨Nat.le_refl _, sp_X4_extraOf hC hS hj (fun r hr => by rw [hr]; exact h)⟩
  rw [if_neg (fun z => z.elim g8 g9)] at h
  exact h
end QC2
section QM2
variable {σ : Sg} {Q : Po} {X : Xo} {S : St}
/-- walking over the parts -/
theorem lp_part {j i v : Nat} (hM : MS σ S) (hS : SZ S) (hW : WF S) (hj : j < S.1) (hw : WK S (j + 1) v (en S j)) (hi : i < 2 ^ 31) (hv : v ≤ 8000) (h : Q (some (.int (if i < v then nI (it S (j + 1) i) else -1))) σ) {I : Jt} (hI : Cl (FM (cutN 52 t_X8_part) e_X8_part xn0 0 sws0 false Q X) I) :
    ∀ m p, p + m = (if i < v then i else v) → I 0 7 [some (.ref 7), some (.int (nI j)), some (.int (nI i)), some (.int (nI (it S (j + 1) p))), some (.int (nI p))] [] σ := by
  have hz := hS.1
  obtain ⟨he1, he2, he3⟩ := (hW j hj).1.1
  obtain ⟨a1, a2⟩ := ldm (i := 3) hM hS (by omega) hj
  have a2 : el σ 25 (nI j) = nI (en S j) := by rw [show el σ 25 (nI j) = S.2.1 3 j from a2, he1]
  have ex : ∀ p, p = (if i < v then i else v) → I 0 36 [some (.ref 7), some (.int (nI j)), some (.int (nI i)), some (.int (nI (it S (j + 1) p))), some (.int (nI p))] [] σ := by
    intro p hp
    refine run_in (stop := fun _ => false) hI 40 ?_
    refine ⟨rfl, a1, ?_⟩
    rw [a2]
    by_cases g : i < v
    · rw [if_pos g] at h hp
      subst hp
      have := hw.2 p g
      exact pk_le (en S j) (it S (j + 1) p) (fun z => by omega) (fun z => h) rfl rfl
    · rw [if_neg g] at h hp
      subst hp
      have := hw.1
      exact pk_le (en S j) (it S (j + 1) p) (fun z => h) (fun z => by omega) rfl rfl
  intro m
  induction m with
  | zero =>
    intro p hp
    refine run_in (stop := fun pc => Nat.beq pc 7 || Nat.beq pc 36) hI 40 ?_
    refine ⟨rfl, a1, ?_⟩
    rw [a2]
    by_cases g : i < v
    · rw [if_pos g] at hp
      have := hw.2 p (by omega)
      refine pk_le (en S j) (it S (j + 1) p) (fun z => by omega) (fun z => ?_) rfl rfl
      exact pk_le i p (fun z => ex p (by rw [if_pos g]; omega)) (fun z => by omega) rfl rfl
    · rw [if_neg g] at hp
      have := hw.1
      have hpv : p = v := by omega
      subst hpv
      exact pk_le (en S j) (it S (j + 1) p) (fun z => ex p (by rw [if_neg g])) (fun z => by omega) rfl rfl
  | succ m ih =>
    intro p hp
    have hpv : p < v := by split at hp <;> omega
    have hpi : p < i := by split at hp <;> omega
    have hlt := hw.2 p hpv
    obtain ⟨b1, b2⟩ := ldm (i := 3) hM hS (by omega) (show it S (j + 1) p < S.1 by omega)
    have b2 : el σ 25 (nI (it S (j + 1) p)) = nI (it S (j + 1) (p + 1)) := by rw [show el σ 25 (nI (it S (j + 1) p)) = S.2.1 3 (it S (j + 1) p) from b2, (hW _ (by omega)).1.1.1]; rfl
    refine run_in (stop := fun pc => Nat.beq pc 7 || Nat.beq pc 36) hI 40 ?_
    refine ⟨rfl, a1, ?_⟩
    rw [a2]
    refine pk_le (en S j) (it S (j + 1) p) (fun z => by omega) (fun z => ?_) rfl rfl
    refine pk_le i p (fun z => by omega) (fun z => ?_) rfl rfl
    refine ⟨rfl, b1, ?_⟩
    rw [b2]
    have := ih (p + 1) (by omega)
    rw [nI_succ p] at this
    exact this
theorem sp_X8_part {j i v : Nat} (hM : MS σ S) (hS : SZ S) (hW : WF S) (hj : j < S.1) (hw : WK S (j + 1) v (en S j)) (hi : i < 2 ^ 31) (hv : v ≤ 8000) (h : Q (some (.int (if i < v then nI (it S (j + 1) i) else -1))) σ) : P_X8_part [.ref 7, .int (nI j), .int (nI i)] σ Q X := by
  refine ⟨rfl, fun I hI => run_in (stop := fun pc => Nat.beq pc 7) hI 40 ?_⟩
  have := lp_part hM hS hW hj hw hi hv h hI (if i < v then i else v) 0 (by omega)
  rw [show it S (j + 1) 0 = j + 1 from rfl, nI_succ] at this
  exact this
theorem MS.f0 {v : Int32} (hM : MS σ S) : MS (sM σ 7 0 v) S := hM.m (by omega)
theorem sp_X8_child {x y : Int32} {key : Bool} (hM : MS σ S) (hS : SZ S) (hW : WF S) (h0 : (x < 0 ∨ nI S.1 ≤ x) → Q (some (.int 0)) (sM σ 7 0 1)) (h1 : ∀ j, j < S.1 → x = nI j → Q (some (.int (chA S j y key))) (sM σ 7 0 0)) : P_X8_child [.ref 7, .int x, .int y, .int (bI key)] σ Q X := by
  have hz := hS.1
  refine ⟨rfl, fun I hI => run_in (stop := fun _ => false) hI 60 ?_⟩
  rcases pk_ix x (n := S.1) (by omega) with g | g | ⟨j, hj, hx⟩
  · refine ⟨Nat.le_refl _, sp_X8_isWrong_no hM (Or.inl g) ?_⟩
    exact And.intro (fun z => absurd z (by decide)) (fun _ => h0 (Or.inl g))
  · refine ⟨Nat.le_refl _, sp_X8_isWrong_no hM (Or.inr g) ?_⟩
    exact And.intro (fun z => absurd z (by decide)) (fun _ => h0 (Or.inr g))
  subst hx
  have h := h1 j hj rfl
  have hM0 : MS (sM σ 7 0 0) S := hM.f0
  obtain ⟨a1, a2⟩ := ldm (i := 0) hM0 hS (by omega) hj
  have a2 : el (sM σ 7 0 0) 21 (nI j) = S.2.1 0 j := a2
  obtain ⟨b1, b2⟩ := ldm (i := 1) hM0 hS (by omega) hj
  have b2 : el (sM σ 7 0 0) 22 (nI j) = S.2.1 1 j := b2
  obtain ⟨c1, c2⟩ := ldm (i := 2) hM0 hS (by omega) hj
  have c2 : el (sM σ 7 0 0) 23 (nI j) = S.2.1 2 j := c2
  refine ⟨Nat.le_refl _, sp_X8_isWrong_ok hM hS hj ?_⟩
  refine And.intro (fun _ => ?_) (fun z => absurd rfl z)
  refine ⟨rfl, a1, ?_⟩
  rw [a2]
  unfold chA at h
  refine And.intro (fun g => ?_) (fun g6 => ?_)
  · rw [if_pos (show S.2.1 0 j = nI 6 from g)] at h
    obtain ⟨v, v1, v2, v3⟩ := arr_ok hW hj g
    refine And.intro (fun q => ?_) (fun q => ?_)
    · have q' : ¬ y < 0 := Int32.not_lt.mpr q
      obtain ⟨i, hi, rfl⟩ := nI_of q'
      rw [v2, nI_clamp hi] at h
      refine ⟨Nat.le_refl _, sp_X8_part hM0 hS hW hj v3 hi (by omega) ?_⟩
      by_cases q3 : i < v
      · rw [if_neg (fun z => z.elim q' (fun y => y (nI_lt q3 (by omega))))] at h
        rw [if_pos q3]
        exact h
      · rw [if_pos (Or.inr (nI_nlt (by omega) hi))] at h
        rw [if_neg q3]
        exact h
    · rw [if_pos (Or.inl (Int32.not_le.mp q))] at h
      exact h
  rw [if_neg (show ¬ S.2.1 0 j = nI 6 from g6)] at h
  refine And.intro (fun g => ?_) (fun g7 => ?_)
  · rw [if_pos (show S.2.1 0 j = nI 7 from g)] at h
    obtain ⟨v, v1, v2, v3, v4⟩ := dic_ok hW hj g
    refine And.intro (fun q => ?_) (fun q => ?_)
    · rw [if_pos (Or.inl q)] at h
      exact h
    · obtain ⟨i, hi, rfl⟩ := nI_of q
      refine ⟨rfl, b1, ?_⟩
      rw [b2]
      refine And.intro (fun q2 => ?_) (fun q2 => ?_)
      · have q3 := q2
        rw [v2] at q3
        have q3 := (nI_ltI hi (by omega)).mp q3
        rw [if_neg (fun z => z.elim q (fun y => y q2)), nI_clamp hi] at h
        refine And.intro (fun z => ?_) (fun z => ?_)
        · rw [bIf z, if_neg (by simp)] at h
          refine ⟨Nat.le_refl _, ?_⟩
          show P_X8_part [.ref 7, .int (nI j), .int (2 * nI i + 1)] _ _ _
          rw [show (2 : Int32) * nI i + 1 = nI (2 * i + 1) by rw [show (2 : Int32) = nI 2 from rfl, nI_mul, nI_succ]]
          refine sp_X8_part hM0 hS hW hj v3 (by omega) (by omega) ?_
          rw [if_pos (by omega)]
          exact h
        · rw [bIt z, if_pos rfl] at h
          refine ⟨Nat.le_refl _, ?_⟩
          show P_X8_part [.ref 7, .int (nI j), .int (2 * nI i)] _ _ _
          rw [show (2 : Int32) * nI i = nI (2 * i) by rw [show (2 : Int32) = nI 2 from rfl, nI_mul]]
          refine sp_X8_part hM0 hS hW hj v3 (by omega) (by omega) ?_
          rw [if_pos (by omega)]
          exact h
      · rw [if_pos (Or.inr q2)] at h
        exact h
  rw [if_neg (show ¬ S.2.1 0 j = nI 7 from g7)] at h
  refine And.intro (fun g => ?_) (fun g8 => ?_)
  · rw [if_pos (Or.inl (show S.2.1 0 j = nI 8 from g))] at h
    refine ⟨rfl, c1, ?_⟩
    rw [c2]
    exact h
  refine And.intro (fun g => ?_) (fun g9 => ?_)
  · rw [if_pos (Or.inr (show S.2.1 0 j = nI 9 from g))] at h
    refine ⟨rfl, c1, ?_⟩
    rw [c2]
    exact h
  rw [if_neg (fun z => z.elim g8 g9)] at h
  exact h
end QM2
