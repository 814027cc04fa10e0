/-! ===== PURE: questions about nodes ===== -/
theorem nx_u {S : St} (hW : WF S) : ∀ m k, k + m = S.1 → k < S.1 → nx S k ≤ S.2.2.1 := by
  intro m
  induction m with
  | zero => intro k h1 h2; omega
  | succ m ih =>
    intro k h1 h2
    unfold nx
    by_cases e : k + 1 < S.1
    · rw [if_pos e]
      have := (hW (k + 1) e).1.2.2.1.2.1
      have := ih (k + 1) (by omega) e
      omega
    · rw [if_neg e]
      exact Nat.le_refl _
def tx (S : St) (j : Nat) : Prop := S.2.1 0 j = nI 4 ∨ S.2.1 0 j = nI 5
theorem tx_ok {S : St} {j : Nat} (hW : WF S) (hS : SZ S) (hj : j < S.1) (h : tx S j) : ∃ l, S.2.1 1 j = nI l ∧ S.2.1 4 j = nI (sr S j) ∧ sr S j + l ≤ S.2.2.1 ∧ (S.2.1 1 j).toNatClampNeg = l := by
  have h1 := (hW j hj).1.2.2.1
  obtain ⟨l, h2, h3⟩ := h1.2.2 h
  have := nx_u hW (S.1 - j) j (by omega) hj
  have := hS.2
  exact ⟨l, h2, h1.1, by omega, by rw [h2]; exact nI_clamp (by omega)⟩
def byA (S : St) (j : Nat) (x : Int32) : Int32 := if (S.2.1 0 j = nI 4 ∨ S.2.1 0 j = nI 5) ∧ ¬ x < 0 ∧ x < S.2.1 1 j then nI (S.2.2.2 (sr S j + x.toNatClampNeg)) else -1
/-- bytes of two texts -/
def bq (S : St) (a b : Nat) : Nat → Nat → Bool
  | 0, _ => true
  | m + 1, i => if nI (S.2.2.2 (sr S a + i)) = nI (S.2.2.2 (sr S b + i)) then bq S a b m (i + 1) else false
def sBy (S : St) (a b : Nat) : Bool := decide (S.2.1 1 a = S.2.1 1 b) && bq S a b (S.2.1 1 a).toNatClampNeg 0
def sND (S : St) (a b : Nat) : Bool := decide (S.2.1 0 a = S.2.1 0 b ∧ S.2.1 1 a = S.2.1 1 b ∧ S.2.1 2 a = S.2.1 2 b) && (if S.2.1 0 a = nI 4 ∨ S.2.1 0 a = nI 5 then bq S a b (S.2.1 1 a).toNatClampNeg 0 else true)
def sTR (S : St) (a b : Nat) : Nat → Nat → Bool
  | 0, _ => true
  | m + 1, i => if sND S (a + i) (b + i) = true then sTR S a b m (i + 1) else false
def unw (S : St) (j : Nat) : Nat := if S.2.1 0 j = nI 9 then (S.2.1 2 j).toNatClampNeg else j
theorem unw_b {S : St} {j : Nat} (hW : WF S) (hS : SZ S) (hj : j < S.1) : unw S j < S.1 ∧ unw S j ≤ j ∧ (S.2.1 0 j = nI 9 → S.2.1 2 j = nI (unw S j) ∧ S.2.1 0 (unw S j) = nI 7) ∧ ¬ S.2.1 0 (unw S j) = nI 9 := by
  have hz := hS.1
  unfold unw
  by_cases e : S.2.1 0 j = nI 9
  · rw [if_pos e]
    obtain ⟨x, h1, h2, h3⟩ := (hW j hj).2.2.2 e
    rw [h2, nI_clamp (by omega)]
    refine ⟨by omega, by omega, fun _ => ⟨rfl, h3⟩, fun z => ?_⟩
    have := KD_u h3 z (by omega) (by omega)
    omega
  · rw [if_neg e]
    exact ⟨hj, Nat.le_refl _, fun z => absurd z e, e⟩
section QC
variable {σ : Sg} {Q : Po} {X : Xo} {S : St}
theorem sp_X7_needNode {x : Int32} (hC : CS σ S) (hS : SZ S) (h0 : (x < 0 ∨ nI S.1 ≤ x) → X xI σ) (h1 : ∀ j, j < S.1 → x = nI j → Q none σ) : P_X7_needNode [.ref 0, .int x] σ Q X := by
  have hz := hS.1
  refine ⟨rfl, fun I hI => run_in (stop := fun _ => false) hI 30 ?_⟩
  rcases pk_ix x (n := S.1) (by omega) with g | g | ⟨j, hj, rfl⟩
  · refine ⟨by decide, sp_X4_has (b := false) ⟨fun z => (by cases z), fun z => absurd z.1 (Int32.not_le.mpr g)⟩ (fun r hr => ?_)⟩
    subst hr
    exact And.intro (fun z => absurd rfl z) (fun _ => ⟨by decide, h0 (Or.inl g)⟩)
  · refine ⟨by decide, sp_X4_has (b := false) ⟨fun z => (by cases z), fun z => absurd z.2 (by rw [hC.1]; exact Int32.not_lt.mpr g)⟩ (fun r hr => ?_)⟩
    subst hr
    exact And.intro (fun z => absurd rfl z) (fun _ => ⟨by decide, h0 (Or.inr g)⟩)
  · refine ⟨by decide, sp_X4_has (b := true) ⟨fun _ => ⟨nI_pos0 (by omega), by rw [hC.1]; exact nI_lt hj (by omega)⟩, fun _ => rfl⟩ (fun r hr => ?_)⟩
    subst hr
    exact And.intro (fun _ => h1 j hj rfl) (fun z => absurd z (by decide))
theorem sp_X4_hasBytes {j : Nat} (hC : CS σ S) (hS : SZ S) (hj : j < S.1) (h : ∀ r, r = bI (decide (S.2.1 0 j = nI 4 ∨ S.2.1 0 j = nI 5)) → Q (some (.int r)) σ) : P_X4_hasBytes [.ref 2, .int (nI j)] σ Q X := by
  refine ⟨rfl, fun I hI => run_in (stop := fun _ => false) hI 30 ?_⟩
  refine ⟨Nat.le_refl _, sp_X4_kindOf hC hS hj (fun r hr => ?_)⟩
  subst hr
  refine And.intro (fun g => ⟨bo1, h _ ?_⟩) (fun g => ?_)
  · rw [decide_eq_true (show S.2.1 0 j = nI 4 ∨ S.2.1 0 j = nI 5 from Or.inl g)]; rfl
  · refine And.intro (fun g2 => ⟨bo0, h _ ?_⟩) (fun g2 => ⟨bo1, h _ ?_⟩)
    · rw [decide_eq_false (fun z => z.elim g g2)]; rfl
    · rw [decide_eq_true (show S.2.1 0 j = nI 4 ∨ S.2.1 0 j = nI 5 from Or.inr g2)]; rfl
theorem sp_X4_byteOf {j : Nat} {x : Int32} (hC : CS σ S) (hS : SZ S) (hW : WF S) (hj : j < S.1) (h : ∀ r, r = byA S j x → Q (some (.int r)) σ) : P_X4_byteOf [.ref 2, .int (nI j), .int x] σ Q X := by
  have hz := hS.2
  obtain ⟨a1, a2⟩ := ldc (i := 1) hC hS (by omega) hj
  obtain ⟨b1, b2⟩ := ldc (i := 4) hC hS (by omega) hj
  refine ⟨rfl, fun I hI => run_in (stop := fun _ => false) hI 50 ?_⟩
  refine ⟨Nat.le_refl _, sp_X4_hasBytes hC hS hj (fun r hr => ?_)⟩
  subst hr
  refine And.intro (fun g => ?_) (fun g => ?_)
  · have g := of_decide_eq_false (bIf g)
    exact h _ (by unfold byA; rw [if_neg (fun z => g z.1)])
  · have g := of_decide_eq_true (bIt g)
    obtain ⟨l, l1, l2, l3, l4⟩ := tx_ok hW hS hj g
    refine And.intro (fun g1 => ?_) (fun g1 => ?_)
    · exact h _ (by unfold byA; rw [if_neg (fun z => z.2.1 g1)])
    · obtain ⟨i, hi, rfl⟩ := nI_of g1
      refine ⟨rfl, a1, ?_⟩
      rw [show el σ 10 (nI j) = S.2.1 1 j from a2]
      refine And.intro (fun g2 => ?_) (fun g2 => ?_)
      · have g2' := g2
        rw [l1] at g2'
        have g2' := (nI_ltI hi (by omega)).mp g2'
        refine ⟨rfl, b1, ?_⟩
        rw [show el σ 13 (nI j) = S.2.1 4 j from b2, l2]
        have hE : nI (sr S j) + nI i = nI (sr S j + i) := nI_add _ _
        refine And.intro (fun g3 => absurd g3 (by rw [hE]; exact nI_pos (by omega))) (fun _ => ?_)
        refine pk_le S.2.2.1 (sr S j + i) (fun g4 => by omega) (fun g4 => ?_) hC.2.1 hE
        refine ⟨Or.inl rfl, pk_in (sr S j + i) 32768 (by omega) hE, h _ ?_⟩
        rw [hE, el_nI (by decide) (by omega), hC.2.2.2 _ g4]
        unfold byA
        rw [if_pos ⟨g, g1, g2⟩, nI_clamp hi]
      · exact h _ (by unfold byA; rw [if_neg (fun z => g2 z.2.2)])
theorem byA_in {j i l : Nat} (g : tx S j) (hl : S.2.1 1 j = nI l) (hi : i < l) (hb : l < 2 ^ 31) : byA S j (nI i) = nI (S.2.2.2 (sr S j + i)) := by
  unfold byA
  rw [if_pos ⟨g, nI_pos (by omega), by rw [hl]; exact nI_lt hi hb⟩, nI_clamp (by omega)]
theorem lp_sameBytes {a b l : Nat} (hC : CS σ S) (hS : SZ S) (hW : WF S) (ha : a < S.1) (hb : b < S.1) (ta : tx S a) (tb : tx S b) (la : S.2.1 1 a = nI l) (lb : S.2.1 1 b = nI l) (hl : l ≤ 32768) {I : Jt} (hI : Cl (FM (cutN 53 t_X4_sameBytes) e_X4_sameBytes xn0 0 sws0 true Q X) I) :
    ∀ m i, i + m = l → (∀ r, r = bI (bq S a b m i) → Q (some (.int r)) σ) → I 0 20 [some (.ref 2), some (.int (nI a)), some (.int (nI b)), some (.int (nI l)), some (.int (nI i))] [] σ := by
  intro m
  induction m with
  | zero =>
    intro i hi h
    refine run_in (stop := fun pc => Nat.beq pc 20) hI 40 ?_
    exact pk_le l i (fun g => ⟨bo1, h _ rfl⟩) (fun g => by omega) rfl rfl
  | succ m ih =>
    intro i hi h
    refine run_in (stop := fun pc => Nat.beq pc 20) hI 40 ?_
    refine pk_le l i (fun g => by omega) (fun g => ?_) rfl rfl
    refine ⟨Nat.le_refl _, sp_X4_byteOf hC hS hW ha (fun r hr => ?_)⟩
    subst hr
    refine ⟨Nat.le_refl _, sp_X4_byteOf hC hS hW hb (fun r hr => ?_)⟩
    subst hr
    rw [byA_in ta la (by omega) (by omega), byA_in tb lb (by omega) (by omega)]
    refine And.intro (fun q => ?_) (fun q => ⟨bo0, h _ ?_⟩)
    · have := ih (i + 1) (by omega) (fun r hr => h r (by rw [hr]; simp only [bq]; rw [if_pos q]))
      rw [nI_succ] at this
      exact this
    · simp only [bq]
      rw [if_neg q]
      rfl
theorem sp_X4_sameBytes {a b : Nat} (hC : CS σ S) (hS : SZ S) (hW : WF S) (ha : a < S.1) (hb : b < S.1) (ta : tx S a) (tb : S.2.1 1 a = S.2.1 1 b → tx S b) (h : ∀ r, r = bI (sBy S a b) → Q (some (.int r)) σ) : P_X4_sameBytes [.ref 2, .int (nI a), .int (nI b)] σ Q X := by
  have hz := hS.2
  refine ⟨rfl, fun I hI => run_in (stop := fun pc => Nat.beq pc 20) hI 40 ?_⟩
  refine ⟨Nat.le_refl _, sp_X4_valueOf hC hS ha (fun r hr => ?_)⟩
  subst hr
  refine ⟨Nat.le_refl _, sp_X4_valueOf hC hS hb (fun r hr => ?_)⟩
  subst hr
  refine And.intro (fun q => ?_) (fun q => ⟨bo0, h _ ?_⟩)
  · obtain ⟨l, l1, l2, l3, l4⟩ := tx_ok hW hS ha ta
    have := lp_sameBytes hC hS hW ha hb ta (tb q) l1 (by rw [← q, l1]) (by omega) hI l 0 (by omega) (fun r hr => h r (by rw [hr, sBy, decide_eq_true q, l4]; rfl))
    rw [← l1] at this
    exact this
  · rw [sBy, decide_eq_false q]
    rfl
theorem sp_X4_sameNode {a b : Nat} (hC : CS σ S) (hS : SZ S) (hW : WF S) (ha : a < S.1) (hb : b < S.1) (h : ∀ r, r = bI (sND S a b) → Q (some (.int r)) σ) : P_X4_sameNode [.ref 2, .int (nI a), .int (nI b)] σ Q X := by
  refine ⟨rfl, fun I hI => run_in (stop := fun _ => false) hI 60 ?_⟩
  refine ⟨Nat.le_refl _, sp_X4_kindOf hC hS ha (fun r hr => ?_)⟩
  subst hr
  refine ⟨Nat.le_refl _, sp_X4_kindOf hC hS hb (fun r hr => ?_)⟩
  subst hr
  refine And.intro (fun q => ⟨bo0, h _ ?_⟩) (fun q0 => ?_)
  · rw [sND, decide_eq_false (fun z => q z.1)]; rfl
  refine ⟨Nat.le_refl _, sp_X4_valueOf hC hS ha (fun r hr => ?_)⟩
  subst hr
  refine ⟨Nat.le_refl _, sp_X4_valueOf hC hS hb (fun r hr => ?_)⟩
  subst hr
  refine And.intro (fun q1 => ?_) (fun q => ⟨bo0, h _ ?_⟩)
  · refine ⟨Nat.le_refl _, sp_X4_extraOf hC hS ha (fun r hr => ?_)⟩
    subst hr
    refine ⟨Nat.le_refl _, sp_X4_extraOf hC hS hb (fun r hr => ?_)⟩
    subst hr
    refine And.intro (fun q => ⟨bo0, h _ ?_⟩) (fun q2 => ?_)
    · rw [sND, decide_eq_false (fun z => q z.2.2)]; rfl
    refine ⟨Nat.le_refl _, sp_X4_hasBytes hC hS ha (fun r hr => ?_)⟩
    subst hr
    refine And.intro (fun q => ⟨bo1, h _ ?_⟩) (fun q => ?_)
    · have q := of_decide_eq_false (bIf q)
      rw [sND, decide_eq_true ⟨q0, q1, q2⟩, if_neg q]; rfl
    · have q := of_decide_eq_true (bIt q)
      have tb : tx S b := by unfold tx; rw [← q0]; exact q
      refine ⟨Nat.le_refl _, sp_X4_sameBytes hC hS hW ha hb q (fun _ => tb) (fun r hr => ?_)⟩
      subst hr
      have hs : sND S a b = sBy S a b := by rw [sND, sBy, decide_eq_true ⟨q0, q1, q2⟩, if_pos q, decide_eq_true q1]
      rw [hs] at h
      refine And.intro (fun q => ⟨bo0, h _ ?_⟩) (fun q => ⟨bo1, h _ ?_⟩)
      · rw [bIf q]; rfl
      · rw [bIt q]; rfl
  · rw [sND, decide_eq_false (fun z => q z.2.1)]; rfl
theorem lp_sameTree {a b l : Nat} (hC : CS σ S) (hS : SZ S) (hW : WF S) (ha : a + l ≤ S.1) (hb : b + l ≤ S.1) {I : Jt} (hI : Cl (FM (cutN 55 t_X4_sameTree) e_X4_sameTree xn0 0 sws0 true Q X) I) :
    ∀ m i, i + m = l → (∀ r, r = bI (sTR S a b m i) → Q (some (.int r)) σ) → I 0 24 [some (.ref 2), some (.int (nI a)), some (.int (nI b)), some (.int (nI l)), some (.int (nI i))] [] σ := by
  have hz := hS.1
  intro m
  induction m with
  | zero =>
    intro i hi h
    refine run_in (stop := fun pc => Nat.beq pc 24) hI 40 ?_
    exact pk_le l i (fun g => ⟨bo1, h _ rfl⟩) (fun g => by omega) rfl rfl
  | succ m ih =>
    intro i hi h
    refine run_in (stop := fun pc => Nat.beq pc 24) hI 40 ?_
    refine pk_le l i (fun g => by omega) (fun g => ?_) rfl rfl
    refine ⟨Nat.le_refl _, ?_⟩
    show P_X4_sameNode [.ref 2, .int (nI a + nI i), .int (nI b + nI i)] σ _ _
    rw [nI_add, nI_add]
    refine sp_X4_sameNode hC hS hW (by omega) (by omega) (fun r hr => ?_)
    subst hr
    refine And.intro (fun q => ?_) (fun q => ⟨bo0, h _ ?_⟩)
    · have q := bIt q
      have := ih (i + 1) (by omega) (fun r hr => h r (by rw [hr]; simp only [sTR]; rw [if_pos q]))
      rw [nI_succ] at this
      exact this
    · have q := bIf q
      simp only [sTR]
      rw [q, if_neg (by simp)]
      rfl
def sT (S : St) (a b : Nat) : Bool := decide (en S a - a = en S b - b) && sTR S a b (en S a - a) 0
theorem sp_X4_sameTree {a b : Nat} (hC : CS σ S) (hS : SZ S) (hW : WF S) (ha : a < S.1) (hb : b < S.1) (h : ∀ r, r = bI (sT S a b) → Q (some (.int r)) σ) : P_X4_sameTree [.ref 2, .int (nI a), .int (nI b)] σ Q X := by
  have hz := hS.1
  obtain ⟨ea, ea1, ea2⟩ := (hW a ha).1.1
  obtain ⟨eb, eb1, eb2⟩ := (hW b hb).1.1
  refine ⟨rfl, fun I hI => run_in (stop := fun pc => Nat.beq pc 24) hI 40 ?_⟩
  refine ⟨Nat.le_refl _, sp_X4_endOf hC hS ha (fun r hr => ?_)⟩
  rw [ea] at hr
  subst hr
  refine ⟨Nat.le_refl _, sp_X4_endOf hC hS hb (fun r hr => ?_)⟩
  rw [eb] at hr
  subst hr
  have s1 : nI (en S a) - nI a = nI (en S a - a) := nI_sub (by omega)
  have s2 : nI (en S b) - nI b = nI (en S b - b) := nI_sub (by omega)
  refine pk_eq (en S a - a) (en S b - b) (fun q => ?_) (fun q => ⟨bo0, h _ ?_⟩) s1 s2
  · have := lp_sameTree (a := a) (b := b) (l := en S a - a) hC hS hW (by omega) (by omega) hI (en S a - a) 0 (by omega) (fun r hr => h r (by rw [hr, sT, decide_eq_true q]; rfl))
    rw [← s1] at this
    exact this
  · rw [sT, decide_eq_false q]; rfl
theorem sp_X4_unwrap {j : Nat} (hC : CS σ S) (hS : SZ S) (hW : WF S) (hj : j < S.1) (h : Q (some (.int (nI (unw S j)))) σ) : P_X4_unwrap [.ref 2, .int (nI j)] σ Q X := by
  have hu := unw_b hW hS hj
  refine ⟨rfl, fun I hI => run_in (stop := fun _ => false) hI 30 ?_⟩
  refine ⟨Nat.le_refl _, sp_X4_kindOf hC hS hj (fun r hr => ?_)⟩
  subst hr
  refine And.intro (fun g => ?_) (fun g => ?_)
  · rw [show unw S j = j from if_neg g] at h
    exact h
  · refine ⟨Nat.le_refl _, sp_X4_extraOf hC hS hj (fun r hr => ?_)⟩
    rw [(hu.2.2.1 g).1] at hr
    subst hr
    exact h
end QC
section QM
variable {σ : Sg} {Q : Po} {X : Xo} {S : St}
theorem sp_X8_isNode {x : Int32} {b : Bool} (hM : MS σ S) (hb : b = true ↔ (0 ≤ x ∧ x < nI S.1)) (h : ∀ r, r = bI b → Q (some (.int r)) σ) : P_X8_isNode [.ref 7, .int x] σ Q X := by
  rw [← hM.1] at hb
  refine ⟨rfl, fun I hI => run_in (stop := fun _ => false) hI 30 ?_⟩
  refine And.intro (fun g => ⟨bo0, h _ ?_⟩) (fun g => And.intro (fun g2 => ⟨bo0, h _ ?_⟩) (fun g2 => ⟨bo1, h _ ?_⟩))
  · have : b = false := by
      cases b with
      | false => rfl
      | true => exact absurd (hb.mp rfl).1 (Int32.not_le.mpr g)
    rw [this]; rfl
  · have : b = false := by
      cases b with
      | false => rfl
      | true => exact absurd (hb.mp rfl).2 (Int32.not_lt.mpr g2)
    rw [this]; rfl
  · have : b = true := hb.mpr ⟨Int32.not_lt.mp g, Int32.not_le.mp g2⟩
    rw [this]; rfl
theorem nd_ok {j : Nat} (hS : SZ S) (hj : j < S.1) : (true = true ↔ (0 ≤ nI j ∧ nI j < nI S.1)) := by
  have hz := hS.1
  exact ⟨fun _ => ⟨nI_pos0 (by omega), nI_lt hj (by omega)⟩, fun _ => rfl⟩
theorem nd_no {x : Int32} (h : x < 0 ∨ nI S.1 ≤ x) : (false = true ↔ (0 ≤ x ∧ x < nI S.1)) := ⟨fun z => (by cases z), fun z => h.elim (fun y => absurd z.1 (Int32.not_le.mpr y)) (fun y => absurd z.2 (Int32.not_lt.mpr y))⟩
theorem sp_X8_isWrong_ok {j : Nat} (hM : MS σ S) (hS : SZ S) (hj : j < S.1) (h : Q (some (.int 0)) (sM σ 7 0 0)) : P_X8_isWrong [.ref 7, .int (nI j)] σ Q X := by
  refine ⟨rfl, fun I hI => run_in (stop := fun _ => false) hI 30 ?_⟩
  refine ⟨Nat.le_refl _, sp_X8_isNode hM (nd_ok hS hj) (fun r hr => ?_)⟩
  subst hr
  refine And.intro (fun g => absurd g (by decide)) (fun _ => ?_)
  exact ⟨Nat.le_refl _, sp_X8_refused (b := false) (by decide) ⟨bo0, h⟩⟩
theorem sp_X8_isWrong_no {x : Int32} (hM : MS σ S) (hx : x < 0 ∨ nI S.1 ≤ x) (h : Q (some (.int 1)) (sM σ 7 0 1)) : P_X8_isWrong [.ref 7, .int x] σ Q X := by
  refine ⟨rfl, fun I hI => run_in (stop := fun _ => false) hI 30 ?_⟩
  refine ⟨Nat.le_refl _, sp_X8_isNode hM (nd_no hx) (fun r hr => ?_)⟩
  subst hr
  refine And.intro (fun _ => ?_) (fun g => absurd rfl g)
  exact ⟨Nat.le_refl _, sp_X8_refused (b := true) (by decide) ⟨bo1, h⟩⟩
theorem sp_X8_isText {j : Nat} (hM : MS σ S) (hS : SZ S) (hj : j < S.1) (h : ∀ r, r = bI (decide (S.2.1 0 j = nI 4 ∨ S.2.1 0 j = nI 5)) → Q (some (.int r)) σ) : P_X8_isText [.ref 7, .int (nI j)] σ Q X := by
  obtain ⟨a1, a2⟩ := ldm (i := 0) hM hS (by omega) hj
  have a2 : el σ 21 (nI j) = S.2.1 0 j := a2
  refine ⟨rfl, fun I hI => run_in (stop := fun _ => false) hI 30 ?_⟩
  refine ⟨rfl, a1, ?_⟩
  rw [a2]
  refine And.intro (fun g => ⟨bo1, h _ ?_⟩) (fun g => ?_)
  · rw [decide_eq_true (show S.2.1 0 j = nI 4 ∨ S.2.1 0 j = nI 5 from Or.inl g)]; rfl
  · refine ⟨rfl, a1, ?_⟩
    rw [a2]
    refine And.intro (fun g2 => ⟨bo0, h _ ?_⟩) (fun g2 => ⟨bo1, h _ ?_⟩)
    · rw [decide_eq_false (fun z => z.elim g g2)]; rfl
    · rw [decide_eq_true (show S.2.1 0 j = nI 4 ∨ S.2.1 0 j = nI 5 from Or.inr g2)]; rfl
theorem sp_X8_dictionaryOf {j : Nat} (hM : MS σ S) (hS : SZ S) (hW : WF S) (hj : j < S.1) (h : Q (some (.int (nI (unw S j)))) σ) : P_X8_dictionaryOf [.ref 7, .int (nI j)] σ Q X := by
  obtain ⟨a1, a2⟩ := ldm (i := 0) hM hS (by omega) hj
  have a2 : el σ 21 (nI j) = S.2.1 0 j := a2
  obtain ⟨b1, b2⟩ := ldm (i := 2) hM hS (by omega) hj
  have b2 : el σ 23 (nI j) = S.2.1 2 j := b2
  have hu := unw_b hW hS hj
  refine ⟨rfl, fun I hI => run_in (stop := fun _ => false) hI 30 ?_⟩
  refine ⟨rfl, a1, ?_⟩
  rw [a2]
  refine And.intro (fun g => ?_) (fun g => ?_)
  · rw [show unw S j = j from if_neg g] at h
    exact h
  · refine ⟨rfl, b1, ?_⟩
    rw [b2, (hu.2.2.1 g).1]
    exact h
theorem ldb {a i l : Nat} (hM : MS σ S) (hS : SZ S) (ha : a < S.1) (h4 : S.2.1 4 a = nI (sr S a)) (hi : i < l) (hl : sr S a + l ≤ S.2.2.1) : (vp_in (nI a) (ak 24).2 ∧ el σ 24 (nI a) = nI (sr S a)) ∧ vp_in (nI (sr S a) + nI i) (ak 26).2 ∧ el σ 26 (nI (sr S a) + nI i) = nI (S.2.2.2 (sr S a + i)) := by
  have hz := hS.2
  obtain ⟨b1, b2⟩ := ldm (i := 4) hM hS (by omega) ha
  refine ⟨⟨b1, ?_⟩, ?_, ?_⟩
  · rw [show el σ 24 (nI a) = S.2.1 4 a from b2, h4]
  · rw [nI_add]; exact nI_in (show sr S a + i < 32768 by omega) (by decide)
  · rw [nI_add, el_nI (by decide) (by omega)]
    exact hM.2.2.2 _ (by omega)
theorem lp_same {a b : Nat} (hM : MS σ S) (hS : SZ S) (hW : WF S) (ha : a < S.1) (hb : b < S.1) {I : Jt} (hI : Cl (FM (cutN 122 t_X8_same) e_X8_same xn0 0 sws0 true Q X) I) {l : Nat} (ta : tx S a) (tb : tx S b) (la : S.2.1 1 a = nI l) (lb : S.2.1 1 b = nI l) (hl31 : l ≤ 32768) :
    ∀ m i is, i + m = l → (∀ r, r = bI (is && bq S a b m i) → Q (some (.int r)) σ) → I 0 54 [some (.ref 7), some (.int (nI a)), some (.int (nI b)), some (.int (bI is)), some (.int (nI i))] [] σ := by
  have hz := hS.2
  obtain ⟨l', p1, p2, p3, p4⟩ := tx_ok hW hS ha ta
  obtain ⟨l2', r1, r2, r3, r4⟩ := tx_ok hW hS hb tb
  have el1 : l' = l := (nI_eq (by omega) (by omega)).mp (p1.symm.trans la)
  have el2 : l2' = l := (nI_eq (by omega) (by omega)).mp (r1.symm.trans lb)
  rw [el1] at p3
  rw [el2] at r3
  obtain ⟨v1, v2⟩ := ldm (i := 1) hM hS (by omega) ha
  have v2 : el σ 22 (nI a) = nI l := by rw [show el σ 22 (nI a) = S.2.1 1 a from v2, la]
  have ex : ∀ i is, i ≤ l → (is = false ∨ i = l) → (∀ r, r = bI is → Q (some (.int r)) σ) → I 0 54 [some (.ref 7), some (.int (nI a)), some (.int (nI b)), some (.int (bI is)), some (.int (nI i))] [] σ := by
    intro i is hil hc h
    have hb2 : bo (some (.int (bI is))) := by cases is <;> first | exact bo1 | exact bo0
    refine run_in (stop := fun pc => Nat.beq pc 54) hI 60 ?_
    refine And.intro (fun g => ⟨hb2, h _ rfl⟩) (fun g => ?_)
    have g := bIt g
    refine ⟨Nat.le_refl _, sp_X8_isText hM hS ha (fun r hr => ?_)⟩
    subst hr
    rw [decide_eq_true (show S.2.1 0 a = nI 4 ∨ S.2.1 0 a = nI 5 from ta)]
    refine And.intro (fun z => absurd z (by decide)) (fun _ => ?_)
    refine ⟨rfl, v1, ?_⟩
    rw [v2]
    refine pk_le l i (fun _ => ⟨hb2, h _ rfl⟩) (fun z => ?_) rfl rfl
    rcases hc with hc | hc
    · rw [hc] at g; cases g
    · omega
  intro m
  induction m with
  | zero =>
    intro i is hi h
    exact ex i is (by omega) (Or.inr (by omega)) (fun r hr => h r (by rw [hr]; simp [bq]))
  | succ m ih =>
    intro i is hi h
    cases his : is with
    | false => exact ex i false (by omega) (Or.inl rfl) (fun r hr => h r (by rw [hr, his]; rfl))
    | true =>
      obtain ⟨⟨s1, s2⟩, s3, s4⟩ := ldb (i := i) hM hS ha p2 (show i < l by omega) p3
      obtain ⟨⟨u1, u2⟩, u3, u4⟩ := ldb (i := i) hM hS hb r2 (show i < l by omega) r3
      refine run_in (stop := fun pc => Nat.beq pc 54) hI 60 ?_
      refine And.intro (fun g => absurd g (by decide)) (fun _ => ?_)
      refine ⟨Nat.le_refl _, sp_X8_isText hM hS ha (fun r hr => ?_)⟩
      subst hr
      rw [decide_eq_true (show S.2.1 0 a = nI 4 ∨ S.2.1 0 a = nI 5 from ta)]
      refine And.intro (fun z => absurd z (by decide)) (fun _ => ?_)
      refine ⟨rfl, v1, ?_⟩
      rw [v2]
      refine pk_le l i (fun g => by omega) (fun g => ?_) rfl rfl
      refine ⟨rfl, s1, ?_⟩
      rw [s2]
      refine ⟨rfl, s3, ?_⟩
      rw [s4]
      refine ⟨rfl, u1, ?_⟩
      rw [u2]
      refine ⟨rfl, u3, ?_⟩
      rw [u4]
      refine And.intro (fun q => ?_) (fun q => ?_)
      · have := ih (i + 1) false (by omega) (fun r hr => h r (by rw [hr, his]; simp only [bq]; rw [if_neg q]; rfl))
        rw [nI_succ] at this
        exact this
      · have := ih (i + 1) true (by omega) (fun r hr => h r (by rw [hr, his]; simp only [bq]; rw [if_pos q]))
        rw [nI_succ] at this
        exact this
theorem sp_X8_same {a b : Nat} (hM : MS σ S) (hS : SZ S) (hW : WF S) (ha : a < S.1) (hb : b < S.1) (h : ∀ r, r = bI (sND S a b) → Q (some (.int r)) σ) : P_X8_same [.ref 7, .int (nI a), .int (nI b)] σ Q X := by
  obtain ⟨a1, a2⟩ := ldm (i := 0) hM hS (by omega) ha
  have a2 : el σ 21 (nI a) = S.2.1 0 a := a2
  obtain ⟨b1, b2⟩ := ldm (i := 0) hM hS (by omega) hb
  have b2 : el σ 21 (nI b) = S.2.1 0 b := b2
  obtain ⟨c1, c2⟩ := ldm (i := 1) hM hS (by omega) ha
  have c2 : el σ 22 (nI a) = S.2.1 1 a := c2
  obtain ⟨d1, d2⟩ := ldm (i := 1) hM hS (by omega) hb
  have d2 : el σ 22 (nI b) = S.2.1 1 b := d2
  obtain ⟨e1, e2⟩ := ldm (i := 2) hM hS (by omega) ha
  have e2 : el σ 23 (nI a) = S.2.1 2 a := e2
  obtain ⟨f1, f2⟩ := ldm (i := 2) hM hS (by omega) hb
  have f2 : el σ 23 (nI b) = S.2.1 2 b := f2
  refine ⟨rfl, fun I hI => run_in (stop := fun pc => Nat.beq pc 54) hI 60 ?_⟩
  have go : ∀ is, is = decide (S.2.1 0 a = S.2.1 0 b ∧ S.2.1 1 a = S.2.1 1 b ∧ S.2.1 2 a = S.2.1 2 b) → I 0 54 [some (.ref 7), some (.int (nI a)), some (.int (nI b)), some (.int (bI is)), some (.int (nI 0))] [] σ := by
    intro is his
    cases his2 : is with
    | false =>
      rw [his2] at his
      refine run_in (stop := fun pc => false) hI 60 ?_
      refine And.intro (fun _ => ⟨bo0, h _ ?_⟩) (fun g => absurd rfl g)
      rw [sND, ← his]; rfl
    | true =>
      rw [his2] at his
      have hq := of_decide_eq_true his.symm
      by_cases ta : tx S a
      · have tb : tx S b := by unfold tx; rw [← hq.1]; exact ta
        obtain ⟨l, l1, l2, l3, l4⟩ := tx_ok hW hS ha ta
        refine lp_same hM hS hW ha hb hI ta tb l1 (by rw [← hq.2.1, l1]) (by have := hS.2; omega) l 0 true (by omega) (fun r hr => h r ?_)
        rw [hr, sND, ← his, if_pos (show S.2.1 0 a = nI 4 ∨ S.2.1 0 a = nI 5 from ta), l4]
      · refine run_in (stop := fun pc => false) hI 60 ?_
        refine And.intro (fun g => absurd g (by decide)) (fun _ => ?_)
        refine ⟨Nat.le_refl _, sp_X8_isText hM hS ha (fun r hr => ?_)⟩
        subst hr
        rw [decide_eq_false (show ¬ (S.2.1 0 a = nI 4 ∨ S.2.1 0 a = nI 5) from ta)]
        refine And.intro (fun _ => ⟨bo1, h _ ?_⟩) (fun g => absurd rfl g)
        rw [sND, ← his, if_neg (show ¬ (S.2.1 0 a = nI 4 ∨ S.2.1 0 a = nI 5) from ta)]
        rfl
  refine ⟨rfl, a1, ?_⟩
  rw [a2]
  refine ⟨rfl, b1, ?_⟩
  rw [b2]
  refine And.intro (fun q => go false (decide_eq_false (fun z => q z.1)).symm) (fun q0 => ?_)
  refine ⟨rfl, c1, ?_⟩
  rw [c2]
  refine ⟨rfl, d1, ?_⟩
  rw [d2]
  refine And.intro (fun q => go false (decide_eq_false (fun z => q z.2.1)).symm) (fun q1 => ?_)
  refine ⟨rfl, e1, ?_⟩
  rw [e2]
  refine ⟨rfl, f1, ?_⟩
  rw [f2]
  refine And.intro (fun q => go false (decide_eq_false (fun z => q z.2.2)).symm) (fun q2 => ?_)
  exact go true (decide_eq_true ⟨q0, q1, q2⟩).symm
end QM
