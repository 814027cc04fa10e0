/-! ===== PURE: the class reads ===== -/
def RC (σ : Sg) (n : Nat) (t : Nat → Nat) (S : St) (d : Nat) (st : Nat → Nat) : Prop := TapeC σ n t ∧ CS σ S ∧ σ.1 3 5 = nI d ∧ ∀ i, i < d → σ.1 16 i = nI (st i)
def rdP (j k : Nat) : Prop := j = 4 ∨ j = 5 ∨ (j = 2 ∧ (k = 7 ∨ k = 8 ∨ k = 10)) ∨ (j = 3 ∧ (k = 5 ∨ k = 6)) ∨ (9 ≤ j ∧ j ≤ 13) ∨ j = 15 ∨ j = 16
theorem ad_rd {σ τ : Sg} (h : Fr adP σ τ) : Fr rdP σ τ := h.w (fun j k z => by unfold adP at z; unfold rdP; omega)
theorem tk_rd {u : Nat} {σ τ : Sg} (h : Fr (tkP u) σ τ) : Fr rdP σ τ := h.w (fun j k z => by unfold tkP drP at z; unfold rdP; omega)
/-- what a step of reading leaves -/
def PT (σ : Sg) (n : Nat) (t : Nat → Nat) (a : Nat) (o : Nat × Rd × Nat) (Q : Po) : Prop :=
  ∀ τ, RC τ n t o.2.1.1 o.2.1.2.1 o.2.1.2.2.1 → τ.1 3 6 = bI o.2.1.2.2.2 → Fr rdP σ τ → τ.1 4 3 = nI a → (o.1 = 0 → τ.1 4 4 = nI o.2.2 ∧ τ.1 2 10 = 0) → Q (some (.int (fI o.1))) τ
/-- a token lies there -/
def TK (σ : Sg) (n : Nat) (t : Nat → Nat) (R : Rd) (a b : Nat) (l : List Nat) : Prop :=
  RC σ n t R.1 R.2.1 R.2.2.1 ∧ σ.1 3 6 = bI R.2.2.2 ∧ SC σ n t R.1.2.2.1 l ∧ l.length < 1000000 ∧ σ.1 4 3 = nI a ∧ σ.1 4 4 = nI b
section CRD
variable {σ : Sg} {Q : Po} {X : Xo} {n : Nat} {t : Nat → Nat} {S : St} {R : Rd} {d a b : Nat} {st : Nat → Nat} {l : List Nat}
theorem RC.ad {τ : Sg} {S' : St} (h : RC σ n t S d st) (hC : CS τ S') (hf : Fr adP σ τ) : RC τ n t S' d st := ⟨h.1.fr (hf.2 1 1 (by simp [adP])) (fun k => hf.2 8 k (by simp [adP])), hC, (hf.2 3 5 (by simp [adP])).trans h.2.2.1, fun i hi => (hf.2 16 i (by simp [adP])).trans (h.2.2.2 i hi)⟩
theorem RC.m {j k : Nat} {v : Int32} (h : RC σ n t S d st) (hj : j = 4 ∨ j = 5 ∨ (j = 3 ∧ k ≠ 5) ∨ j = 6) : RC (sM σ j k v) n t S d st := ⟨h.1.fr (sM_o (by omega)) (fun k => sM_o (by omega)), h.2.1.m (by omega), (sM_o (by omega)).trans h.2.2.1, fun i hi => (sM_o (by omega)).trans (h.2.2.2 i hi)⟩
theorem sp_X3_innermost (h5 : σ.1 3 5 = nI d) (hd : d ≤ 100) (hs : ∀ i, i < d → σ.1 16 i = nI (st i)) (h0 : d = 0 → Q (some (.int (-1))) σ) (h1 : 0 < d → Q (some (.int (nI (st (d - 1))))) σ) : P_X3_innermost [.ref 3] σ Q X := by
  refine ⟨rfl, fun I hI => run_in (stop := fun _ => false) hI 40 ?_⟩
  refine pk_le d 0 (fun g => h0 (by omega)) (fun g => ?_) h5 rfl
  refine ⟨by decide, ?_⟩
  refine pk_lt 100 d (fun g => by omega) (fun g => ?_) rfl h5
  have hx : σ.1 3 5 - 1 = nI (d - 1) := by rw [h5]; exact nI_sub (a := 1) (by omega)
  refine ⟨rfl, pk_in (d - 1) 100 (by omega) hx, ?_⟩
  have hq := h1 (by omega)
  rw [← hs (d - 1) (by omega), ← el_nI (σ := σ) (j := 16) (by decide) (by omega), ← hx] at hq
  exact hq
theorem sp_X3_countInParent (hR : RC σ n t S d st) (hS : SZ S) (hd : d ≤ 100) (hst : ∀ i, i < d → st i < S.1) (h : ∀ τ, RC τ n t (val1 S d st).1 (val1 S d st).2.1 (val1 S d st).2.2.1 → τ.1 3 6 = bI (val1 S d st).2.2.2 → Fr rdP σ τ → (∀ k, τ.1 4 k = σ.1 4 k) → τ.1 2 10 = σ.1 2 10 → Q none τ) : P_X3_countInParent [.ref 3] σ Q X := by
  obtain ⟨hT, hC, h5, hs⟩ := hR
  refine ⟨rfl, fun I hI => run_in (stop := fun _ => false) hI 40 ?_⟩
  refine ⟨Nat.le_refl _, sp_X3_innermost h5 hd hs (fun e => ?_) (fun e => ?_)⟩
  · refine ⟨Nat.le_refl _, sp_X4_addPart_no (by decide) ?_⟩
    refine ⟨Nat.le_refl _, sp_X4_kindOf_no (by decide) ?_⟩
    refine And.intro (fun _ => ?_) (fun g => absurd g (by decide))
    have hv : val1 S d st = (S, d, st, false) := by unfold val1; rw [if_pos e]
    rw [hv] at h
    exact ⟨Or.inl rfl, h _ ⟨hT.fr (sM_o (by omega)) (fun k => sM_o (by omega)), hC.m (by omega), (sM_o (by omega)).trans h5, fun i hi => (sM_o (by omega)).trans (hs i hi)⟩ sM_s (Fr.rf.s (by simp [rdP])) (fun k => sM_o (by omega)) (sM_o (by omega))⟩
  · have hj := hst (d - 1) (by omega)
    refine ⟨Nat.le_refl _, sp_X4_addPart hC hS hj (fun τ hC' hτ => ?_)⟩
    have hv : val1 S d st = (inc S (st (d - 1)), d, st, kd0 S d st) := by unfold val1; rw [if_neg (by omega)]
    rw [hv] at h
    have hR' : RC τ n t (inc S (st (d - 1))) d st := ⟨hT.fr (by rw [hτ, sM_o (by omega)]) (fun k => by rw [hτ, sM_o (by omega)]), hC', by rw [hτ, sM_o (by omega)]; exact h5, fun i hi => by rw [hτ, sM_o (by omega)]; exact hs i hi⟩
    have hF : Fr rdP σ τ := by rw [hτ]; exact Fr.rf.s (by simp [rdP])
    have h4 : ∀ k, τ.1 4 k = σ.1 4 k := fun k => by rw [hτ, sM_o (by omega)]
    have h10 : τ.1 2 10 = σ.1 2 10 := by rw [hτ, sM_o (by omega)]
    refine ⟨Nat.le_refl _, sp_X4_kindOf hC' hS hj (fun r hr => ?_)⟩
    have hk : (inc S (st (d - 1))).2.1 0 (st (d - 1)) = S.2.1 0 (st (d - 1)) := by
      show (if (0 : Nat) = 1 ∧ st (d - 1) = st (d - 1) then S.2.1 1 (st (d - 1)) + 1 else S.2.1 0 (st (d - 1))) = _
      rw [if_neg (by omega)]
    rw [hk] at hr
    subst hr
    refine And.intro (fun g => ?_) (fun g => ?_)
    · exact ⟨Or.inl rfl, h _ (hR'.m (by omega)) (by rw [sM_s, kd0, decide_eq_false (fun z => g z.2)]; rfl) (hF.s (by simp [rdP])) (fun k => (sM_o (by omega)).trans (h4 k)) ((sM_o (by omega)).trans h10)⟩
    · exact ⟨Or.inr rfl, h _ (hR'.m (by omega)) (by rw [sM_s, kd0, decide_eq_true ⟨e, g⟩]; rfl) (hF.s (by simp [rdP])) (fun k => (sM_o (by omega)).trans (h4 k)) ((sM_o (by omega)).trans h10)⟩
theorem sp_X3_takeLeaf {what : Nat} {v x : Int32} (hK : TK σ n t R a b l) (hO : OKR R) (hw : what < 10) (h : PT σ n t a (leaf R what v x l b) Q) : P_X3_takeLeaf [.ref 3, .int (nI what), .int v, .int x] σ Q X := by
  obtain ⟨hR, h6, hD, hl, e3, e4⟩ := hK
  obtain ⟨o1, o2, o3, o4⟩ := hO
  refine ⟨rfl, fun I hI => run_in (stop := fun _ => false) hI 40 ?_⟩
  refine ⟨Nat.le_refl _, sp_X4_add R.2.1 hR.2.1 o1 hD hl hw (fun g => ?_) (fun g1 g2 τ hC hF hD' => ?_)⟩
  · refine And.intro (fun g => absurd rfl g) (fun _ => ?_)
    unfold leaf at h
    rw [if_pos g] at h
    exact h σ hR h6 Fr.rf e3 (fun z => by cases z)
  · refine And.intro (fun _ => ?_) (fun g => absurd g (nIm1 (by omega)))
    unfold leaf at h
    rw [if_neg (by omega)] at h
    refine ⟨Nat.le_refl _, sp_X3_countInParent (hR.ad hC hF) ⟨?_, ?_⟩ o2 (fun i hi => ?_) (fun τ' q1 q2 q3 q4 q5 => ?_)⟩
    · show R.1.1 + 1 ≤ 4000; omega
    · show R.1.2.2.1 + l.length ≤ 32768; omega
    · have := o3 i hi
      show R.2.2.1 i < R.1.1 + 1; omega
    · exact h τ' q1 q2 ((ad_rd hF).tr q3) ((q4 3).trans ((hF.2 4 3 (by simp [adP])).trans e3)) (fun _ => ⟨(q4 4).trans ((hF.2 4 4 (by simp [adP])).trans e4), q5.trans hD'.2.2.2.1⟩)
theorem sp_X3_takeBegin {what : Nat} (hK : TK σ n t R a b []) (hO : OKR R) (hw : what = 6 ∨ what = 7) (h : PT σ n t a (opn R what b) Q) : P_X3_takeBegin [.ref 3, .int (nI what)] σ Q X := by
  obtain ⟨hR, h6, hD, hl, e3, e4⟩ := hK
  obtain ⟨o1, o2, o3, o4⟩ := hO
  unfold opn at h
  refine ⟨rfl, fun I hI => run_in (stop := fun _ => false) hI 60 ?_⟩
  refine ⟨by decide, ?_⟩
  refine pk_lt R.2.1 100 (fun g => ?_) (fun g => ?_) hR.2.2.1 rfl
  · rw [if_neg (by omega)] at h
    refine ⟨Nat.le_refl _, sp_X4_add R.2.1 hR.2.1 o1 hD hl (by omega) (fun g => ?_) (fun g1 g2 τ hC hF hD' => ?_)⟩
    · refine And.intro (fun g => absurd rfl g) (fun _ => ?_)
      have g' : 4000 ≤ R.1.1 := by
        have := o1.2
        simp at g
        omega
      rw [if_pos g'] at h
      exact h σ hR h6 Fr.rf e3 (fun z => by cases z)
    · rw [if_neg (by omega)] at h
      refine And.intro (fun _ => ?_) (fun g => absurd g (nIm1 (by omega)))
      have hR2 := hR.ad hC hF
      have hd : τ.1 3 5 = nI R.2.1 := hR2.2.2.1
      have hcl : (τ.1 3 5).toNatClampNeg = R.2.1 := pk_cl R.2.1 hd
      refine ⟨rfl, pk_in R.2.1 100 g hd, ?_⟩
      have fin : ∀ kk : Int32, kk = bI (decide (what = 7)) → Q (some (.int (fI 0))) (sM (sM (sM τ 16 (τ.1 3 5).toNatClampNeg (nI R.1.1)) 3 5 (τ.1 3 5 + 1)) 3 6 kk) := by
        intro kk hkk
        refine h _ ⟨hR2.1.fr ?_ (fun k => ?_), ((hR2.2.1.m ?_).m ?_).m ?_, ?_, fun i hi => ?_⟩ ?_ ?_ ?_ (fun _ => ?_)
        · rw [sM_o (by omega), sM_o (by omega), sM_o (by omega)]
        · rw [sM_o (by omega), sM_o (by omega), sM_o (by omega)]
        · omega
        · omega
        · omega
        · rw [sM_o (by omega), sM_s, hd]
          exact (nI_succ _).symm
        · show _ = nI (if i = R.2.1 then R.1.1 else R.2.2.1 i)
          have hi' : i < R.2.1 + 1 := hi
          rw [sM_o (by omega), sM_o (by omega), hcl]
          by_cases e : i = R.2.1
          · rw [if_pos e, e, sM_s]
          · rw [if_neg e, sM_o (by omega)]
            exact hR2.2.2.2 i (by omega)
        · rw [sM_s, hkk]
        · exact (((ad_rd hF).s (by simp [rdP])).s (by simp [rdP])).s (by simp [rdP])
        · rw [sM_o (by omega), sM_o (by omega), sM_o (by omega)]
          exact (hF.2 4 3 (by simp [adP])).trans e3
        · refine ⟨?_, ?_⟩
          · rw [sM_o (by omega), sM_o (by omega), sM_o (by omega)]
            exact (hF.2 4 4 (by simp [adP])).trans e4
          · rw [sM_o (by omega), sM_o (by omega), sM_o (by omega)]
            exact hD'.2.2.2.1
      refine kne what 7 (fun g => ?_) (fun g => ?_) rfl rfl
      · exact ⟨Or.inl rfl, fin 0 (by rw [decide_eq_false g]; rfl)⟩
      · exact ⟨Or.inr rfl, fin 1 (by rw [decide_eq_true g]; rfl)⟩
  · rw [if_pos g] at h
    exact h σ hR h6 Fr.rf e3 (fun z => by cases z)
theorem sp_X3_takeEnd (hR : RC σ n t R.1 R.2.1 R.2.2.1) (h10 : σ.1 2 10 = 0) (e3 : σ.1 4 3 = nI a) (e4 : σ.1 4 4 = nI b) (hO : OKR R) (hd : 0 < R.2.1) (h : PT σ n t a (cl1 R b) Q) : P_X3_takeEnd [.ref 3] σ Q X := by
  obtain ⟨o1, o2, o3, o4⟩ := hO
  have hj := o3 (R.2.1 - 1) (by omega)
  refine ⟨rfl, fun I hI => run_in (stop := fun _ => false) hI 40 ?_⟩
  refine ⟨Nat.le_refl _, sp_X3_innermost hR.2.2.1 o2 hR.2.2.2 (fun e => by omega) (fun _ => ?_)⟩
  refine ⟨Nat.le_refl _, sp_X4_close hR.2.1 o1 hj (fun τ hC hτ => ?_)⟩
  refine ⟨Nat.le_refl _, ?_⟩
  have h5 : τ.1 3 5 = nI R.2.1 := by rw [hτ, sM_o (by omega)]; exact hR.2.2.1
  have hx : τ.1 3 5 - 1 = nI (R.2.1 - 1) := by rw [h5]; exact nI_sub (a := 1) (by omega)
  have hmx : (if (0 : Int32) < τ.1 3 5 - 1 then τ.1 3 5 - 1 else 0) = nI (R.2.1 - 1) := by
    rw [hx]
    by_cases e : R.2.1 - 1 = 0
    · rw [e, if_neg (by decide)]; rfl
    · rw [if_pos (show (0 : Int32) < _ from nI_lt (a := 0) (by omega) (by omega))]
  have hR2 : RC (sM τ 3 5 (nI (R.2.1 - 1))) n t (cls R.1 (R.2.2.1 (R.2.1 - 1))) (R.2.1 - 1) R.2.2.1 := by
    refine ⟨hR.1.fr ?_ (fun k => ?_), hC.m ?_, sM_s, fun i hi => ?_⟩
    · rw [sM_o (by omega), hτ, sM_o (by omega)]
    · rw [sM_o (by omega), hτ, sM_o (by omega)]
    · omega
    · rw [sM_o (by omega), hτ, sM_o (by omega)]
      exact hR.2.2.2 i (by omega)
  refine ⟨Nat.le_refl _, ?_⟩
  show P_X3_countInParent [.ref 3] (sM τ 3 5 (if (0 : Int32) < τ.1 3 5 - 1 then τ.1 3 5 - 1 else 0)) _ _
  rw [hmx]
  refine sp_X3_countInParent hR2 o1 (by omega) (fun i hi => o3 i (by omega)) (fun τ' q1 q2 q3 q4 q5 => ?_)
  refine h τ' q1 q2 (Fr.tr ?_ q3) ?_ (fun _ => ⟨?_, ?_⟩)
  · rw [hτ]
    exact (Fr.rf.s (by simp [rdP])).s (by simp [rdP])
  · rw [q4 3, sM_o (by omega), hτ, sM_o (by omega)]
    exact e3
  · rw [q4 4, sM_o (by omega), hτ, sM_o (by omega)]
    exact e4
  · rw [q5, sM_o (by omega), hτ, sM_o (by omega)]
    exact h10
theorem sp_X6_indexUpTo {most : Nat} (hT : TapeC σ n t) (hab : a ≤ b) (hb : b ≤ n) (e3 : σ.1 4 3 = nI a) (e4 : σ.1 4 4 = nI b) (hm : most ≤ 8388607) (h : ∀ r, r = oI (IX most (sb t (b - a) a)) → Q (some (.int r)) σ) : P_X6_indexUpTo [.ref 4, .int (nI most)] σ Q X := by
  refine ⟨rfl, fun I hI => run_in (stop := fun _ => false) hI 30 ?_⟩
  refine ⟨Nat.le_refl _, ?_⟩
  show P_X5_indexIn [.ref 1, .int (σ.1 4 3), .int (σ.1 4 4), .int (nI most)] _ _ _
  rw [e3, e4]
  exact sp_X5_indexIn hT hab hb hm h
theorem sp_X6_isText {w : Nat} (hw : w = 40 ∨ w = 41 ∨ w = 42 ∨ w = 43 ∨ w = 44 ∨ w = 45 ∨ w = 46) (hT : TapeC σ n t) (hab : a ≤ b) (hb : b ≤ n) (e3 : σ.1 4 3 = nI a) (e4 : σ.1 4 4 = nI b) (h : ∀ r, r = bI (decide (sb t (b - a) a = wl w)) → Q (some (.int r)) σ) : P_X6_isText [.ref 4, .ref w] σ Q X := by
  have hok : okv 5 2 2 [.ref 4, .ref w] = true := rfl
  refine ⟨hok, fun I hI => run_in (stop := fun _ => false) hI 30 ?_⟩
  refine ⟨Nat.le_refl _, ?_⟩
  show P_X5_isText [.ref 1, .int (σ.1 4 3), .int (σ.1 4 4), .ref w] _ _ _
  rw [e3, e4]
  refine sp_X5_isText hw hT hab hb (fun r hr => ?_)
  have := h r hr
  subst hr
  refine ⟨?_, this⟩
  cases decide (sb t (b - a) a = wl w) <;> first | exact bo1 | exact bo0
theorem sp_X3_seekReference (hT : TapeC σ n t) (hb : b ≤ n) (e4 : σ.1 4 4 = nI b) (h0 : rf2 n t b = none → Q (some (.int (-1))) σ) (h1 : ∀ q, rf2 n t b = some q → Q (some (.int (nI q.1))) (sM σ 4 4 (nI q.2))) : P_X3_seekReference [.ref 3] σ Q X := by
  have h2 := hT.2.1
  have s1 := SK_b (n := n) (t := t) hb
  have w1 := WD_b (n := n) (t := t) s1.2
  have s2 := SK_b (n := n) (t := t) w1.2
  have w2 := WD_b (n := n) (t := t) s2.2
  unfold rf2 at h0 h1
  refine ⟨rfl, fun I hI => run_in (stop := fun _ => false) hI 60 ?_⟩
  refine ⟨Nat.le_refl _, ?_⟩
  show P_X5_pastBlanks [.ref 1, .int (σ.1 4 4)] _ _ _
  rw [e4]
  refine sp_X5_pastBlanks hT hb (fun r hr => ?_)
  subst hr
  refine ⟨Nat.le_refl _, sp_X5_pastWord hT s1.2 (fun r hr => ?_)⟩
  subst hr
  refine ⟨Nat.le_refl _, sp_X5_indexIn (most := 65535) hT w1.1 w1.2 (by omega) (fun r hr => ?_)⟩
  subst hr
  cases hI2 : IX 65535 (sb t (WD n t (SK n t b) - SK n t b) (SK n t b)) with
  | none =>
    rw [hI2] at h0
    exact And.intro (fun g => absurd rfl g) (fun _ => h0 rfl)
  | some g =>
    rw [hI2] at h0 h1
    have hg := IX_b hI2
    refine And.intro (fun _ => ?_) (fun z => absurd z (nIm1 (by omega)))
    refine ⟨Nat.le_refl _, sp_X5_pastBlanks hT w1.2 (fun r hr => ?_)⟩
    subst hr
    refine ⟨Nat.le_refl _, sp_X5_pastWord hT s2.2 (fun r hr => ?_)⟩
    subst hr
    refine ⟨Nat.le_refl _, sp_X5_isText (w := 43) (by simp) hT w2.1 w2.2 (fun r hr => ?_)⟩
    subst hr
    refine And.intro (fun z => ?_) (fun z => ?_)
    · have e := of_decide_eq_true (bIt z)
      exact h1 (g, WD n t (SK n t (WD n t (SK n t b)))) (by simp only; rw [if_pos (show _ = [82] from e)])
    · have e := of_decide_eq_false (bIf z)
      exact h0 (by simp only; rw [if_neg (show ¬ _ = [82] from e)])
end CRD
