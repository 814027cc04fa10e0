/-! ===== PURE: entry, in the class ===== -/
theorem hed_b {n k : Nat} {t : Nat → Nat} (hk : k ≤ n) : (hed n t k).2.2.2 ≤ n ∧ (hed n t k).1 < 11 := by
  have w1 := wend_b (n := n) (t := t) hk
  have w2 := wend_b (n := n) (t := t) w1.2.1
  have w3 := wend_b (n := n) (t := t) w2.2.1
  unfold hed
  split
  · exact ⟨w1.2.2.2, by simp⟩
  · split
    · exact ⟨w2.2.2.2, by simp⟩
    · split
      · exact ⟨w3.2.1, by simp⟩
      · exact ⟨w3.2.2.2, by simp⟩
theorem EX.tr {A B C : St} (h1 : EX A B) (h2 : EX B C) : EX A C := by
  obtain ⟨a1, a2, a3, a4⟩ := h1
  obtain ⟨b1, b2, b3, b4⟩ := h2
  exact ⟨by omega, by omega, fun i k hk => (b3 i k (by omega)).trans (a3 i k hk), fun i hi => (b4 i (by omega)).trans (a4 i hi)⟩
theorem rdo_pl {n : Nat} {t : Nat → Nat} (hT : ∀ k, k < n → t k < 256) : ∀ m (R : Rd) k, k ≤ n → (rdo n t m R k).1 = 0 → (rdo n t m R k).2.2 ≤ n := by
  intro m
  induction m with
  | zero => intro R k hk h; cases h
  | succ m ih =>
    intro R k hk h
    simp only [rdo] at h ⊢
    split at h
    · rename_i g
      have hb := trn_b hT g
      rw [if_pos g]
      split at h
      · rename_i g2
        rw [if_pos g2]
        exact hb.2
      · rename_i g2
        rw [if_neg g2]
        exact ih _ _ hb.2 h
    · rename_i g
      exact absurd h g
def hdP (j k : Nat) : Prop := j = 4 ∨ (j = 3 ∧ (k = 10 ∨ k = 11 ∨ k = 12))
section EN2
variable {σ : Sg} {Q : Po} {X : Xo} {n : Nat} {t : Nat → Nat} {S : St} {k ob : Nat}
theorem TapeC.hd {τ : Sg} (hT : TapeC σ n t) (h : Fr hdP σ τ) : TapeC τ n t := hT.fr (h.2 1 1 (by simp [hdP])) (fun k => h.2 8 k (by simp [hdP]))
/-- the words of a head, one by one -/
theorem sw_hd (hT : TapeC σ n t) (hk : k ≤ n) (h : ∀ τ, TapeC τ n t → Fr hdP σ τ → τ.1 4 3 = nI (SK n t k) → τ.1 4 4 = nI (wend n t k) → (∀ c, τ.1 3 c = σ.1 3 c) → (∀ j c, j ≠ 4 → τ.1 j c = σ.1 j c) → Q none τ) : P_X6_seekWord [.ref 4, .int (nI k)] σ Q X := by
  refine sp_X6_seekWord hT hk (h _ (hT.fr ?_ (fun k => ?_)) ?_ ?_ ?_ (fun c => ?_) (fun j c hj => ?_))
  · rw [sM_o (by omega), sM_o (by omega)]
  · rw [sM_o (by omega), sM_o (by omega)]
  · exact (Fr.rf.s (Or.inl rfl)).s (Or.inl rfl)
  · rw [sM_o (by omega), sM_s]
  · rw [sM_s]
  · rw [sM_o (by omega), sM_o (by omega)]
  · rw [sM_o (by omega), sM_o (by omega)]
theorem sp_X3_takeHead (hT : TapeC σ n t) (hk : k ≤ n) (e11 : σ.1 3 11 = 0) (e12 : σ.1 3 12 = 0) (h : ∀ τ, TapeC τ n t → Fr hdP σ τ → τ.1 3 10 = nI (hed n t k).2.2.2 → τ.1 3 11 = nI (hed n t k).2.1 → τ.1 3 12 = nI (hed n t k).2.2.1 → Q (some (.int (fI (hed n t k).1))) τ) : P_X3_takeHead [.ref 3, .int (nI k)] σ Q X := by
  have w1 := wend_b (n := n) (t := t) hk
  have w2 := wend_b (n := n) (t := t) w1.2.1
  have w3 := wend_b (n := n) (t := t) w2.2.1
  unfold hed at h
  refine ⟨rfl, fun I hI => run_in (stop := fun _ => false) hI 60 ?_⟩
  refine ⟨Nat.le_refl _, sw_hd hT hk (fun τ1 a1 a2 a3 a4 a5 a6 => ?_)⟩
  refine ⟨Nat.le_refl _, sp_X6_indexUpTo (most := 8388607) a1 w1.1 w1.2.1 a3 a4 (by omega) (fun r hr => ?_)⟩
  have hr : r = oI (IX 8388607 (wat n t k)) := hr
  subst hr
  cases hv : IX 8388607 (wat n t k) with
  | none =>
    rw [hv] at h
    refine And.intro (fun g => absurd rfl g) (fun _ => ?_)
    refine ⟨Nat.le_refl _, sp_X3_fail (f := 9) (c := SK n t k) a1 (by omega) (by omega) (fun _ => a3) ?_⟩
    exact h _ (a1.fr (sM_o (by omega)) (fun k => sM_o (by omega))) (a2.s (by simp [hdP])) sM_s ((sM_o (by omega)).trans ((a5 11).trans e11)) ((sM_o (by omega)).trans ((a5 12).trans e12))
  | some v =>
    rw [hv] at h
    have hvb := IX_b hv
    refine And.intro (fun _ => ?_) (fun g => absurd g (nIm1 (by omega)))
    have b1 : TapeC (sM τ1 3 11 (nI v)) n t := a1.fr (sM_o (by omega)) (fun k => sM_o (by omega))
    refine ⟨Nat.le_refl _, ?_⟩
    show P_X6_seekWord [.ref 4, .int ((sM τ1 3 11 (nI v)).1 4 4)] (sM τ1 3 11 (nI v)) _ _
    rw [show (sM τ1 3 11 (nI v)).1 4 4 = nI (wend n t k) from (sM_o (by omega)).trans a4]
    refine sw_hd b1 w1.2.1 (fun τ2 c1 c2 c3 c4 c5 c6 => ?_)
    have c2' : Fr hdP σ τ2 := (a2.s (by simp [hdP])).tr c2
    have c11 : τ2.1 3 11 = nI v := (c5 11).trans sM_s
    have c12 : τ2.1 3 12 = 0 := (c5 12).trans ((sM_o (by omega)).trans ((a5 12).trans e12))
    refine ⟨Nat.le_refl _, sp_X6_indexUpTo (most := 65535) c1 w2.1 w2.2.1 c3 c4 (by omega) (fun r hr => ?_)⟩
    have hr : r = oI (IX 65535 (wat n t (wend n t k))) := hr
    subst hr
    cases hg : IX 65535 (wat n t (wend n t k)) with
    | none =>
      simp only [hg] at h
      refine And.intro (fun g => absurd rfl g) (fun _ => ?_)
      refine ⟨Nat.le_refl _, sp_X3_fail (f := 9) (c := SK n t (wend n t k)) c1 (by omega) (by omega) (fun _ => c3) ?_⟩
      exact h _ (c1.fr (sM_o (by omega)) (fun k => sM_o (by omega))) (c2'.s (by simp [hdP])) sM_s ((sM_o (by omega)).trans c11) ((sM_o (by omega)).trans c12)
    | some g =>
      simp only [hg] at h
      have hgb := IX_b hg
      refine And.intro (fun _ => ?_) (fun g => absurd g (nIm1 (by omega)))
      have d1 : TapeC (sM τ2 3 12 (nI g)) n t := c1.fr (sM_o (by omega)) (fun k => sM_o (by omega))
      refine ⟨Nat.le_refl _, ?_⟩
      show P_X6_seekWord [.ref 4, .int ((sM τ2 3 12 (nI g)).1 4 4)] (sM τ2 3 12 (nI g)) _ _
      rw [show (sM τ2 3 12 (nI g)).1 4 4 = nI (wend n t (wend n t k)) from (sM_o (by omega)).trans c4]
      refine sw_hd d1 w2.2.1 (fun τ3 f1 f2 f3 f4 f5 f6 => ?_)
      have f2' : Fr hdP σ τ3 := (c2'.s (by simp [hdP])).tr f2
      have f11 : τ3.1 3 11 = nI v := (f5 11).trans ((sM_o (by omega)).trans c11)
      have f12 : τ3.1 3 12 = nI g := (f5 12).trans sM_s
      refine ⟨Nat.le_refl _, sp_X6_isText (w := 44) (by simp) f1 w3.1 w3.2.1 f3 f4 (fun r hr => ?_)⟩
      have hr : r = bI (decide (wat n t (wend n t (wend n t k)) = [111, 98, 106])) := hr
      subst hr
      refine And.intro (fun z => ?_) (fun z => ?_)
      · have z := of_decide_eq_true (bIt z)
        simp only [if_pos z] at h
        exact h _ (f1.fr (sM_o (by omega)) (fun k => sM_o (by omega))) (f2'.s (by simp [hdP])) (sM_s.trans f4) ((sM_o (by omega)).trans f11) ((sM_o (by omega)).trans f12)
      · have z := of_decide_eq_false (bIf z)
        simp only [if_neg z] at h
        refine ⟨Nat.le_refl _, sp_X3_fail (f := 9) (c := SK n t (wend n t (wend n t k))) f1 (by omega) (by omega) (fun _ => f3) ?_⟩
        exact h _ (f1.fr (sM_o (by omega)) (fun k => sM_o (by omega))) (f2'.s (by simp [hdP])) sM_s ((sM_o (by omega)).trans f11) ((sM_o (by omega)).trans f12)
theorem tal_b {p nd : Nat} (hp : p ≤ n) (hnd : nd < 4000) : (tal n t S p nd).1 < 11 ∧ (tal n t S p nd).2.2.2 < 4000 ∧ EX S (tal n t S p nd).2.1 := by
  unfold tal
  split
  · exact ⟨by simp, hnd, EX.rf⟩
  · split
    · exact ⟨by simp, hnd, EX.rf⟩
    · split
      · exact ⟨by simp, hnd, EX.rf⟩
      · split
        · exact ⟨by simp, hnd, EX.rf⟩
        · rename_i g
          exact ⟨by simp, by simp only; omega, EX.rf.ad⟩
def taP (j k : Nat) : Prop := j = 4 ∨ (j = 3 ∧ k = 10) ∨ adP j k
theorem sp_X3_takeTail {p nd : Nat} (hT : TapeC σ n t) (hC : CS σ S) (hS : SZ S) (h10 : σ.1 2 10 = 0) (ep : σ.1 3 10 = nI p) (hp : p ≤ n) (hnd : nd < S.1) (h : ∀ τ, TapeC τ n t → CS τ (tal n t S p nd).2.1 → Fr taP σ τ → τ.1 3 10 = nI (tal n t S p nd).2.2.1 → Q (some (.int (if (tal n t S p nd).1 = 0 then nI (tal n t S p nd).2.2.2 else fI (tal n t S p nd).1))) τ) : P_X3_takeTail [.ref 3, .int (nI nd)] σ Q X := by
  have w := wend_b (n := n) (t := t) hp
  have hn := hT.2.1
  unfold tal at h
  refine ⟨rfl, fun I hI => run_in (stop := fun _ => false) hI 80 ?_⟩
  refine ⟨Nat.le_refl _, ?_⟩
  show P_X6_seekWord [.ref 4, .int (σ.1 3 10)] σ _ _
  rw [ep]
  refine sw_hd hT hp (fun τ a1 a2 a3 a4 a5 a6 => ?_)
  have hC1 : CS τ S := hC.fr (a6 2 7 (by omega)) (a6 2 8 (by omega)) (fun j k h1 h2 => a6 j k (by omega)) (fun k _ => a6 15 k (by omega))
  have hF1 : Fr taP σ τ := ⟨a2.1, fun j k z => a6 j k (fun e => z (Or.inl e))⟩
  have noq : ∀ f, f ≠ 0 → (∀ τ, TapeC τ n t → CS τ S → Fr taP σ τ → τ.1 3 10 = nI (SK n t p) → Q (some (.int (if f = 0 then nI nd else fI f))) τ) → Q (some (.int (fI f))) (sM τ 3 10 (nI (SK n t p))) := by
    intro f f0 hq
    have := hq _ (a1.fr (sM_o (by omega)) (fun k => sM_o (by omega))) (hC1.m (by omega)) (hF1.s (by simp [taP])) sM_s
    rw [if_neg f0] at this
    exact this
  refine ⟨Nat.le_refl _, sp_X6_isText (w := 45) (by simp) a1 w.1 w.2.1 a3 a4 (fun r hr => ?_)⟩
  have hr : r = bI (decide (wat n t p = [101, 110, 100, 111, 98, 106])) := hr
  subst hr
  refine And.intro (fun z => ?_) (fun z => ?_)
  · have z := of_decide_eq_false (bIf z)
    rw [if_neg z] at h
    refine ⟨Nat.le_refl _, sp_X4_kindOf hC1 hS hnd (fun r hr => ?_)⟩
    subst hr
    refine And.intro (fun g7 => ?_) (fun g7 => ?_)
    · rw [if_pos (Or.inl (show ¬ S.2.1 0 nd = nI 7 from g7))] at h
      refine ⟨Nat.le_refl _, sp_X3_fail (f := 10) (c := SK n t p) a1 (by omega) (by omega) (fun _ => a3) ?_⟩
      exact noq 10 (by omega) h
    · refine ⟨Nat.le_refl _, sp_X6_isText (w := 46) (by simp) a1 w.1 w.2.1 a3 a4 (fun r hr => ?_)⟩
      have hr : r = bI (decide (wat n t p = [115, 116, 114, 101, 97, 109])) := hr
      subst hr
      refine And.intro (fun gs => ?_) (fun gs => ?_)
      · have gs := of_decide_eq_true (bIt gs)
        rw [if_neg (fun y => y.elim (fun y => y g7) (fun y => y gs))] at h
        refine ⟨Nat.le_refl _, ?_⟩
        show P_X5_pastLine [.ref 1, .int (τ.1 4 4)] τ _ _
        rw [a4]
        refine sp_X5_pastLine a1 w.2.1 (fun r hr => ?_)
        subst hr
        by_cases hl : pln n t (wend n t p) = 99999
        · rw [if_pos hl] at h
          rw [hl]
          refine And.intro (fun g => absurd rfl g) (fun _ => ?_)
          refine ⟨Nat.le_refl _, sp_X3_fail (f := 8) (c := SK n t p) a1 (by omega) (by omega) (fun _ => a3) ?_⟩
          exact noq 8 (by omega) h
        · rw [if_neg hl] at h
          have hlb : pln n t (wend n t p) ≤ n + 2 := by
            unfold pln at hl ⊢
            split
            · omega
            · split
              · omega
              · rename_i q1 q2
                rw [if_neg q1, if_neg q2] at hl
                exact absurd rfl hl
          rw [show pI (pln n t (wend n t p)) = nI (pln n t (wend n t p)) from if_neg hl]
          refine And.intro (fun _ => ?_) (fun g => absurd g (nIm1 (by omega)))
          have hD : SC τ n t S.2.2.1 [] := ⟨a1, hC1.2.1, hS.2, (a6 2 10 (by omega)).trans h10, fun i hi => absurd hi (by simp)⟩
          refine ⟨Nat.le_refl _, sp_X4_add (what := 9) (l := []) 0 hC1 hS hD (by simp) (by omega) (fun g => ?_) (fun g1 g2 υ u1 u2 u3 => ?_)⟩
          · have g : 4000 ≤ S.1 := by have := hS.2; simp at g; omega
            rw [if_pos g] at h
            refine And.intro (fun g => absurd rfl g) (fun _ => ?_)
            refine ⟨Nat.le_refl _, sp_X3_fail (f := 7) (c := SK n t p) a1 (by omega) (by omega) (fun _ => a3) ?_⟩
            exact noq 7 (by omega) h
          · rw [if_neg (by omega)] at h
            refine And.intro (fun _ => ?_) (fun g => absurd g (nIm1 (by omega)))
            exact h _ ((a1.fr (u2.2 1 1 (by simp [adP])) (fun k => u2.2 8 k (by simp [adP]))).fr (sM_o (by omega)) (fun k => sM_o (by omega))) (u1.m (by omega)) ((hF1.tr (u2.w (fun j k z => Or.inr (Or.inr z)))).s (by simp [taP])) sM_s
      · have gs := of_decide_eq_false (bIf gs)
        rw [if_pos (Or.inr gs)] at h
        refine ⟨Nat.le_refl _, sp_X3_fail (f := 10) (c := SK n t p) a1 (by omega) (by omega) (fun _ => a3) ?_⟩
        exact noq 10 (by omega) h
  · have z := of_decide_eq_true (bIt z)
    rw [if_pos z] at h
    have := h (sM τ 3 10 (τ.1 4 4)) (a1.fr (sM_o (by omega)) (fun k => sM_o (by omega))) (hC1.m (by omega)) (hF1.s (by simp [taP])) (sM_s.trans a4)
    exact this
theorem sp_X7_entry {x : Int32} (hT : TapeC σ n t) (hC : CS σ S) (hS : SZ S) (hW : WF S) (ho : σ.1 2 9 = nI ob) (hob : ob ≤ S.1) (h0 : (x < 0 ∨ nI n < x) → X xI σ) (h1 : ∀ k, k ≤ n → x = nI k → PZ σ n t S ob (ent n t S k) Q) : P_X7_entry [.ref 0, .int x] σ Q X := by
  have hO : OKR (S, 0, ST0, false) := ⟨hS, Nat.zero_le _, fun i hi => absurd hi (Nat.not_lt_zero i), fun z => by cases z⟩
  have hXR : ∀ p, EX S (rdo n t (n + 1) (S, 0, ST0, false) p).2.1.1 := fun p => (rdo_ex hO ⟨EX.rf, fun i hi => absurd hi (Nat.not_lt_zero i)⟩).1
  refine ⟨rfl, fun I hI => run_in (stop := fun pc => Nat.beq pc 40 || Nat.beq pc 53) hI 60 ?_⟩
  refine ⟨Nat.le_refl _, sp_X7_needPlace hT h0 (fun k hk hx => ?_)⟩
  subst hx
  have h := h1 k hk rfl
  have hkb := hed_b (n := n) (t := t) hk
  obtain ⟨⟨b1, b2, b3, b4, b5, b6, b7, b8⟩, b9, b10⟩ := BG.of hT hC ho
  refine ⟨Nat.le_refl _, sp_X3_begin ?_⟩
  refine ⟨Nat.le_refl _, sp_X3_takeHead b1 hk b9 b10 (fun τ1 a1 a2 a3 a4 a5 => ?_)⟩
  have c2 : CS τ1 S := b2.fr (a2.2 2 7 (by simp [hdP])) (a2.2 2 8 (by simp [hdP])) (fun j k h1 h2 => a2.2 j k (by simp [hdP]; omega)) (fun k _ => a2.2 15 k (by simp [hdP]))
  have c3 : Fr ePc σ τ1 := b3.tr (a2.w (fun j k z => by unfold hdP at z; unfold ePc rdP; omega))
  have c4 := (a2.2 3 7 (by simp [hdP])).trans b4
  have c5 := (a2.2 3 8 (by simp [hdP])).trans b5
  have c6 := (a2.2 3 9 (by simp [hdP])).trans b6
  have c7 := (a2.2 2 9 (by simp [hdP])).trans b7
  have c8 : ∀ i, τ1.1 14 i = σ.1 14 i := fun i => (a2.2 14 i (by simp [hdP])).trans (b8 i)
  -- the last step
  have fin : ∀ (τ : Sg) (z : Rz), PZ σ n t S ob z Q → TapeC τ n t → CS τ z.2.2.2.2.1 → EX S z.2.2.2.2.1 → Fr ePc σ τ → τ.1 3 7 = nI S.1 → τ.1 3 8 = nI S.2.2.1 → τ.1 3 9 = 1 → τ.1 3 10 = nI z.2.2.2.1 → τ.1 3 11 = nI z.2.1 → τ.1 3 12 = nI z.2.2.1 → τ.1 2 9 = nI ob → (z.1 = 0 → ob < 4000) → z.1 < 11 → z.2.2.2.2.2 < 2 ^ 31 → (∀ i, τ.1 14 i = σ.1 14 i) → I 1 53 [some (.ref 0), some (.int (nI k)), some (.int (if z.1 = 0 then nI z.2.2.2.2.2 else fI z.1))] [] τ := by
    intro τ z hz q1 q2 q3 q4 q5 q6 q7 q8 q9 q10 q11 q12 q13 q14 q15
    refine run_in (stop := fun _ => false) hI 30 ?_
    exact ⟨Nat.le_refl _, settle hz q1 q2 q3 q4 q5 q6 q7 q8 q9 q10 q11 q12 q13 q14 q15⟩
  by_cases g : (hed n t k).1 = 0
  · rw [g]
    refine And.intro (fun z => absurd rfl z) (fun _ => ?_)
    refine ⟨Nat.le_refl _, ?_⟩
    show P_X3_takeObject [.ref 3, .int (τ1.1 3 10)] τ1 _ _
    rw [a3]
    refine sp_X3_takeObject (st := ST0) a1 c2 hS hkb.1 (fun τ q1 q2 q3 q4 q5 q6 => ?_)
    have fq : ∀ c, c ≠ 5 → c ≠ 6 → c ≠ 10 → τ.1 3 c = τ1.1 3 c := fun c h5 h6 h10 => q4.2 3 c (by simp [rdP, h5, h6, h10])
    have d3 := rd_e c3 q4
    have d4 := (fq 7 (by decide) (by decide) (by decide)).trans c4
    have d5 := (fq 8 (by decide) (by decide) (by decide)).trans c5
    have d6 := (fq 9 (by decide) (by decide) (by decide)).trans c6
    have d11 := (fq 11 (by decide) (by decide) (by decide)).trans a4
    have d12 := (fq 12 (by decide) (by decide) (by decide)).trans a5
    have d7 := (q4.2 2 9 (by simp [rdP])).trans c7
    have d8 : ∀ i, τ.1 14 i = σ.1 14 i := fun i => (q4.2 14 i (by simp [rdP])).trans (c8 i)
    have hrf := rdo_f (n := n) (t := t) (m := n + 1) (S, 0, ST0, false) (hed n t k).2.2.2
    show I 1 40 _ _ _
    refine run_in (stop := fun pc => Nat.beq pc 53) hI 60 ?_
    by_cases g2 : (rdo n t (n + 1) (S, 0, ST0, false) (hed n t k).2.2.2).1 = 0
    · have hwf := rdo_wf (st := ST0) hS hW g2
      have hpl : (rdo n t (n + 1) (S, 0, ST0, false) (hed n t k).2.2.2).2.2 ≤ n := rdo_pl hT.2.2.2 (n + 1) _ _ hkb.1 g2
      have hz := q3.1.1
      have hnd : S.1 < 4000 := by omega
      rw [if_pos g2]
      refine And.intro (fun z => absurd z (nI_pos (by omega))) (fun _ => ?_)
      refine ⟨Nat.le_refl _, sp_X3_takeTail q1 q2 q3.1 (q6 g2) q5 hpl hwf.2 (fun υ u1 u2 u3 u4 => ?_)⟩
      have tb := tal_b (t := t) (S := (rdo n t (n + 1) (S, 0, ST0, false) (hed n t k).2.2.2).2.1.1) hpl hnd
      have he : ent n t S k = ((tal n t (rdo n t (n + 1) (S, 0, ST0, false) (hed n t k).2.2.2).2.1.1 (rdo n t (n + 1) (S, 0, ST0, false) (hed n t k).2.2.2).2.2 S.1).1, (hed n t k).2.1, (hed n t k).2.2.1, (tal n t (rdo n t (n + 1) (S, 0, ST0, false) (hed n t k).2.2.2).2.1.1 (rdo n t (n + 1) (S, 0, ST0, false) (hed n t k).2.2.2).2.2 S.1).2.2.1, (tal n t (rdo n t (n + 1) (S, 0, ST0, false) (hed n t k).2.2.2).2.1.1 (rdo n t (n + 1) (S, 0, ST0, false) (hed n t k).2.2.2).2.2 S.1).2.1, (tal n t (rdo n t (n + 1) (S, 0, ST0, false) (hed n t k).2.2.2).2.1.1 (rdo n t (n + 1) (S, 0, ST0, false) (hed n t k).2.2.2).2.2 S.1).2.2.2) := by
        unfold ent
        rw [if_pos g, if_pos g2]
      rw [he] at h
      have u3' : Fr ePc σ υ := d3.tr (u3.w (fun j k z => by unfold taP adP at z; unfold ePc rdP; omega))
      exact fin υ _ h u1 u2 (EX.tr (hXR _) tb.2.2) u3' ((u3.2 3 7 (by simp [taP, adP])).trans d4) ((u3.2 3 8 (by simp [taP, adP])).trans d5) ((u3.2 3 9 (by simp [taP, adP])).trans d6) u4 ((u3.2 3 11 (by simp [taP, adP])).trans d11) ((u3.2 3 12 (by simp [taP, adP])).trans d12) ((u3.2 2 9 (by simp [taP, adP])).trans d7) (fun _ => by omega) tb.1 (by have := tb.2.1; simp only; omega) (fun i => (u3.2 14 i (by simp [taP, adP])).trans (d8 i))
    · rw [if_neg g2]
      have he : ent n t S k = ((rdo n t (n + 1) (S, 0, ST0, false) (hed n t k).2.2.2).1, (hed n t k).2.1, (hed n t k).2.2.1, (rdo n t (n + 1) (S, 0, ST0, false) (hed n t k).2.2.2).2.2, (rdo n t (n + 1) (S, 0, ST0, false) (hed n t k).2.2.2).2.1.1, 0) := by
        unfold ent
        rw [if_pos g, if_neg g2]
      rw [he] at h
      refine And.intro (fun _ => ?_) (fun z => absurd (fI_neg _ (by omega) g2) z)
      have := fin τ _ h q1 q2 (hXR _) d3 d4 d5 d6 q5 d11 d12 d7 (fun z => absurd z g2) (by simp only; omega) (by simp) d8
      simp only [if_neg g2] at this
      exact this
  · have he : ent n t S k = ((hed n t k).1, (hed n t k).2.1, (hed n t k).2.2.1, (hed n t k).2.2.2, S, 0) := by
      unfold ent
      rw [if_neg g]
    rw [he] at h
    refine And.intro (fun _ => ?_) (fun z => absurd ((fI_0 _ hkb.2).mp z) g)
    show I 1 40 _ _ _
    refine run_in (stop := fun pc => Nat.beq pc 53) hI 60 ?_
    refine And.intro (fun _ => ?_) (fun z => absurd (fI_neg _ hkb.2 g) z)
    have := fin τ1 _ h a1 c2 EX.rf c3 c4 c5 c6 a3 a4 a5 c7 (fun z => absurd z g) hkb.2 (by simp) c8
    simp only [if_neg g] at this
    exact this
end EN2
