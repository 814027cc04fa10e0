/-! ===== PURE: the model looks at a token, the rest ===== -/
theorem wI_99 : wI 99 = -1 := rfl
theorem wI_ne {h : Nat} (e : ¬ h = 99) : wI h = nI h := by unfold wI; rw [if_neg e]
section ML2
variable {σ0 : Sg} {Q : Po} {X : Xo} {n : Nat} {t : Nat → Nat}
theorem lp_lookHex {a : Nat} {R : Nat × Bool × Bool × List Nat} (h : ∀ τ, TM σ0 τ 5 a (R.1 + 1) (if R.2.1 = true then 1 else if R.2.2.1 = true then 3 else 0) R.2.2.2 → Q none τ) {I : Jt} (hI : Cl (FM (cutN 143 t_X8_lookHex) e_X8_lookHex xn0 0 sws0 false Q X) I) :
    ∀ m k hf bad l z (σ : Sg), k + m = n → l.length < k → (hf = 99 ∨ hf ≤ 15) → (¬ hf = 99 → l.length + 1 < k) → hxs t m k hf bad l = R → LM σ0 σ n t 5 a → TxM σ l → σ.1 7 25 = (if bad = true then -3 else 0) →
      I 0 14 [some (.ref 7), some (.int (wI hf)), some (.int (nI k)), z] [] σ := by
  have ended : ∀ k hf bad l z (σ : Sg), k ≤ n → l.length < k → (hf = 99 ∨ hf ≤ 15) → (¬ hf = 99 → l.length + 1 < k) → R = (k, decide (k = n), bad, if hf = 99 then l else l ++ [16 * hf]) → LM σ0 σ n t 5 a → TxM σ l → σ.1 7 25 = (if bad = true then -3 else 0) → I 0 103 [some (.ref 7), some (.int (wI hf)), some (.int (nI k)), z] [] σ := by
    intro k hf bad l z σ hk hl hh hl2 hR hL hx e5
    have h2 := hL.1.2.1
    have fin : ∀ (σ : Sg) l', l' = (if hf = 99 then l else l ++ [16 * hf]) → LM σ0 σ n t 5 a → TxM σ l' → σ.1 7 25 = (if bad = true then -3 else 0) → I 0 115 [some (.ref 7), some (.int (wI hf)), some (.int (nI k)), z] [] σ := by
      intro σ l' hl' hL hx e5
      refine run_in (stop := fun _ => false) hI 40 ?_
      refine kne k n (fun g => ?_) (fun g => ?_) rfl hL.1.1
      · obtain ⟨q1, q2, q3, q4⟩ := (hL.m (k := 25) (v := σ.1 7 25) (by simp)).m (k := 24) (v := nI k + 1) (by simp)
        refine h _ ⟨q2, q3, q4, ?_, ?_, ?_⟩
        · rw [sM_s, hR]
          exact (nI_succ k).symm
        · rw [sM_o (by simp), sM_s, hR, e5]
          simp only [decide_eq_true_eq, g, if_false]
          cases bad <;> rfl
        · rw [hR, ← hl']
          exact (hx.m (by decide)).m (by decide)
      · obtain ⟨q1, q2, q3, q4⟩ := (hL.m (k := 25) (v := -1) (by simp)).m (k := 24) (v := nI k + 1) (by simp)
        refine h _ ⟨q2, q3, q4, ?_, ?_, ?_⟩
        · rw [sM_s, hR]
          exact (nI_succ k).symm
        · rw [sM_o (by simp), sM_s, hR]
          simp only [decide_eq_true_eq, g, if_true]
          rfl
        · rw [hR, ← hl']
          exact (hx.m (by decide)).m (by decide)
    refine run_in (stop := fun pc => Nat.beq pc 115) hI 40 ?_
    by_cases h99 : hf = 99
    · subst h99
      exact And.intro (fun _ => fin σ l (by simp) hL hx e5) (fun g => absurd (by decide) g)
    · have hf15 : hf ≤ 15 := by omega
      refine And.intro (fun g => absurd g (by rw [wI_ne h99]; exact nI_pos (by omega))) (fun _ => ?_)
      refine ⟨Nat.le_refl _, ?_⟩
      show P_X8_text [.ref 7, .int (16 * wI hf)] _ _ _
      rw [wI_ne h99, show (16 : Int32) = nI 16 from rfl, nI_mul]
      have := hl2 h99
      refine sp_X8_text hx (by omega) (by omega) (fun τ h1 h2 => ?_)
      rw [← wI_ne h99]
      exact fin τ _ (by rw [if_neg h99]) (hL.tx h2) h1 ((tx7 h2 (by decide)).trans e5)
  intro m
  induction m with
  | zero =>
    intro k hf bad l z σ hk hl hh hl2 hR hL hx e5
    have h2 := hL.1.2.1
    refine run_in (stop := fun pc => Nat.beq pc 14 || Nat.beq pc 103) hI 40 ?_
    refine pk_le n k (fun g => ?_) (fun g => by omega) hL.1.1 rfl
    exact ended k hf bad l z σ (by omega) hl hh hl2 (by rw [← hR]; simp [hxs]; omega) hL hx e5
  | succ m ih =>
    intro k hf bad l z σ hk hl hh hl2 hR hL hx e5
    have hT := hL.1
    have h2 := hT.2.1
    have ht := hT.2.2.2 k (by omega)
    have ld : vp_in (nI k) (ak 20).2 ∧ el σ 20 (nI k) = nI (t k) := ⟨nI_in (show k < 65536 by omega) (by decide), by rw [el_nI (by decide) (by omega), hT.2.2.1 k (by omega)]⟩
    have nx : ∀ (hf' : Nat) (bad' : Bool) (l' : List Nat) (z' : Option Value) (τ : Sg), l'.length ≤ k → (hf' = 99 ∨ hf' ≤ 15) → (¬ hf' = 99 → l'.length < k) → hxs t m (k + 1) hf' bad' l' = R → LM σ0 τ n t 5 a → TxM τ l' → τ.1 7 25 = (if bad' = true then -3 else 0) → I 0 14 [some (.ref 7), some (.int (wI hf')), some (.int (nI k + 1)), z'] [] τ := by
      intro hf' bad' l' z' τ q1 q2 q3 q4 q5 q6 q7
      rw [← nI_succ]
      exact ih (k + 1) hf' bad' l' z' τ (by omega) (by omega) q2 (fun z => by have := q3 z; omega) q4 q5 q6 q7
    refine run_in (stop := fun pc => Nat.beq pc 14 || Nat.beq pc 103) hI 80 ?_
    refine pk_le n k (fun g => by omega) (fun g => ?_) hT.1 rfl
    refine ⟨rfl, ld.1, ?_⟩
    rw [ld.2]
    refine pk_eq (t k) 62 (fun g1 => ?_) (fun g1 => ?_) rfl rfl
    · exact ended k hf bad l z σ (by omega) hl hh hl2 (by rw [← hR]; simp [hxs, g1]; omega) hL hx e5
    · refine ⟨rfl, ld.1, ?_⟩
      rw [ld.2, ← vI_lt ht]
      refine ⟨Nat.le_refl _, sp_X8_hex (by omega) (fun r hr => ?_)⟩
      subst hr
      have hxx := hv_ok (t k) (by omega)
      by_cases hv99 : hv (t k) = 99
      · rw [hv99]
        refine And.intro (fun g => absurd g (by decide)) (fun _ => ?_)
        refine ⟨rfl, ld.1, ?_⟩
        rw [ld.2, ← vI_lt ht]
        refine ⟨Nat.le_refl _, sp_X8_isWhite (by omega) (fun r hr => ?_)⟩
        subst hr
        refine And.intro (fun g => ?_) (fun g => ?_)
        · have e := bIt g
          refine And.intro (fun _ => ?_) (fun g => absurd (by decide) g)
          refine And.intro (fun _ => ?_) (fun g => absurd (by decide) g)
          exact nx hf bad l _ σ (by omega) hh (fun z => by have := hl2 z; omega) (by rw [← hR]; simp [hxs, g1, hv99, e]) hL hx e5
        · have e := bIf g
          exact nx hf true l _ _ (by omega) hh (fun z => by have := hl2 z; omega) (by rw [← hR]; simp [hxs, g1, hv99, e]) (hL.m (by simp)) (hx.m (by decide)) sM_s
      · have hv15 : hv (t k) ≤ 15 := by
          rcases hxx with q | q
          · exact absurd q.1 hv99
          · exact q.1
        rw [wI_ne hv99]
        refine And.intro (fun _ => ?_) (fun g => absurd (nI_pos0 (by omega)) g)
        refine And.intro (fun g => absurd g (nI_pos (by omega))) (fun _ => ?_)
        by_cases h99 : hf = 99
        · subst h99
          refine And.intro (fun g => absurd g (by decide)) (fun _ => ?_)
          have := nx (hv (t k)) bad l (some (.int (nI (hv (t k))))) σ (by omega) (Or.inr hv15) (fun _ => hl) (by rw [← hR]; simp [hxs, g1, hv99]) hL hx e5
          rw [wI_ne hv99] at this
          exact this
        · have hf15 : hf ≤ 15 := by omega
          refine And.intro (fun _ => ?_) (fun g => absurd (by rw [wI_ne h99]; exact nI_pos0 (by omega)) g)
          refine And.intro (fun g => absurd g (nI_pos (by omega))) (fun _ => ?_)
          refine ⟨Nat.le_refl _, ?_⟩
          show P_X8_text [.ref 7, .int (16 * wI hf + nI (hv (t k)))] _ _ _
          rw [wI_ne h99, show (16 : Int32) = nI 16 from rfl, nI_mul, nI_add]
          have := hl2 h99
          refine sp_X8_text hx (by omega) (by omega) (fun τ h1 h2 => ?_)
          exact nx 99 bad _ _ τ (by simp; omega) (Or.inl rfl) (fun z => absurd rfl z) (by rw [← hR]; simp [hxs, g1, hv99, h99]) (hL.tx h2) h1 ((tx7 h2 (by decide)).trans e5)
theorem sp_X8_lookHex {σ : Sg} {a : Nat} {R : Nat × Bool × Bool × List Nat} (hT : TapeM σ n t) (hF : Fr lkP σ0 σ) (e3 : σ.1 7 23 = nI a) (e5 : σ.1 7 25 = 0) (ha : a < n) (hx : TxM σ []) (hR : hxs t (n - (a + 1)) (a + 1) 99 false [] = R) (h : ∀ τ, TM σ0 τ 5 a (R.1 + 1) (if R.2.1 = true then 1 else if R.2.2.1 = true then 3 else 0) R.2.2.2 → Q none τ) : P_X8_lookHex [.ref 7] σ Q X := by
  have h2 := hT.2.1
  refine ⟨rfl, fun I hI => run_in (stop := fun pc => Nat.beq pc 14) hI 20 ?_⟩
  have := lp_lookHex h hI (n - (a + 1)) (a + 1) 99 false [] none (sM σ 7 22 5) (by omega) (by simp) (Or.inl rfl) (fun z => absurd rfl z) hR ⟨hT.m (by decide), hF.s (Or.inl ⟨rfl, by omega, by omega⟩), sM_s, (sM_o (by simp)).trans e3⟩ (hx.m (by decide)) ((sM_o (by simp)).trans e5)
  rw [nI_succ a, ← e3] at this
  exact this
theorem lp_lookName {a e : Nat} {R : Bool × List Nat} (hT0 : ∀ k, k < n → t k < 256) (hen : e ≤ n) (he : ∀ i, a < i → i < e → rg (t i) = true) (hend : rg (tg n t e) = false) (h : ∀ τ, TM σ0 τ 6 a e (if R.1 = true ∨ 127 < R.2.length then 4 else 0) R.2 → Q none τ) {I : Jt} (hI : Cl (FM (cutN 142 t_X8_lookName) e_X8_lookName xn0 0 sws0 false Q X) I) :
    ∀ m k z l z2 z3 z4 (σ : Sg), e ≤ k + m → k ≤ e → a < k → l.length < k → nam n t e m k z l = R → LM σ0 σ n t 6 a → TxM σ l → σ.1 7 25 = (if z = true ∨ 127 < l.length then -4 else 0) →
      I 0 13 [some (.ref 7), some (.int (nI k)), z2, z3, z4] [] σ := by
  have ended : ∀ k z l z2 z3 z4 (σ : Sg), k = e → l.length < k → R = (z, l) → LM σ0 σ n t 6 a → TxM σ l → σ.1 7 25 = (if z = true ∨ 127 < l.length then -4 else 0) →
      I 0 13 [some (.ref 7), some (.int (nI k)), z2, z3, z4] [] σ := by
    intro k z l z2 z3 z4 σ hk hl hR hL hx e5
    have h2 := hL.1.2.1
    have hb := tg_c (σ := σ) hL.1.2.2.2
    refine run_in (stop := fun pc => Nat.beq pc 13) hI 40 ?_
    refine ⟨Nat.le_refl _, sp_X8_at hL.1 (by omega) (fun r hr => ?_)⟩
    subst hr
    refine ⟨Nat.le_refl _, sp_X8_isRegular (hb _) (fun r hr => ?_)⟩
    subst hr
    rw [hk, hend]
    refine And.intro (fun g => ?_) (fun g => absurd rfl g)
    obtain ⟨q1, q2, q3, q4⟩ := hL.m (k := 24) (v := nI e) (by simp)
    refine h _ ⟨q2, q3, q4, sM_s, ?_, by rw [hR]; exact hx.m (by decide)⟩
    rw [sM_o (by simp), e5, hR]
    split <;> rfl
  intro m
  induction m with
  | zero =>
    intro k z l z2 z3 z4 σ hm hke hak hl hR hL hx e5
    exact ended k z l z2 z3 z4 σ (by omega) hl (by rw [← hR]; rfl) hL hx e5
  | succ m ih =>
    intro k z l z2 z3 z4 σ hm hke hak hl hR hL hx e5
    by_cases hk : e ≤ k
    · exact ended k z l z2 z3 z4 σ (by omega) hl (by rw [← hR]; simp [nam, hk]) hL hx e5
    have h2 := hL.1.2.1
    have hT := hL.1
    have hb := tg_c (σ := σ) hT.2.2.2
    have hg0 : tg n t k < 256 := by rw [tg_lt (by omega)]; exact hT0 k (by omega)
    have hrg : rg (tg n t k) = true := by rw [tg_lt (by omega)]; exact he k (by omega) (by omega)
    obtain ⟨b1, b2, b3⟩ := nmb_b hT0 (fun i h1 h2 => he i (by omega) h2) hend hen (show k < e by omega)
    have go : ∀ (c : Nat) (hi lo : Int32), c = (nmb n t k).2 → (0 ≤ lo ∧ (nmb n t k).1 = 3 ∨ lo < 0 ∧ (nmb n t k).1 = 1) → I 0 86 [some (.ref 7), some (.int (nI k)), some (.int hi), some (.int lo), z4] [.int (nI c)] σ := by
      intro c hi lo hc hlo
      have tl : ∀ τ (w : Int32), TxM τ (l ++ [c]) → LM σ0 τ n t 6 a → τ.1 7 25 = (if (z || decide (c = 0)) = true ∨ 127 < (l ++ [c]).length then -4 else 0) → I 0 121 [some (.ref 7), some (.int (nI k)), some (.int hi), some (.int lo), some (.int (nI c))] [] τ := by
        intro τ w hx2 hL2 e5
        have fin : ∀ j, (nmb n t k).1 = j → I 0 13 [some (.ref 7), some (.int (nI k + nI j)), some (.int hi), some (.int lo), some (.int (nI c))] [] τ := by
          intro j hj
          rw [nI_add]
          exact ih (k + j) (z || decide (c = 0)) (l ++ [c]) _ _ _ τ (by omega) (by omega) (by omega) (by simp; omega) (by rw [← hR, hc, ← hj]; simp [nam, hk]) hL2 hx2 e5
        refine run_in (stop := fun pc => Nat.beq pc 13) hI 30 ?_
        rcases hlo with ⟨q1, q2⟩ | ⟨q1, q2⟩
        · exact And.intro (fun g => absurd g (Int32.not_lt.mpr q1)) (fun _ => fin 3 q2)
        · exact And.intro (fun _ => fin 1 q2) (fun g => absurd q1 g)
      refine run_in (stop := fun pc => Nat.beq pc 121) hI 30 ?_
      refine ⟨Nat.le_refl _, sp_X8_text hx (by omega) (by rw [hc]; exact b3) (fun τ h1 h2 => ?_)⟩
      have hL2 := hL.tx h2
      have e5' : τ.1 7 25 = (if z = true ∨ 127 < l.length then -4 else 0) := (tx7 h2 (by decide)).trans e5
      refine pk_eq c 0 (fun g => ?_) (fun g => ?_) rfl rfl
      · exact tl _ 0 (h1.m (by decide)) (hL2.m (by simp)) (by rw [sM_s]; simp [g])
      · refine pk_le (l ++ [c]).length 127 (fun g2 => ?_) (fun g2 => ?_) h1.1 rfl (by simp; omega)
        · refine tl _ 0 (h1.m (by decide)) (hL2.m (by simp)) ?_
          rw [sM_s, e5']
          simp at g2
          simp [g, show ¬ 127 < l.length by omega, show ¬ 127 < l.length + 1 by omega]
        · refine tl _ 0 (h1.m (by decide)) (hL2.m (by simp)) ?_
          rw [sM_s, if_pos (Or.inr g2)]
    refine run_in (stop := fun pc => Nat.beq pc 13 || Nat.beq pc 86) hI 80 ?_
    refine ⟨Nat.le_refl _, sp_X8_at hT (by omega) (fun r hr => ?_)⟩
    subst hr
    refine ⟨Nat.le_refl _, sp_X8_isRegular (hb _) (fun r hr => ?_)⟩
    subst hr
    rw [hrg]
    refine And.intro (fun g => absurd g (by decide)) (fun _ => ?_)
    refine ⟨Nat.le_refl _, sp_X8_at hT (by omega) (fun r hr => ?_)⟩
    subst hr
    have one : ∀ hi : Int32, ¬ (tg n t k = 35 ∧ hv (tg n t (k + 1)) ≠ 99 ∧ hv (tg n t (k + 2)) ≠ 99) → P_X8_at [.ref 7, .int (nI k)] σ (fun v τ => ∃ r, v = some (.int r) ∧ I 0 86 [some (.ref 7), some (.int (nI k)), some (.int hi), some (.int (-1)), z4] [.int r] τ) X := by
      intro hi hne
      refine sp_X8_at hT (by omega) (fun r hr => ⟨r, rfl, ?_⟩)
      subst hr
      rw [vI_lt hg0]
      exact go _ hi (-1) (by unfold nmb; rw [if_neg hne]) (Or.inr ⟨by decide, by unfold nmb; rw [if_neg hne]⟩)
    have one' : ∀ hi : Int32, ¬ (tg n t k = 35 ∧ hv (tg n t (k + 1)) ≠ 99 ∧ hv (tg n t (k + 2)) ≠ 99) → I 0 86 [some (.ref 7), some (.int (nI k)), some (.int hi), some (.int (-1)), z4] [.int (vI (tg n t k))] σ := by
      intro hi hne
      rw [vI_lt hg0]
      exact go _ hi (-1) (by unfold nmb; rw [if_neg hne]) (Or.inr ⟨by decide, by unfold nmb; rw [if_neg hne]⟩)
    refine And.intro (fun g => ?_) (fun g => ?_)
    · have g35 : ¬ tg n t k = 35 := fun e => g ((vI_eq (hb k) (by decide)).mpr e)
      refine And.intro (fun _ => ?_) (fun g => absurd (by decide) g)
      refine And.intro (fun _ => ?_) (fun g => absurd (by decide) g)
      refine ⟨Nat.le_refl _, sp_X8_at hT (by omega) (fun r hr => ?_)⟩
      subst hr
      exact one' _ (fun z => g35 z.1)
    · have g35 : tg n t k = 35 := (vI_eq (c := 35) (hb k) (by decide)).mp g
      refine ⟨Nat.le_refl _, ?_⟩
      show P_X8_at [.ref 7, .int (nI k + 1)] _ _ _
      rw [show nI k + 1 = nI (k + 1) from (nI_succ k).symm]
      refine sp_X8_at hT (by omega) (fun r hr => ?_)
      subst hr
      refine ⟨Nat.le_refl _, sp_X8_hex (hb _) (fun r hr => ?_)⟩
      subst hr
      by_cases h1 : hv (tg n t (k + 1)) = 99
      · rw [h1]
        refine And.intro (fun _ => ?_) (fun g => absurd (by decide) g)
        refine And.intro (fun _ => ?_) (fun g => absurd (by decide) g)
        refine ⟨Nat.le_refl _, sp_X8_at hT (by omega) (fun r hr => ?_)⟩
        subst hr
        exact one' _ (fun z => z.2.1 h1)
      · have q1 := (hv_rg _ (hb (k + 1)) h1).2
        rw [wI_ne h1]
        refine And.intro (fun g => absurd g (nI_pos (by omega))) (fun _ => ?_)
        refine ⟨Nat.le_refl _, ?_⟩
        show P_X8_at [.ref 7, .int (nI k + 2)] _ _ _
        rw [show nI k + 2 = nI (k + 2) from nI_add k 2]
        refine sp_X8_at hT (by omega) (fun r hr => ?_)
        subst hr
        refine ⟨Nat.le_refl _, sp_X8_hex (hb _) (fun r hr => ?_)⟩
        subst hr
        by_cases h2 : hv (tg n t (k + 2)) = 99
        · rw [h2]
          refine And.intro (fun _ => ?_) (fun g => absurd (by decide) g)
          refine ⟨Nat.le_refl _, sp_X8_at hT (by omega) (fun r hr => ?_)⟩
          subst hr
          exact one' _ (fun z => z.2.2 h2)
        · have q2 := (hv_rg _ (hb (k + 2)) h2).2
          rw [wI_ne h2]
          refine And.intro (fun g => absurd g (nI_pos (by omega))) (fun _ => ?_)
          have := go (16 * hv (tg n t (k + 1)) + hv (tg n t (k + 2))) (nI (hv (tg n t (k + 1)))) (nI (hv (tg n t (k + 2)))) (by unfold nmb; rw [if_pos ⟨g35, h1, h2⟩]) (Or.inl ⟨nI_pos0 (by omega), by unfold nmb; rw [if_pos ⟨g35, h1, h2⟩]⟩)
          have hE : (16 : Int32) * nI (hv (tg n t (k + 1))) + nI (hv (tg n t (k + 2))) = nI (16 * hv (tg n t (k + 1)) + hv (tg n t (k + 2))) := by
            rw [show (16 : Int32) = nI 16 from rfl, nI_mul, nI_add]
          rw [← hE] at this
          exact this
theorem sp_X8_lookName {σ : Sg} {a : Nat} {R : Bool × List Nat} (hT : TapeM σ n t) (hF : Fr lkP σ0 σ) (e3 : σ.1 7 23 = nI a) (e5 : σ.1 7 25 = 0) (ha : a < n) (hx : TxM σ []) (hR : nam n t (WD n t (a + 1)) n (a + 1) false [] = R) (h : ∀ τ, TM σ0 τ 6 a (WD n t (a + 1)) (if R.1 = true ∨ 127 < R.2.length then 4 else 0) R.2 → Q none τ) : P_X8_lookName [.ref 7] σ Q X := by
  have h2 := hT.2.1
  have hW := WD_b (n := n) (t := t) (k := a + 1) (by omega)
  refine ⟨rfl, fun I hI => run_in (stop := fun pc => Nat.beq pc 13) hI 20 ?_⟩
  have := lp_lookName hT.2.2.2 hW.2 (fun i h1 h2 => WD_all (by omega) h2) (WD_end (by omega)) h hI n (a + 1) false [] none none none (sM σ 7 22 6) (by omega) hW.1 (by omega) (by simp) hR ⟨hT.m (by decide), hF.s (Or.inl ⟨rfl, by omega, by omega⟩), sM_s, (sM_o (by simp)).trans e3⟩ (hx.m (by decide)) ((sM_o (by simp)).trans e5)
  rw [nI_succ a, ← e3] at this
  exact this
theorem lp_lookWord {a : Nat} (hT0 : ∀ k, k < n → t k < 256) (ha : a ≤ n) (h : ∀ τ, TM σ0 τ 7 a (WD n t a) 0 (sb t (WD n t a - a) a) → Q none τ) {I : Jt} (hI : Cl (FM (cutN 43 t_X8_lookWord) e_X8_lookWord xn0 0 sws0 false Q X) I) :
    ∀ m k l (σ : Sg), WD n t a = k + m → a ≤ k → l.length = k - a → l ++ sb t m k = sb t (WD n t a - a) a → LM σ0 σ n t 7 a → TxM σ l → σ.1 7 25 = 0 →
      I 0 11 [some (.ref 7), some (.int (nI k))] [] σ := by
  have hW := WD_b (n := n) (t := t) ha
  intro m
  induction m with
  | zero =>
    intro k l σ hm hak hl hR hL hx e5
    have h2 := hL.1.2.1
    have hb := tg_c (σ := σ) hL.1.2.2.2
    refine run_in (stop := fun pc => Nat.beq pc 11) hI 40 ?_
    refine ⟨Nat.le_refl _, sp_X8_at hL.1 (by omega) (fun r hr => ?_)⟩
    subst hr
    refine ⟨Nat.le_refl _, sp_X8_isRegular (hb _) (fun r hr => ?_)⟩
    subst hr
    have hk : k = WD n t a := by omega
    rw [hk, WD_end ha]
    refine And.intro (fun g => ?_) (fun g => absurd rfl g)
    obtain ⟨q1, q2, q3, q4⟩ := hL.m (k := 24) (v := nI (WD n t a)) (by simp)
    refine h _ ⟨q2, q3, q4, sM_s, (sM_o (by simp)).trans e5, ?_⟩
    rw [← hR]
    simp only [sb, List.append_nil]
    exact hx.m (by decide)
  | succ m ih =>
    intro k l σ hm hak hl hR hL hx e5
    have h2 := hL.1.2.1
    have hT := hL.1
    have hb := tg_c (σ := σ) hL.1.2.2.2
    have hrg : rg (tg n t k) = true := by rw [tg_lt (by omega)]; exact WD_all (n := n) hak (by omega)
    refine run_in (stop := fun pc => Nat.beq pc 11) hI 40 ?_
    refine ⟨Nat.le_refl _, sp_X8_at hT (by omega) (fun r hr => ?_)⟩
    subst hr
    refine ⟨Nat.le_refl _, sp_X8_isRegular (hb _) (fun r hr => ?_)⟩
    subst hr
    rw [hrg]
    refine And.intro (fun g => absurd g (by decide)) (fun _ => ?_)
    refine ⟨Nat.le_refl _, sp_X8_at hT (by omega) (fun r hr => ?_)⟩
    subst hr
    rw [tg_lt (by omega), vI_lt (hT0 k (by omega))]
    refine ⟨Nat.le_refl _, sp_X8_text hx (by omega) (hT0 k (by omega)) (fun τ h1 h2 => ?_)⟩
    have := ih (k + 1) (l ++ [t k]) τ (by omega) (by omega) (by simp; omega) (by rw [← hR]; simp [sb]) (hL.tx h2) h1 ((tx7 h2 (by decide)).trans e5)
    rw [nI_succ] at this
    exact this
theorem sp_X8_lookWord {σ : Sg} {a : Nat} (hT : TapeM σ n t) (hF : Fr lkP σ0 σ) (e3 : σ.1 7 23 = nI a) (e5 : σ.1 7 25 = 0) (ha : a ≤ n) (hx : TxM σ []) (h : ∀ τ, TM σ0 τ 7 a (WD n t a) 0 (sb t (WD n t a - a) a) → Q none τ) : P_X8_lookWord [.ref 7] σ Q X := by
  have h2 := hT.2.1
  have hW := WD_b (n := n) (t := t) ha
  refine ⟨rfl, fun I hI => run_in (stop := fun pc => Nat.beq pc 11) hI 20 ?_⟩
  have := lp_lookWord hT.2.2.2 ha h hI (WD n t a - a) a [] (sM σ 7 22 7) (by omega) (by omega) (by simp) (by simp) ⟨hT.m (by decide), hF.s (Or.inl ⟨rfl, by omega, by omega⟩), sM_s, (sM_o (by simp)).trans e3⟩ (hx.m (by decide)) ((sM_o (by simp)).trans e5)
  rw [← e3] at this
  exact this
/-- the text of a token, in the model -/
def LKt (n : Nat) (t : Nat → Nat) (a : Nat) : List Nat := if (LKs n t a).1 = 7 then sb t (WD n t a - a) a else (LKs n t a).2.2.2
def LKw (n : Nat) (t : Nat → Nat) (a : Nat) : Nat := if (LKs n t a).1 = 0 then 0 else (LKs n t a).2.2.1
theorem one_TM {σ : Sg} {s j a : Nat} (hL : TapeM σ n t ∧ Fr lkP σ0 σ) (e3 : σ.1 7 23 = nI a) (e5 : σ.1 7 25 = 0) (hx : TxM σ []) (h : ∀ τ, TM σ0 τ s a (a + j) 0 [] → Q none τ) : P_X8_one [.ref 7, .int (nI s), .int (nI j)] σ Q X := by
  refine sp_X8_one e3 (h _ ⟨(hL.2.s (Or.inl ⟨rfl, by omega, by omega⟩)).s (Or.inl ⟨rfl, by omega, by omega⟩), (sM_o (by simp)).trans sM_s, ((sM_o (by simp)).trans (sM_o (by simp))).trans e3, sM_s, ((sM_o (by simp)).trans (sM_o (by simp))).trans e5, (hx.m (by decide)).m (by decide)⟩)
theorem sp_X8_look {σ : Sg} {k : Nat} (hT : TapeM σ n t) (hk : k ≤ n) (h : ∀ τ, TM σ τ (LKs n t (SK n t k)).1 (SK n t k) (LKs n t (SK n t k)).2.1 (LKw n t (SK n t k)) (LKt n t (SK n t k)) → Q none τ) : P_X8_look [.ref 7, .int (nI k)] σ Q X := by
  have h2 := hT.2.1
  have hb := tg_c (σ := σ) hT.2.2.2
  have ha := (SK_b (n := n) (t := t) hk).2
  refine ⟨rfl, fun I hI => run_in (stop := fun pc => Nat.beq pc 101 || Nat.beq pc 131) hI 60 ?_⟩
  refine ⟨Nat.le_refl _, sp_X8_skip hT hk (fun r hr => ?_)⟩
  subst hr
  generalize SK n t k = a at h ha ⊢
  have hT1 : TapeM (sM (sM (sM σ 7 23 (nI a)) 7 25 0) 7 26 0) n t := ((hT.m (by decide)).m (by decide)).m (by decide)
  have hF1 : Fr lkP σ (sM (sM (sM σ 7 23 (nI a)) 7 25 0) 7 26 0) := ((Fr.rf.s (Or.inl ⟨rfl, by omega, by omega⟩)).s (Or.inl ⟨rfl, by omega, by omega⟩)).s (Or.inl ⟨rfl, by omega, by omega⟩)
  have e3 : (sM (sM (sM σ 7 23 (nI a)) 7 25 0) 7 26 0).1 7 23 = nI a := ((sM_o (by simp)).trans (sM_o (by simp))).trans sM_s
  have e5 : (sM (sM (sM σ 7 23 (nI a)) 7 25 0) 7 26 0).1 7 25 = 0 := (sM_o (by simp)).trans sM_s
  have hx1 : TxM (sM (sM (sM σ 7 23 (nI a)) 7 25 0) 7 26 0) [] := ⟨sM_s, by simp, fun i hi => absurd hi (by simp), fun i hi => absurd hi (by simp)⟩
  refine ⟨Nat.le_refl _, ?_⟩
  show P_X8_at [.ref 7, .int ((sM (sM (sM σ 7 23 (nI a)) 7 25 0) 7 26 0).1 7 23)] (sM (sM (sM σ 7 23 (nI a)) 7 25 0) 7 26 0) _ _
  generalize sM (sM (sM σ 7 23 (nI a)) 7 25 0) 7 26 0 = σ1 at hT1 hF1 e3 e5 hx1 ⊢
  have hq : ∀ {s j}, LKs n t a = (s, a + j, 0, []) → s ≠ 7 → ∀ τ, TM σ τ s a (a + j) 0 [] → Q none τ := by
    intro s j hL hs τ hτ
    refine h τ ?_
    rw [LKw, LKt, hL]
    simp only [hs, if_false, ite_self]
    exact hτ
  have hv9 : ∀ c, c < 256 → ¬ vI (tg n t a) = nI c → ¬ tg n t a = c := fun c hc g e => g ((vI_eq (hb a) hc).mpr e)
  have hv8 : ∀ c, c < 256 → vI (tg n t a) = nI c → tg n t a = c := fun c hc g => (vI_eq (hb a) hc).mp g
  have tail : tg n t a ≠ 256 → tg n t a ≠ 91 → tg n t a ≠ 93 → ¬ (tg n t a = 60 ∧ tg n t (a + 1) = 60) → ¬ (tg n t a = 62 ∧ tg n t (a + 1) = 62) → I 0 131 [some (.ref 7), some (.int (nI k)), some (.int (vI (tg n t a)))] [] σ1 := by
    intro g0 g5 g6 g7 g8
    have han : a < n := by
      by_cases q : a < n
      · exact q
      · exact absurd (tg_ge (by omega)) g0
    refine run_in (stop := fun _ => false) hI 60 ?_
    refine And.intro (fun g1 => ?_) (fun g => ?_)
    · have g1 := hv9 40 (by decide) g1
      refine And.intro (fun g2 => ?_) (fun g => ?_)
      · have g2 := hv9 60 (by decide) g2
        refine And.intro (fun g3 => ?_) (fun g => ?_)
        · have g3 := hv9 47 (by decide) g3
          refine ⟨Nat.le_refl _, sp_X8_isRegular (hb _) (fun r hr => ?_)⟩
          subst hr
          refine And.intro (fun g => ?_) (fun g => ?_)
          · have e := bIf g
            by_cases g62 : tg n t a = 62
            · have g62' : ¬ tg n t (a + 1) = 62 := fun z => g8 ⟨g62, z⟩
              have hL : LKs n t a = (8, a + 1, 0, []) := by simp [LKs, g62, g62']
              exact ⟨Nat.le_refl _, one_TM (s := 8) (j := 1) ⟨hT1, hF1⟩ e3 e5 hx1 (hq hL (by decide))⟩
            · have hL : LKs n t a = (8, a + 1, 0, []) := by simp [LKs, g0, g1, g2, g3, g5, g6, g62, e]
              exact ⟨Nat.le_refl _, one_TM (s := 8) (j := 1) ⟨hT1, hF1⟩ e3 e5 hx1 (hq hL (by decide))⟩
          · have e := bIt g
            have g62 : ¬ tg n t a = 62 := fun z => by rw [z] at e; cases e
            have hL : LKs n t a = (7, WD n t a, 0, []) := by simp [LKs, g0, g1, g2, g3, g5, g6, g62, e]
            refine ⟨Nat.le_refl _, sp_X8_lookWord hT1 hF1 e3 e5 ha hx1 (fun τ hτ => h τ ?_)⟩
            rw [LKw, LKt, hL]
            exact hτ
        · have g := hv8 47 (by decide) g
          refine ⟨Nat.le_refl _, sp_X8_lookName hT1 hF1 e3 e5 han hx1 rfl (fun τ hτ => h τ ?_)⟩
          simp only [LKw, LKt, LKs, g]
          exact hτ
      · have g := hv8 60 (by decide) g
        have g4 : ¬ tg n t (a + 1) = 60 := fun z => g7 ⟨g, z⟩
        refine ⟨Nat.le_refl _, sp_X8_lookHex hT1 hF1 e3 e5 han hx1 rfl (fun τ hτ => h τ ?_)⟩
        have hL : (LKs n t a) = (5, (hxs t (n - (a + 1)) (a + 1) 99 false []).1 + 1, (if (hxs t (n - (a + 1)) (a + 1) 99 false []).2.1 = true then 1 else if (hxs t (n - (a + 1)) (a + 1) 99 false []).2.2.1 = true then 3 else 0), (hxs t (n - (a + 1)) (a + 1) 99 false []).2.2.2) := by
          simp only [LKs, g]
          simp only [show ¬ (60 : Nat) = 256 by decide, show ¬ (60 : Nat) = 91 by decide, show ¬ (60 : Nat) = 93 by decide, g4, if_true, if_false]
        rw [LKw, LKt, hL]
        exact hτ
    · have g := hv8 40 (by decide) g
      refine ⟨Nat.le_refl _, sp_X8_lookString hT1 hF1 e3 han hx1 rfl (fun τ hτ => h τ ?_)⟩
      simp only [LKw, LKt, LKs, g]
      exact hτ
  have mid : tg n t a ≠ 256 → tg n t a ≠ 91 → tg n t a ≠ 93 → ¬ (tg n t a = 60 ∧ tg n t (a + 1) = 60) → I 0 101 [some (.ref 7), some (.int (nI k)), some (.int (vI (tg n t a)))] [] σ1 := by
    intro g0 g5 g6 g7
    refine run_in (stop := fun pc => Nat.beq pc 131) hI 60 ?_
    refine And.intro (fun g => ?_) (fun g => ?_)
    · have g := hv9 62 (by decide) g
      exact tail g0 g5 g6 g7 (fun z => g z.1)
    · have g := hv8 62 (by decide) g
      refine ⟨Nat.le_refl _, ?_⟩
      show P_X8_at [.ref 7, .int (σ1.1 7 23 + 1)] _ _ _
      rw [e3, show nI a + 1 = nI (a + 1) from (nI_succ a).symm]
      refine sp_X8_at hT1 (by omega) (fun r hr => ?_)
      subst hr
      refine And.intro (fun g2 => ?_) (fun g2 => ?_)
      · have g2 : ¬ tg n t (a + 1) = 62 := fun e => g2 ((vI_eq (hb (a + 1)) (by decide)).mpr e)
        exact tail g0 g5 g6 g7 (fun z => g2 z.2)
      · have g2 : tg n t (a + 1) = 62 := (vI_eq (c := 62) (hb (a + 1)) (by decide)).mp g2
        have hL : LKs n t a = (4, a + 2, 0, []) := by simp [LKs, g, g2]
        exact ⟨Nat.le_refl _, one_TM (s := 4) (j := 2) ⟨hT1, hF1⟩ e3 e5 hx1 (hq hL (by decide))⟩
  rw [e3]
  refine sp_X8_at hT1 (by omega) (fun r hr => ?_)
  subst hr
  by_cases g0 : tg n t a = 256
  · have hL : LKs n t a = (0, a, 1, []) := by simp [LKs, g0]
    rw [g0]
    refine And.intro (fun g => absurd g (by decide)) (fun _ => ?_)
    refine ⟨Nat.le_refl _, one_TM (s := 0) (j := 0) ⟨hT1, hF1⟩ e3 e5 hx1 (fun τ hτ => h τ ?_)⟩
    rw [LKw, LKt, hL]
    exact hτ
  have hb' : tg n t a < 256 := by have := hb a; omega
  refine And.intro (fun _ => ?_) (fun g => absurd (by rw [vI_lt hb']; exact nI_pos0 (by omega)) g)
  refine And.intro (fun g5 => ?_) (fun g => ?_)
  · have g5 := hv9 91 (by decide) g5
    refine And.intro (fun g6 => ?_) (fun g => ?_)
    · have g6 := hv9 93 (by decide) g6
      refine And.intro (fun g => ?_) (fun g => ?_)
      · have g := hv9 60 (by decide) g
        exact mid g0 g5 g6 (fun z => g z.1)
      · have g := hv8 60 (by decide) g
        refine ⟨Nat.le_refl _, ?_⟩
        show P_X8_at [.ref 7, .int (σ1.1 7 23 + 1)] _ _ _
        rw [e3, show nI a + 1 = nI (a + 1) from (nI_succ a).symm]
        refine sp_X8_at hT1 (by omega) (fun r hr => ?_)
        subst hr
        refine And.intro (fun g2 => ?_) (fun g2 => ?_)
        · have g2 : ¬ tg n t (a + 1) = 60 := fun e => g2 ((vI_eq (hb (a + 1)) (by decide)).mpr e)
          exact mid g0 g5 g6 (fun z => g2 z.2)
        · have g2 : tg n t (a + 1) = 60 := (vI_eq (c := 60) (hb (a + 1)) (by decide)).mp g2
          have hL : LKs n t a = (3, a + 2, 0, []) := by simp [LKs, g, g2]
          exact ⟨Nat.le_refl _, one_TM (s := 3) (j := 2) ⟨hT1, hF1⟩ e3 e5 hx1 (hq hL (by decide))⟩
    · have g := hv8 93 (by decide) g
      have hL : LKs n t a = (2, a + 1, 0, []) := by simp [LKs, g]
      exact ⟨Nat.le_refl _, one_TM (s := 2) (j := 1) ⟨hT1, hF1⟩ e3 e5 hx1 (hq hL (by decide))⟩
  · have g := hv8 91 (by decide) g
    have hL : LKs n t a = (1, a + 1, 0, []) := by simp [LKs, g]
    exact ⟨Nat.le_refl _, one_TM (s := 1) (j := 1) ⟨hT1, hF1⟩ e3 e5 hx1 (hq hL (by decide))⟩
end ML2
