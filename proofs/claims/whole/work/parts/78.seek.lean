/-! ===== PURE: seek ===== -/
section SKK
variable {σ : Sg} {Q : Po} {X : Xo} {n u : Nat} {t : Nat → Nat}
theorem sp_X4_clearDraft (h : Q none (sM σ 2 10 0)) : P_X4_clearDraft [.ref 2] σ Q X := ⟨rfl, fun I hI => run_in (stop := fun _ => false) hI 10 h⟩
theorem mx0 {L : Nat} (h : L < 2 ^ 31) : (if (1 : Int32) < nI L then nI L else 1) = nI (if L = 0 then 1 else L) := by
  by_cases e : L = 0
  · subst e
    rw [if_neg (by decide), if_pos rfl]
    rfl
  · rw [if_neg e]
    by_cases e1 : L = 1
    · subst e1; rw [if_neg (by decide)]; rfl
    · rw [if_pos (show (1 : Int32) < nI L from nI_lt (a := 1) (by omega) h)]
theorem WD_pos {a : Nat} (ha : a < n) : (rg (t a) = true → a < WD n t a) ∧ (rg (t a) = false → WD n t a = a) := by
  obtain ⟨m, hm⟩ : ∃ m, n - a = m + 1 := ⟨n - a - 1, by omega⟩
  unfold WD
  rw [hm]
  constructor
  · intro h
    rw [wd_step h]
    have := wd_ge t m (a + 1)
    omega
  · intro h
    simp [wd, h]
theorem sp_X6_seek {k : Nat} (hT : TapeC σ n t) (hu : σ.1 2 8 = nI u) (hu2 : u ≤ 32768) (hk : k ≤ n) (h : ∀ τ, TP σ τ n t u (LKs n t (SK n t k)).1 (SK n t k) (LKs n t (SK n t k)).2.1 (LKs n t (SK n t k)).2.2.1 (LKs n t (SK n t k)).2.2.2 → Q none τ) : P_X6_seek [.ref 4, .int (nI k)] σ Q X := by
  have h2 := hT.2.1
  have hb := tg_c (σ := σ) hT.2.2.2
  have ha := (SK_b (n := n) (t := t) hk).2
  refine ⟨rfl, fun I hI => run_in (stop := fun pc => Nat.beq pc 57) hI 60 ?_⟩
  refine ⟨Nat.le_refl _, sp_X5_pastBlanks hT hk (fun r hr => ?_)⟩
  subst hr
  generalize SK n t k = a at h ha ⊢
  refine ⟨Nat.le_refl _, sp_X4_clearDraft ?_⟩
  have hS1 : SC (sM (sM (sM σ 4 3 (nI a)) 4 5 0) 2 10 0) n t u [] := ⟨hT.fr (((sM_o (by simp)).trans (sM_o (by simp))).trans (sM_o (by simp))) (fun k => ((sM_o (by simp)).trans (sM_o (by simp))).trans (sM_o (by simp))), (((sM_o (by simp)).trans (sM_o (by simp))).trans (sM_o (by simp))).trans hu, hu2, sM_s, fun i hi => absurd hi (by simp)⟩
  have hF1 : Fr (tkP u) σ (sM (sM (sM σ 4 3 (nI a)) 4 5 0) 2 10 0) := ((Fr.rf.s (Or.inl rfl)).s (Or.inl rfl)).s (Or.inr (Or.inl ⟨rfl, rfl⟩))
  have e3 : (sM (sM (sM σ 4 3 (nI a)) 4 5 0) 2 10 0).1 4 3 = nI a := ((sM_o (by simp)).trans (sM_o (by simp))).trans sM_s
  have e5 : (sM (sM (sM σ 4 3 (nI a)) 4 5 0) 2 10 0).1 4 5 = 0 := (sM_o (by simp)).trans sM_s
  generalize sM (sM (sM σ 4 3 (nI a)) 4 5 0) 2 10 0 = σ1 at hS1 hF1 e3 e5 ⊢
  have main : ∀ tw : Bool, tw = decide (tg n t a = tg n t (a + 1)) → I 0 57 [some (.ref 4), some (.int (nI k)), some (.int (bI tw)), none] [] σ1 := by
    intro tw htw
    refine run_in (stop := fun _ => false) hI 60 ?_
    refine ⟨Nat.le_refl _, ?_⟩
    show P_X5_get [.ref 1, .int (σ1.1 4 3)] _ _ _
    rw [e3]
    refine sp_X5_get hS1.1 (by omega) (fun r hr => ?_)
    subst hr
    have hv9 : ∀ c, c < 256 → ¬ vI (tg n t a) = nI c → ¬ tg n t a = c := fun c hc g e => g ((vI_eq (hb a) hc).mpr e)
    have hv8 : ∀ c, c < 256 → vI (tg n t a) = nI c → tg n t a = c := fun c hc g => (vI_eq (hb a) hc).mp g
    refine And.intro (fun g => ?_) (fun g0 => ?_)
    · have g := vI_inj _ (hb a) 256 (by decide) g
      have hL : LKs n t a = (0, a, 1, []) := by simp [LKs, g]
      rw [hL] at h
      refine ⟨Nat.le_refl _, sp_X6_become (s := 0) (j := 0) hF1 hS1 e3 e5 (fun τ hτ => ?_)⟩
      obtain ⟨q1, q2, q3, -, -⟩ := hτ
      exact h _ ⟨q1.s (Or.inl rfl), (sM_o (by simp)).trans q2, (sM_o (by simp)).trans q3, sM_s, fun z => by cases z⟩
    have g0' : ¬ tg n t a = 256 := fun e => g0 (by rw [e]; rfl)
    have han : a < n := by
      by_cases q : a < n
      · exact q
      · exact absurd (tg_ge (by omega)) g0'
    refine And.intro (fun g => ?_) (fun g1 => ?_)
    · have g := hv8 40 (by decide) g
      refine ⟨Nat.le_refl _, sp_X6_seekLiteral hS1 hF1 han (by rw [← tg_lt (t := t) han]; exact g) e3 e5 rfl (fun τ hτ => h τ ?_)⟩
      simp only [LKs, g]
      exact hτ
    have g1 := hv9 40 (by decide) g1
    refine And.intro (fun g => ?_) (fun g2 => ?_)
    · have g := hv8 47 (by decide) g
      refine ⟨Nat.le_refl _, sp_X6_seekName hS1 hF1 han e3 e5 rfl (fun τ hτ => h τ ?_)⟩
      simp only [LKs, g]
      exact hτ
    have g2 := hv9 47 (by decide) g2
    refine And.intro (fun g => ?_) (fun g3 => ?_)
    · have g := hv8 60 (by decide) g
      refine And.intro (fun g4 => ?_) (fun g4 => ?_)
      · have g4 : ¬ tg n t (a + 1) = 60 := by
          have := bIf g4
          rw [htw, g] at this
          exact fun e => by rw [e] at this; cases this
        refine ⟨Nat.le_refl _, sp_X6_seekHex hS1 hF1 han e3 e5 rfl (fun τ hτ => h τ ?_)⟩
        simp only [LKs, g]
        simp only [show ¬ (60 : Nat) = 256 by decide, show ¬ (60 : Nat) = 91 by decide, show ¬ (60 : Nat) = 93 by decide, g4, if_true, if_false]
        exact hτ
      · have g4 : tg n t (a + 1) = 60 := by
          have := bIt g4
          rw [htw, g] at this
          exact (of_decide_eq_true this).symm
        have hL : LKs n t a = (3, a + 2, 0, []) := by simp [LKs, g, g4]
        rw [hL] at h
        exact ⟨Nat.le_refl _, sp_X6_become (s := 3) (j := 2) hF1 hS1 e3 e5 h⟩
    have g3 := hv9 60 (by decide) g3
    refine And.intro (fun g => ?_) (fun g4 => ?_)
    · have g := hv8 62 (by decide) g
      refine And.intro (fun g4 => ?_) (fun g4 => ?_)
      · have e4 : ¬ tg n t (a + 1) = 62 := by
          have := bIf g4
          rw [htw, g] at this
          exact fun e => by rw [e] at this; cases this
        refine And.intro (fun g5 => ?_) (fun g5 => absurd g4 g5)
        have hL : LKs n t a = (8, a + 1, 0, []) := by simp [LKs, g, e4]
        rw [hL] at h
        exact ⟨Nat.le_refl _, sp_X6_become (s := 8) (j := 1) hF1 hS1 e3 e5 h⟩
      · have e4 : tg n t (a + 1) = 62 := by
          have := bIt g4
          rw [htw, g] at this
          exact (of_decide_eq_true this).symm
        refine And.intro (fun g5 => absurd g5 g4) (fun g5 => ?_)
        have hL : LKs n t a = (4, a + 2, 0, []) := by simp [LKs, g, e4]
        rw [hL] at h
        exact ⟨Nat.le_refl _, sp_X6_become (s := 4) (j := 2) hF1 hS1 e3 e5 h⟩
    have g4 := hv9 62 (by decide) g4
    refine And.intro (fun g => ?_) (fun g5 => ?_)
    · have g := hv8 91 (by decide) g
      have hL : LKs n t a = (1, a + 1, 0, []) := by simp [LKs, g]
      rw [hL] at h
      exact ⟨Nat.le_refl _, sp_X6_become (s := 1) (j := 1) hF1 hS1 e3 e5 h⟩
    have g5 := hv9 91 (by decide) g5
    refine And.intro (fun g => ?_) (fun g6 => ?_)
    · have g := hv8 93 (by decide) g
      have hL : LKs n t a = (2, a + 1, 0, []) := by simp [LKs, g]
      rw [hL] at h
      exact ⟨Nat.le_refl _, sp_X6_become (s := 2) (j := 1) hF1 hS1 e3 e5 h⟩
    have g6 := hv9 93 (by decide) g6
    refine ⟨Nat.le_refl _, ?_⟩
    show P_X5_pastWord [.ref 1, .int (σ1.1 4 3)] _ _ _
    rw [e3]
    refine sp_X5_pastWord hS1.1 ha (fun r hr => ?_)
    subst hr
    have hW := WD_b (n := n) (t := t) ha
    have hp := WD_pos (n := n) (t := t) han
    have hsub : nI (WD n t a) - σ1.1 4 3 = nI (WD n t a - a) := by rw [e3, nI_sub hW.1]
    cases hr : rg (t a) with
    | true =>
      have q := hp.1 hr
      have hL : LKs n t a = (7, WD n t a, 0, []) := by simp [LKs, g0', g1, g2, g3, g4, g5, g6, tg_lt han, hr]; rw [← tg_lt (t := t) han]; simp [g0', g1, g2, g3, g4, g5, g6]
      rw [hL] at h
      refine pk_le (WD n t a - a) 0 (fun g => by omega) (fun g => ?_) hsub rfl
      refine ⟨Nat.le_refl _, ?_⟩
      refine ⟨Nat.le_refl _, ?_⟩
      show P_X6_become [.ref 4, .int (nI 7), .int (if (1 : Int32) < nI (WD n t a) - σ1.1 4 3 then nI (WD n t a) - σ1.1 4 3 else 1)] _ _ _
      rw [hsub, mx0 (by omega), if_neg (by omega)]
      refine sp_X6_become hF1 hS1 e3 e5 (fun τ hτ => h τ ?_)
      rw [show a + (WD n t a - a) = WD n t a by omega] at hτ
      exact hτ
    | false =>
      have q := hp.2 hr
      have hL : LKs n t a = (8, a + 1, 0, []) := by simp [LKs, g0', g1, g2, g3, g4, g5, g6, tg_lt han, hr]; rw [← tg_lt (t := t) han]; simp [g0', g1, g2, g3, g4, g5, g6]
      rw [hL] at h
      refine pk_le (WD n t a - a) 0 (fun g => ?_) (fun g => by omega) hsub rfl
      refine ⟨Nat.le_refl _, ?_⟩
      refine ⟨Nat.le_refl _, ?_⟩
      show P_X6_become [.ref 4, .int (nI 8), .int (if (1 : Int32) < nI (WD n t a) - σ1.1 4 3 then nI (WD n t a) - σ1.1 4 3 else 1)] _ _ _
      rw [hsub, mx0 (by omega), if_pos (by omega)]
      exact sp_X6_become hF1 hS1 e3 e5 h
  refine ⟨Nat.le_refl _, ?_⟩
  show P_X5_get [.ref 1, .int (σ1.1 4 3)] _ _ _
  rw [e3]
  refine sp_X5_get hS1.1 (by omega) (fun r hr => ?_)
  subst hr
  refine ⟨Nat.le_refl _, ?_⟩
  show P_X5_get [.ref 1, .int (σ1.1 4 3 + 1)] _ _ _
  rw [e3, show nI a + 1 = nI (a + 1) from (nI_succ a).symm]
  refine sp_X5_get hS1.1 (by omega) (fun r hr => ?_)
  subst hr
  refine And.intro (fun g => ?_) (fun g => ?_)
  · exact main false (by symm; apply decide_eq_false; intro e; exact g (by rw [e]))
  · exact main true (by symm; apply decide_eq_true; exact vI_inj _ (hb a) _ (hb (a + 1)) g)
end SKK
