/-! ===== PURE: the class's tokens ===== -/
def tkP (u j k : Nat) : Prop := j = 4 ∨ drP u j k
def wrI (w : Nat) : Int32 := match w with
  | 0 => 0
  | 1 => -1
  | 3 => -3
  | _ => -4
/-- what a token looked at is, in the class -/
def TP (σ τ : Sg) (n : Nat) (t : Nat → Nat) (u s a b wr : Nat) (l : List Nat) : Prop := Fr (tkP u) σ τ ∧ τ.1 4 2 = nI s ∧ τ.1 4 3 = nI a ∧ τ.1 4 5 = wrI wr ∧ (wr = 0 → τ.1 4 4 = nI b ∧ SC τ n t u l)
theorem dr_tk {u : Nat} {σ τ : Sg} (h : Fr (drP u) σ τ) : Fr (tkP u) σ τ := h.w (fun _ _ z => Or.inr z)
theorem dr4 {u k : Nat} {σ τ : Sg} (h : Fr (drP u) σ τ) : τ.1 4 k = σ.1 4 k := h.2 4 k (by simp [drP])
section TK2
variable {σ0 : Sg} {Q : Po} {X : Xo} {n u : Nat} {t : Nat → Nat}
theorem lp_seekHex {a : Nat} {R : Nat × Bool × Bool × List Nat} (h : ∀ τ, TP σ0 τ n t u 5 a (R.1 + 1) (if R.2.1 = true then 1 else if R.2.2.1 = true then 3 else 0) R.2.2.2 → Q none τ) {I : Jt} (hI : Cl (FM (cutN 138 t_X6_seekHex) e_X6_seekHex xn0 0 sws0 false Q X) I) :
    ∀ m k hf bad l z1 z2 (σ : Sg), k + m = n → l.length ≤ k → (hf = 99 ∨ hf ≤ 15) → hxs t m k hf bad l = R → SC σ n t u l → Fr (tkP u) σ0 σ → σ.1 4 2 = nI 5 → σ.1 4 3 = nI a → σ.1 4 5 = (if bad = true then -3 else 0) →
      I 0 14 [some (.ref 4), some (.int (wI hf)), some (.int (nI k)), z1, z2] [] σ := by
  intro m
  induction m with
  | zero =>
    intro k hf bad l z1 z2 σ hk hl hh hR hS hF e2 e3 e5
    have h2 := hS.1.2.1
    refine run_in (stop := fun pc => Nat.beq pc 14) hI 40 ?_
    refine pk_le n k (fun g => ?_) (fun g => by omega) hS.1.1 rfl
    refine h _ ⟨hF.s (Or.inl rfl), (sM_o (by simp)).trans e2, (sM_o (by simp)).trans e3, ?_, ?_⟩
    · rw [sM_s, ← hR]
      rfl
    · intro h0
      rw [← hR] at h0
      simp [hxs] at h0
  | succ m ih =>
    intro k hf bad l z1 z2 σ hk hl hh hR hS hF e2 e3 e5
    have hT := hS.1
    have h2 := hT.2.1
    have ht := hT.2.2.2 k (by omega)
    refine run_in (stop := fun pc => Nat.beq pc 14) hI 80 ?_
    refine pk_le n k (fun g => by omega) (fun g => ?_) hT.1 rfl
    refine ⟨Nat.le_refl _, sp_X5_get hT (by omega) (fun r hr => ?_)⟩
    subst hr
    rw [tg_lt (by omega)]
    refine ⟨Nat.le_refl _, sp_X0_hexOf (by omega) (fun r hr => ?_)⟩
    subst hr
    have hx := hv_ok (t k) (by omega)
    refine And.intro (fun g => ?_) (fun g => ?_)
    · have g1 : ¬ t k = 62 := fun e => g ((vI_eq (by omega) (by decide)).mpr e)
      refine And.intro (fun g => ?_) (fun g => ?_)
      · have hx' : hv (t k) ≤ 15 ∧ ¬ hv (t k) = 99 ∧ wI (hv (t k)) = nI (hv (t k)) := by
          rcases hx with ⟨-, q⟩ | q
          · exact absurd q g
          · exact ⟨q.1, q.2.1, q.2.2.1⟩
        by_cases h99 : hf = 99
        · subst h99
          refine And.intro (fun g => absurd rfl g) (fun g => ?_)
          have := ih (k + 1) (hv (t k)) bad l (some (.int (vI (t k)))) (some (.int (wI (hv (t k))))) σ (by omega) (by omega) (Or.inr hx'.1) (by rw [← hR]; simp [hxs, g1, hx'.2.1]) hS hF e2 e3 e5
          rw [nI_succ] at this
          exact this
        · have hf15 : hf ≤ 15 := by rcases hh with q | q
                                    · exact absurd q h99
                                    · exact q
          have hw : wI hf = nI hf := by unfold wI; rw [if_neg h99]
          refine And.intro (fun g => ?_) (fun g => ?_)
          · refine ⟨Nat.le_refl _, ?_⟩
            show P_X4_draft [.ref 2, .int (wI hf * 16 + wI (hv (t k)))] _ _ _
            have hE : wI hf * 16 + wI (hv (t k)) = nI (16 * hf + hv (t k)) := by
              rw [hw, hx'.2.2, show (16 : Int32) = nI 16 from rfl, nI_mul, nI_add, Nat.mul_comm]
            rw [hE]
            refine sp_X4_draft hS (by omega) (by omega) (fun τ hS2 hF2 => ?_)
            have := ih (k + 1) 99 bad _ (some (.int (vI (t k)))) (some (.int (wI (hv (t k))))) τ (by omega) (by simp; omega) (Or.inl rfl) (by rw [← hR]; simp [hxs, g1, hx'.2.1, h99]) hS2 (hF.tr (dr_tk hF2)) ((dr4 hF2).trans e2) ((dr4 hF2).trans e3) ((dr4 hF2).trans e5)
            rw [nI_succ] at this
            exact this
          · rw [hw] at g
            exact absurd g (nIm1 (by omega))
      · have hx' : hv (t k) = 99 := by
          rcases hx with ⟨q, -⟩ | q
          · exact q
          · exact absurd g q.2.2.2
        refine ⟨Nat.le_refl _, sp_X0_isWhite (by omega) (fun r hr => ?_)⟩
        subst hr
        refine And.intro (fun g => ?_) (fun g => ?_)
        · have e := bIf g
          have := ih (k + 1) hf true l (some (.int (vI (t k)))) (some (.int (wI (hv (t k))))) (sM σ 4 5 (-3)) (by omega) (by omega) hh (by rw [← hR]; simp [hxs, g1, hx', e]) (hS.m (by decide)) (hF.s (Or.inl rfl)) ((sM_o (by simp)).trans e2) ((sM_o (by simp)).trans e3) sM_s
          rw [nI_succ] at this
          exact this
        · have e := bIt g
          have := ih (k + 1) hf bad l (some (.int (vI (t k)))) (some (.int (wI (hv (t k))))) (sM σ 4 5 (σ.1 4 5)) (by omega) (by omega) hh (by rw [← hR]; simp [hxs, g1, hx', e]) (hS.m (by decide)) (hF.s (Or.inl rfl)) ((sM_o (by simp)).trans e2) ((sM_o (by simp)).trans e3) (sM_s.trans e5)
          rw [nI_succ] at this
          exact this
    · have g1 := (vI_eq (c := 62) (by omega) (by decide)).mp g
      have hR' : R = (k, false, bad, if hf = 99 then l else l ++ [16 * hf]) := by rw [← hR]; simp [hxs, g1]
      have fin : ∀ (σ : Sg) l', SC σ n t u l' → l' = (if hf = 99 then l else l ++ [16 * hf]) → Fr (tkP u) σ0 σ → σ.1 4 2 = nI 5 → σ.1 4 3 = nI a → σ.1 4 5 = (if bad = true then -3 else 0) → Q none (sM σ 4 4 (nI k + 1)) := by
        intro σ l' hS hl' hF e2 e3 e5
        refine h _ ⟨hF.s (Or.inl rfl), (sM_o (by simp)).trans e2, (sM_o (by simp)).trans e3, ?_, fun _ => ⟨?_, ?_⟩⟩
        · rw [sM_o (by simp), e5, hR']
          cases bad <;> rfl
        · rw [sM_s, hR']
          exact (nI_succ k).symm
        · rw [hR', ← hl']
          exact hS.m (by decide)
      by_cases h99 : hf = 99
      · subst h99
        refine And.intro (fun g => ?_) (fun g => absurd rfl g)
        exact fin σ l hS rfl hF e2 e3 e5
      · have hf15 : hf ≤ 15 := by rcases hh with q | q
                                  · exact absurd q h99
                                  · exact q
        have hw : wI hf = nI hf := by unfold wI; rw [if_neg h99]
        refine And.intro (fun g => ?_) (fun g => ?_)
        · rw [hw] at g
          exact absurd g (nIm1 (by omega))
        · refine ⟨Nat.le_refl _, ?_⟩
          show P_X4_draft [.ref 2, .int (wI hf * 16)] _ _ _
          have hE : wI hf * 16 = nI (16 * hf) := by
            rw [hw, show (16 : Int32) = nI 16 from rfl, nI_mul, Nat.mul_comm]
          rw [hE]
          refine sp_X4_draft hS (by omega) (by omega) (fun τ hS2 hF2 => ?_)
          exact fin τ _ hS2 (by rw [if_neg h99]) (hF.tr (dr_tk hF2)) ((dr4 hF2).trans e2) ((dr4 hF2).trans e3) ((dr4 hF2).trans e5)
theorem sp_X6_seekHex {σ : Sg} {a : Nat} {R : Nat × Bool × Bool × List Nat} (hS : SC σ n t u []) (hF : Fr (tkP u) σ0 σ) (ha : a < n) (e3 : σ.1 4 3 = nI a) (e5 : σ.1 4 5 = 0) (hR : hxs t (n - (a + 1)) (a + 1) 99 false [] = R) (h : ∀ τ, TP σ0 τ n t u 5 a (R.1 + 1) (if R.2.1 = true then 1 else if R.2.2.1 = true then 3 else 0) R.2.2.2 → Q none τ) : P_X6_seekHex [.ref 4] σ Q X := by
  refine ⟨rfl, fun I hI => run_in (stop := fun pc => Nat.beq pc 14) hI 20 ?_⟩
  have := lp_seekHex h hI (n - (a + 1)) (a + 1) 99 false [] none none (sM σ 4 2 5) (by omega) (by simp) (Or.inl rfl) hR (hS.m (by decide)) (hF.s (Or.inl rfl)) sM_s ((sM_o (by simp)).trans e3) ((sM_o (by simp)).trans e5)
  rw [nI_succ, ← e3] at this
  exact this
theorem ocN_le (n : Nat) (t : Nat → Nat) : ∀ m k v, (ocN n t m k v).1 ≤ m := by
  intro m
  induction m with
  | zero => intro k v; exact Nat.le_refl _
  | succ m ih =>
    intro k v
    simp only [ocN]
    split
    · have := ih (k + 1) (8 * v + (tg n t k - 48)); simp only; omega
    · simp only; omega
theorem esc_b (n : Nat) (t : Nat → Nat) (k : Nat) : (esc n t k).1 ≤ 3 ∧ (esc n t k).2.length ≤ 1 := by
  unfold esc
  split
  · simp
  · split
    · unfold lnl
      split <;> simp
    · split
      · have := ocN_le n t 3 k 0
        simp only [List.length_singleton]
        omega
      · simp
theorem lnl_b (n : Nat) (t : Nat → Nat) (k : Nat) : 1 ≤ lnl n t k ∧ lnl n t k ≤ 2 := by
  unfold lnl
  split <;> simp
theorem lp_seekLiteral {a : Nat} {R : Nat × Bool × List Nat} (h : ∀ τ, TP σ0 τ n t u 5 a R.1 (if R.2.1 = true then 1 else 0) R.2.2 → Q none τ) {I : Jt} (hI : Cl (FM (cutN 154 t_X6_seekLiteral) e_X6_seekLiteral xn0 0 sws0 false Q X) I) :
    ∀ m k d l x z (σ : Sg), n ≤ k + m → k ≤ n + 3 → a < k → l.length ≤ k → 1 ≤ d → d ≤ k → str n t m k d l = R → SC σ n t u l → Fr (tkP u) σ0 σ → σ.1 4 2 = nI 5 → σ.1 4 3 = nI a → σ.1 4 5 = 0 →
      I 0 14 [some (.ref 4), some (.int (nI d)), some (.int x), some (.int (nI k)), z] [] σ := by
  have ended : ∀ k d l x z (σ : Sg), n ≤ k → k ≤ n + 3 → R = (k, true, l) → SC σ n t u l → Fr (tkP u) σ0 σ → σ.1 4 2 = nI 5 → σ.1 4 3 = nI a → σ.1 4 5 = 0 → I 0 14 [some (.ref 4), some (.int (nI d)), some (.int x), some (.int (nI k)), z] [] σ := by
    intro k d l x z σ hk hk3 hR hS hF e2 e3 e5
    have h2 := hS.1.2.1
    refine run_in (stop := fun pc => Nat.beq pc 14) hI 40 ?_
    refine pk_le n k (fun g => ?_) (fun g => by omega) hS.1.1 rfl
    refine h _ ⟨hF.s (Or.inl rfl), (sM_o (by simp)).trans e2, (sM_o (by simp)).trans e3, ?_, ?_⟩
    · rw [sM_s, hR]
      rfl
    · intro h0
      rw [hR] at h0
      simp at h0
  intro m
  induction m with
  | zero =>
    intro k d l x z σ hk hk3 hak hl hd hdk hR hS hF e2 e3 e5
    exact ended k d l x z σ (by omega) hk3 (by rw [← hR]; rfl) hS hF e2 e3 e5
  | succ m ih =>
    intro k d l x z σ hk hk3 hak hl hd hdk hR hS hF e2 e3 e5
    by_cases hkn : n ≤ k
    · exact ended k d l x z σ hkn hk3 (by rw [← hR]; simp [str, hkn]) hS hF e2 e3 e5
    have hT := hS.1
    have h2 := hT.2.1
    have ht := hT.2.2.2 k (by omega)
    have nx : ∀ (σ : Sg) (l : List Nat) (d j : Nat), 1 ≤ j → j ≤ 4 → 1 ≤ d → d ≤ k + 1 → l.length ≤ k + 1 → str n t m (k + j) d l = R → SC σ n t u l → Fr (tkP u) σ0 σ → σ.1 4 2 = nI 5 → σ.1 4 3 = nI a → σ.1 4 5 = 0 →
        I 0 14 [some (.ref 4), some (.int (nI d)), some (.int (nI j)), some (.int (nI k + (if (1 : Int32) < nI j then nI j else 1))), some (.int (vI (t k)))] [] σ := by
      intro σ l d j h1 h4 hd hdk hl hR hS hF e2 e3 e5
      rw [mx1 h1 (by omega)]
      exact ih (k + j) d l (nI j) _ σ (by omega) (by omega) (by omega) (by omega) hd (by omega) hR hS hF e2 e3 e5
    refine run_in (stop := fun pc => Nat.beq pc 14) hI 80 ?_
    refine pk_le n k (fun g => by omega) (fun g => ?_) hT.1 rfl
    refine ⟨Nat.le_refl _, sp_X5_get hT (by omega) (fun r hr => ?_)⟩
    subst hr
    rw [tg_lt (by omega)]
    have hv9 : ∀ c, c < 256 → ¬ vI (t k) = nI c → ¬ t k = c := fun c hc g e => g ((vI_eq (by omega) hc).mpr e)
    have hv8 : ∀ c, c < 256 → vI (t k) = nI c → t k = c := fun c hc g => (vI_eq (by omega) hc).mp g
    refine And.intro (fun g1 => ?_) (fun g1 => ?_)
    · have g1 := hv9 40 (by decide) g1
      refine And.intro (fun g2 => ?_) (fun g2 => ?_)
      · have g2 := hv9 41 (by decide) g2
        have hd0 : nI d + 0 = nI d := Int32.add_zero _
        refine kne d 0 (fun g => ?_) (fun g => by omega) hd0 rfl
        refine And.intro (fun g3 => ?_) (fun g3 => ?_)
        · have g3 := hv9 92 (by decide) g3
          refine And.intro (fun g4 => ?_) (fun g4 => ?_)
          · have g4 := hv9 13 (by decide) g4
            refine pk_le k a (fun g => by omega) (fun g => ?_) rfl e3
            rw [vI_lt ht]
            refine ⟨Nat.le_refl _, sp_X4_draft hS (by omega) ht (fun τ hS2 hF2 => ?_)⟩
            have := nx τ _ d 1 (by omega) (by omega) hd (by omega) (by simp; omega) (by rw [← hR]; simp [str, hkn, g1, g2, g3, g4]) hS2 (hF.tr (dr_tk hF2)) ((dr4 hF2).trans e2) ((dr4 hF2).trans e3) ((dr4 hF2).trans e5)
            rw [← hd0, vI_lt ht] at this
            exact ⟨Nat.le_refl _, this⟩
          · have g4 := hv8 13 (by decide) g4
            refine ⟨Nat.le_refl _, ?_⟩
            show P_X4_draft [.ref 2, .int (nI 10)] _ _ _
            refine sp_X4_draft hS (by omega) (by decide) (fun τ hS2 hF2 => ?_)
            refine ⟨Nat.le_refl _, sp_X6_lineLength hS2.1 (by omega) (fun r hr => ?_)⟩
            subst hr
            have hb := lnl_b n t k
            have := nx τ _ d (lnl n t k) (by omega) (by omega) hd (by omega) (by simp; omega) (by rw [← hR]; simp [str, hkn, g4]) hS2 (hF.tr (dr_tk hF2)) ((dr4 hF2).trans e2) ((dr4 hF2).trans e3) ((dr4 hF2).trans e5)
            rw [← hd0] at this
            exact ⟨Nat.le_refl _, this⟩
        · have g3 := hv8 92 (by decide) g3
          refine ⟨Nat.le_refl _, ?_⟩
          show P_X6_draftEscape [.ref 4, .int (nI k + 1)] _ _ _
          rw [show nI k + 1 = nI (k + 1) from (nI_succ k).symm]
          refine sp_X6_draftEscape hS (by omega) (by omega) (fun τ hS2 hF2 => ?_)
          have hb := esc_b n t (k + 1)
          have := nx τ _ d ((esc n t (k + 1)).1 + 1) (by omega) (by omega) hd (by omega) (by simp; omega) (by rw [← hR]; simp [str, hkn, g3]; congr 1; omega) hS2 (hF.tr (dr_tk hF2)) ((dr4 hF2).trans e2) ((dr4 hF2).trans e3) ((dr4 hF2).trans e5)
          rw [← hd0, nI_succ] at this
          exact ⟨Nat.le_refl _, this⟩
      · have g2 := hv8 41 (by decide) g2
        have hdm : nI d + (-1) = nI (d - 1) := by
          obtain ⟨d', rfl⟩ : ∃ d', d = d' + 1 := ⟨d - 1, by omega⟩
          exact pk_m1 d'
        refine kne (d - 1) 0 (fun g => ?_) (fun g => ?_) hdm rfl
        · refine And.intro (fun g3 => ?_) (fun g3 => absurd (hv8 92 (by decide) g3) (by omega))
          refine And.intro (fun g4 => ?_) (fun g4 => absurd (hv8 13 (by decide) g4) (by omega))
          refine pk_le k a (fun g => by omega) (fun g => ?_) rfl e3
          rw [vI_lt ht]
          refine ⟨Nat.le_refl _, sp_X4_draft hS (by omega) ht (fun τ hS2 hF2 => ?_)⟩
          have := nx τ _ (d - 1) 1 (by omega) (by omega) (by omega) (by omega) (by simp; omega) (by rw [← hR]; simp [str, hkn, g2, show ¬ d = 1 by omega]) hS2 (hF.tr (dr_tk hF2)) ((dr4 hF2).trans e2) ((dr4 hF2).trans e3) ((dr4 hF2).trans e5)
          rw [← hdm, vI_lt ht] at this
          exact ⟨Nat.le_refl _, this⟩
        · have hR' : R = (k + 1, false, l) := by rw [← hR]; simp [str, hkn, g2, show d = 1 by omega]
          refine h _ ⟨hF.s (Or.inl rfl), (sM_o (by simp)).trans e2, (sM_o (by simp)).trans e3, ?_, fun _ => ⟨?_, ?_⟩⟩
          · rw [sM_o (by simp), e5, hR']
            rfl
          · rw [sM_s, hR']
            exact (nI_succ k).symm
          · rw [hR']
            exact hS.m (by decide)
    · have g1 := hv8 40 (by decide) g1
      have hdp : nI d + 1 = nI (d + 1) := (nI_succ d).symm
      refine kne (d + 1) 0 (fun g => ?_) (fun g => by omega) hdp rfl
      refine And.intro (fun g3 => ?_) (fun g3 => absurd (hv8 92 (by decide) g3) (by omega))
      refine And.intro (fun g4 => ?_) (fun g4 => absurd (hv8 13 (by decide) g4) (by omega))
      refine pk_le k a (fun g => by omega) (fun g => ?_) rfl e3
      rw [vI_lt ht]
      refine ⟨Nat.le_refl _, sp_X4_draft hS (by omega) ht (fun τ hS2 hF2 => ?_)⟩
      have := nx τ _ (d + 1) 1 (by omega) (by omega) (by omega) (by omega) (by simp; omega) (by rw [← hR]; simp [str, hkn, g1]) hS2 (hF.tr (dr_tk hF2)) ((dr4 hF2).trans e2) ((dr4 hF2).trans e3) ((dr4 hF2).trans e5)
      rw [← hdp, vI_lt ht] at this
      exact ⟨Nat.le_refl _, this⟩
theorem sp_X6_seekLiteral {σ : Sg} {a : Nat} {R : Nat × Bool × List Nat} (hS : SC σ n t u []) (hF : Fr (tkP u) σ0 σ) (ha : a < n) (ha40 : t a = 40) (e3 : σ.1 4 3 = nI a) (e5 : σ.1 4 5 = 0) (hR : str n t n (a + 1) 1 [] = R) (h : ∀ τ, TP σ0 τ n t u 5 a R.1 (if R.2.1 = true then 1 else 0) R.2.2 → Q none τ) : P_X6_seekLiteral [.ref 4] σ Q X := by
  have hT := hS.1
  have h2 := hT.2.1
  have hT' : TapeC (sM σ 4 2 5) n t := (hS.m (by decide)).1
  refine ⟨rfl, fun I hI => run_in (stop := fun pc => Nat.beq pc 14) hI 20 ?_⟩
  show I 0 14 [some (.ref 4), some (.int 0), some (.int 1), some (.int (σ.1 4 3)), none] [] (sM σ 4 2 5)
  rw [e3]
  refine run_in (stop := fun pc => Nat.beq pc 14) hI 80 ?_
  refine pk_le n a (fun g => by omega) (fun g => ?_) hT.1 rfl
  refine ⟨Nat.le_refl _, sp_X5_get hT' (by omega) (fun r hr => ?_)⟩
  subst hr
  rw [tg_lt (by omega), ha40]
  refine kne 40 40 (fun g => absurd rfl g) (fun g => ?_) rfl rfl
  refine kne 1 0 (fun g => ?_) (fun g => by omega) rfl rfl
  refine kne 40 92 (fun g => ?_) (fun g => by omega) rfl rfl
  refine kne 40 13 (fun g => ?_) (fun g => by omega) rfl rfl
  refine pk_le a a (fun g => ?_) (fun g => by omega) rfl ((sM_o (by simp)).trans e3)
  have := lp_seekLiteral h hI n (a + 1) 1 [] 1 (some (.int (vI 40))) (sM σ 4 2 5) (by omega) (by omega) (by omega) (by simp) (by omega) (by omega) hR (hS.m (by decide)) (hF.s (Or.inl rfl)) sM_s ((sM_o (by simp)).trans e3) ((sM_o (by simp)).trans e5)
  rw [← mx1 (k := a) (j := 1) (by omega) (by omega), show nI 1 = 0 + 1 from by decide] at this
  exact ⟨Nat.le_refl _, this⟩
theorem wd_step {m k : Nat} (h : rg (t k) = true) : wd t (m + 1) k = wd t m (k + 1) := by simp [wd, h]
theorem wd_all (t : Nat → Nat) : ∀ m k i, k ≤ i → i < wd t m k → rg (t i) = true := by
  intro m
  induction m with
  | zero => intro k i h1 h2; simp only [wd] at h2; omega
  | succ m ih =>
    intro k i h1 h2
    simp only [wd] at h2
    split at h2
    · by_cases e : i = k
      · subst e; assumption
      · exact ih (k + 1) i (by omega) h2
    · omega
theorem wd_end (t : Nat → Nat) : ∀ m k, wd t m k < k + m → rg (t (wd t m k)) = false := by
  intro m
  induction m with
  | zero => intro k h; simp only [wd] at h; omega
  | succ m ih =>
    intro k h
    simp only [wd] at h ⊢
    split
    · rename_i g
      rw [if_pos g] at h
      exact ih (k + 1) (by omega)
    · rename_i g
      simpa using g
theorem WD_all {k i : Nat} (h1 : k ≤ i) (h2 : i < WD n t k) : rg (t i) = true := wd_all t _ k i h1 h2
theorem WD_end {k : Nat} (hk : k ≤ n) : rg (tg n t (WD n t k)) = false := by
  by_cases h : WD n t k < n
  · rw [tg_lt h]
    exact wd_end t (n - k) k (by show WD n t k < _; omega)
  · rw [tg_ge (by omega)]
    rfl
theorem hv_rg : ∀ b, b < 257 → hv b ≠ 99 → rg b = true ∧ hv b ≤ 15 := by decide +kernel
/-- a name's byte lies in the word -/
theorem nmb_b {e k : Nat} (hT : ∀ k, k < n → t k < 256) (he : ∀ i, k ≤ i → i < e → rg (t i) = true) (hend : rg (tg n t e) = false) (hen : e ≤ n) (hk : k < e) : 1 ≤ (nmb n t k).1 ∧ k + (nmb n t k).1 ≤ e ∧ (nmb n t k).2 < 256 := by
  have hb := tg_c (σ := (fun _ _ => 0, fun _ _ => 0, fun _ => 0)) hT
  unfold nmb
  split
  · rename_i g
    have g1 := hv_rg _ (hb (k + 1)) g.2.1
    have g2 := hv_rg _ (hb (k + 2)) g.2.2
    refine ⟨by simp, ?_, by simp only; omega⟩
    show k + 3 ≤ e
    have n1 : ¬ e = k + 1 := fun z => by rw [z, g1.1] at hend; cases hend
    have n2 : ¬ e = k + 2 := fun z => by rw [z, g2.1] at hend; cases hend
    omega
  · refine ⟨by simp, by show k + 1 ≤ e; omega, ?_⟩
    show tg n t k < 256
    rw [tg_lt (by omega)]
    exact hT k (by omega)
end TK2
