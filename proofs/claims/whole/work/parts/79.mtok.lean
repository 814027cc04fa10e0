/-! ===== PURE: the model's tokens ===== -/
def txP (j k : Nat) : Prop := (j = 7 ∧ k = 26) ∨ j = 31
def lkP (j k : Nat) : Prop := (j = 7 ∧ 22 ≤ k ∧ k ≤ 26) ∨ j = 31
theorem tx_lk {σ τ : Sg} (h : Fr txP σ τ) : Fr lkP σ τ := h.w (fun j k z => by
  rcases z with ⟨h1, h2⟩ | h1
  · exact Or.inl ⟨h1, by omega, by omega⟩
  · exact Or.inr h1)
theorem tx7 {k : Nat} {σ τ : Sg} (h : Fr txP σ τ) (hk : k ≠ 26) : τ.1 7 k = σ.1 7 k := h.2 7 k (by simp [txP, hk])
theorem TapeM.tx {σ τ : Sg} {n : Nat} {t : Nat → Nat} (hT : TapeM σ n t) (h : Fr txP σ τ) : TapeM τ n t := hT.fr (tx7 h (by decide)) (fun k => h.2 20 k (by simp [txP]))
theorem TapeM.lk {σ τ : Sg} {n : Nat} {t : Nat → Nat} (hT : TapeM σ n t) (h : Fr lkP σ τ) : TapeM τ n t := hT.fr (h.2 7 1 (by simp [lkP])) (fun k => h.2 20 k (by simp [lkP]))
theorem TapeM.m {σ : Sg} {n : Nat} {t : Nat → Nat} {k : Nat} {v : Int32} (hT : TapeM σ n t) (hk : k ≠ 1) : TapeM (sM σ 7 k v) n t := hT.fr (sM_o (Or.inr (by omega))) (fun k => sM_o (Or.inl (by decide)))
theorem TxM.m {σ : Sg} {l : List Nat} {k : Nat} {v : Int32} (hx : TxM σ l) (hk : k ≠ 26) : TxM (sM σ 7 k v) l := ⟨(sM_o (Or.inr (by omega))).trans hx.1, hx.2.1, fun i hi => (sM_o (Or.inl (by decide))).trans (hx.2.2.1 i hi), hx.2.2.2⟩
section MT
variable {Q : Po} {X : Xo} {n : Nat} {t : Nat → Nat}
theorem sp_X8_text {σ : Sg} {l : List Nat} {b : Nat} (hx : TxM σ l) (hl : l.length < 65536) (hb : b < 256) (h : ∀ τ, TxM τ (l ++ [b]) → Fr txP σ τ → Q none τ) : P_X8_text [.ref 7, .int (nI b)] σ Q X := by
  obtain ⟨x1, x2, x3, x4⟩ := hx
  refine ⟨rfl, fun I hI => run_in (stop := fun _ => false) hI 40 ?_⟩
  refine ⟨rfl, pk_in l.length 65536 hl x1, ?_⟩
  refine h _ ⟨?_, by simp; omega, fun i hi => ?_, fun i hi => ?_⟩ ((Fr.rf.s (Or.inr rfl)).s (Or.inl ⟨rfl, rfl⟩))
  · rw [sM_s]
    show (sM σ 31 _ _).1 7 26 + 1 = _
    rw [sM_o (by simp), x1, ← nI_succ]
    simp
  · rw [sM_o (by simp), gD_app, pk_cl l.length x1]
    by_cases hi' : i < l.length
    · rw [if_pos hi', sM_o (by right; omega)]
      exact x3 i hi'
    · have : i = l.length := by simp at hi; omega
      subst this
      rw [if_neg hi', if_pos rfl, sM_s]
  · rw [gD_app]
    by_cases hi' : i < l.length
    · rw [if_pos hi']; exact x4 i hi'
    · rw [if_neg hi']
      split
      · exact hb
      · omega
theorem lp_skip {σ : Sg} {f : Int32} (hT : TapeM σ n t) {I : Jt} (hI : Cl (FM (cutN 88 t_X8_skip) e_X8_skip xn0 0 sws0 false Q X) I) :
    ∀ m, (∀ k, k + m = n → (∀ r, r = nI (sk t false m k) → Q (some (.int r)) σ) → I 0 2 [some (.ref 7), some (.int f), some (.int (nI k))] [] σ) ∧ (∀ k, k + m = n → (∀ r, r = nI (sk t true m k) → Q (some (.int r)) σ) → I 0 44 [some (.ref 7), some (.int f), some (.int (nI k))] [] σ) := by
  have h2 := hT.2.1
  have h3 := hT.2.2.1
  have h4 := hT.2.2.2
  intro m
  induction m with
  | zero =>
    have A : ∀ k, k + 0 = n → (∀ r, r = nI k → Q (some (.int r)) σ) → I 0 2 [some (.ref 7), some (.int f), some (.int (nI k))] [] σ := by
      intro k hk h
      refine run_in (stop := fun pc => Nat.beq pc 2 || Nat.beq pc 44) hI 40 ?_
      exact pk_le n k (fun g => h _ rfl) (fun g => by omega) hT.1 rfl
    refine ⟨A, fun k hk h => ?_⟩
    refine run_in (stop := fun pc => Nat.beq pc 2 || Nat.beq pc 44) hI 40 ?_
    exact pk_le n k (fun g => A k hk h) (fun g => by omega) hT.1 rfl
  | succ m ih =>
    have ld : ∀ k, k < n → vp_in (nI k) (ak 20).2 ∧ el σ 20 (nI k) = vI (t k) := by
      intro k hk
      exact ⟨nI_in (show k < 65536 by omega) (by decide), by rw [el_nI (by decide) (by omega), h3 k hk, vI_lt (h4 k hk)]⟩
    have A : ∀ k, k + (m + 1) = n → (∀ r, r = nI (sk t false (m + 1) k) → Q (some (.int r)) σ) → I 0 2 [some (.ref 7), some (.int f), some (.int (nI k))] [] σ := by
      intro k hk h
      have ht := h4 k (by omega)
      obtain ⟨l1, l2⟩ := ld k (by omega)
      have nx : sk t false (m + 1) k = sk t false m (k + 1) → I 0 2 [some (.ref 7), some (.int f), some (.int (nI k + 1))] [] σ := by
        intro e
        have := ih.1 (k + 1) (by omega) (fun r hr => h r (by rw [hr, e]))
        rw [nI_succ] at this
        exact this
      refine run_in (stop := fun pc => Nat.beq pc 2 || Nat.beq pc 44) hI 60 ?_
      refine pk_le n k (fun g => by omega) (fun g => ?_) hT.1 rfl
      refine ⟨rfl, l1, ?_⟩
      rw [l2]
      refine ⟨Nat.le_refl _, sp_X8_isWhite (by omega) (fun r hr => ?_)⟩
      subst hr
      refine And.intro (fun g => ?_) (fun g => ?_)
      · have gw := bIt g
        have g37 : ¬ t k = 37 := fun e => by rw [e] at gw; cases gw
        refine ⟨rfl, l1, ?_⟩
        rw [l2, vI_lt ht]
        refine kne (t k) 37 (fun _ => ?_) (fun e => absurd e g37) rfl rfl
        exact nx (by simp [sk, gw, g37])
      · have gw := bIf g
        have g10 : ¬ t k = 10 := fun e => by rw [e] at gw; cases gw
        have g13 : ¬ t k = 13 := fun e => by rw [e] at gw; cases gw
        refine ⟨rfl, l1, ?_⟩
        rw [l2, vI_lt ht]
        refine kne (t k) 37 (fun g37 => ?_) (fun g37 => ?_) rfl rfl
        · exact h _ (by simp [sk, gw, g10, g13, g37])
        · refine ⟨rfl, l1, ?_⟩
          rw [l2, vI_lt ht]
          refine kne (t k) 37 (fun e => absurd g37 e) (fun _ => ?_) rfl rfl
          show I 0 44 _ _ _
          refine run_in (stop := fun pc => Nat.beq pc 2 || Nat.beq pc 44) hI 60 ?_
          refine pk_le n k (fun g => by omega) (fun g => ?_) hT.1 rfl
          refine ⟨rfl, l1, ?_⟩
          rw [l2, vI_lt ht]
          refine pk_eq (t k) 10 (fun e => absurd e g10) (fun _ => ?_) rfl rfl
          refine ⟨rfl, l1, ?_⟩
          rw [l2, vI_lt ht]
          refine pk_eq (t k) 13 (fun e => absurd e g13) (fun _ => ?_) rfl rfl
          have := ih.2 (k + 1) (by omega) (fun r hr => h r (by rw [hr]; simp [sk, g37]))
          rw [nI_succ] at this
          exact this
    refine ⟨A, fun k hk h => ?_⟩
    have ht := h4 k (by omega)
    obtain ⟨l1, l2⟩ := ld k (by omega)
    refine run_in (stop := fun pc => Nat.beq pc 2 || Nat.beq pc 44) hI 60 ?_
    refine pk_le n k (fun g => by omega) (fun g => ?_) hT.1 rfl
    refine ⟨rfl, l1, ?_⟩
    rw [l2, vI_lt ht]
    refine pk_eq (t k) 10 (fun e => ?_) (fun g10 => ?_) rfl rfl
    · exact A k hk (fun r hr => h r (by rw [hr]; simp [sk, e]))
    · refine ⟨rfl, l1, ?_⟩
      rw [l2, vI_lt ht]
      refine pk_eq (t k) 13 (fun e => ?_) (fun g13 => ?_) rfl rfl
      · exact A k hk (fun r hr => h r (by rw [hr]; simp [sk, e]))
      · have := ih.2 (k + 1) (by omega) (fun r hr => h r (by rw [hr]; simp [sk, g10, g13]))
        rw [nI_succ] at this
        exact this
theorem sp_X8_skip {σ : Sg} {k : Nat} (hT : TapeM σ n t) (hk : k ≤ n) (h : ∀ r, r = nI (SK n t k) → Q (some (.int r)) σ) : P_X8_skip [.ref 7, .int (nI k)] σ Q X := by
  refine ⟨rfl, fun I hI => run_in (stop := fun pc => Nat.beq pc 2) hI 10 ?_⟩
  exact (lp_skip hT hI (n - k)).1 k (by omega) h
theorem sp_X8_one {σ : Sg} {s j a : Nat} (e3 : σ.1 7 23 = nI a) (h : Q none (sM (sM σ 7 22 (nI s)) 7 24 (nI (a + j)))) : P_X8_one [.ref 7, .int (nI s), .int (nI j)] σ Q X := by
  refine ⟨rfl, fun I hI => run_in (stop := fun _ => false) hI 20 ?_⟩
  rw [← nI_add, ← e3] at h
  exact h
end MT
