/-! ===== PURE: the model looks at a token ===== -/
def LM (σ0 σ : Sg) (n : Nat) (t : Nat → Nat) (s a : Nat) : Prop := TapeM σ n t ∧ Fr lkP σ0 σ ∧ σ.1 7 22 = nI s ∧ σ.1 7 23 = nI a
theorem LM.tx {σ0 σ τ : Sg} {n s a : Nat} {t : Nat → Nat} (h : LM σ0 σ n t s a) (hf : Fr txP σ τ) : LM σ0 τ n t s a := ⟨h.1.tx hf, h.2.1.tr (tx_lk hf), (tx7 hf (by decide)).trans h.2.2.1, (tx7 hf (by decide)).trans h.2.2.2⟩
theorem LM.m {σ0 σ : Sg} {n s a k : Nat} {v : Int32} {t : Nat → Nat} (h : LM σ0 σ n t s a) (hk : k = 24 ∨ k = 25 ∨ k = 26) : LM σ0 (sM σ 7 k v) n t s a := ⟨h.1.m (by omega), h.2.1.s (Or.inl ⟨rfl, by omega, by omega⟩), (sM_o (by omega)).trans h.2.2.1, (sM_o (by omega)).trans h.2.2.2⟩
/-- what a token looked at is, in the model -/
def TM (σ τ : Sg) (s a b wr : Nat) (l : List Nat) : Prop := Fr lkP σ τ ∧ τ.1 7 22 = nI s ∧ τ.1 7 23 = nI a ∧ τ.1 7 24 = nI b ∧ τ.1 7 25 = wrI wr ∧ TxM τ l
theorem nI_pos0 {k : Nat} (h : k < 2 ^ 31) : (0 : Int32) ≤ nI k := nI_le (Nat.zero_le k) h
theorem es_no {b : Nat} (h1 : ¬ b = 110) (h2 : ¬ b = 114) (h3 : ¬ b = 116) (h4 : ¬ b = 98) (h5 : ¬ b = 102) : es b = b := by
  unfold es
  rw [beq_eq_false_iff_ne.mpr h1, beq_eq_false_iff_ne.mpr h2, beq_eq_false_iff_ne.mpr h3, beq_eq_false_iff_ne.mpr h4, beq_eq_false_iff_ne.mpr h5]
  rfl
section ML
variable {σ0 : Sg} {Q : Po} {X : Xo} {n : Nat} {t : Nat → Nat}
theorem lp_esc8 {σ : Sg} {l : List Nat} {k0 : Nat} {c : Int32} (hT : TapeM σ n t) (hx : TxM σ l) (hl : l.length < 65536) (hk0 : k0 ≤ n) {I : Jt} (hI : Cl (FM (cutN 178 t_X8_escaped) e_X8_escaped xn0 0 sws0 false Q X) I) :
    ∀ m i v, i + m = 3 → v < 8 ^ i → (∀ τ, TxM τ (l ++ [(ocN n t m (k0 + i) v).2 % 256]) → Fr txP σ τ → Q (some (.int (nI (k0 + (i + (ocN n t m (k0 + i) v).1))))) τ) →
      I 0 24 [some (.ref 7), some (.int (nI k0)), some (.int c), some (.int (nI i)), some (.int (nI v))] [] σ := by
  have h2 := hT.2.1
  have hb := tg_c (σ := σ) hT.2.2.2
  have dn : ∀ i v, i ≤ 3 → v < 8 ^ i → (∀ τ, TxM τ (l ++ [v % 256]) → Fr txP σ τ → Q (some (.int (nI (k0 + i)))) τ) → I 0 66 [some (.ref 7), some (.int (nI k0)), some (.int c), some (.int (nI i)), some (.int (nI v))] [] σ := by
    intro i v hi hv h
    have hv' : v < 512 := Nat.lt_of_lt_of_le hv (Nat.le_trans (Nat.pow_le_pow_right (by omega) hi) (by decide))
    refine run_in (stop := fun _ => false) hI 30 ?_
    refine ⟨Nat.le_refl _, ?_⟩
    show P_X8_text [.ref 7, .int (nI v &&& 255)] _ _ _
    rw [pk_andN (by omega) 8 (by decide)]
    refine sp_X8_text hx hl (Nat.mod_lt _ (by decide)) (fun τ h1 h2 => ?_)
    have := h τ h1 h2
    rw [← nI_add] at this
    exact this
  intro m
  induction m with
  | zero =>
    intro i v hi hv h
    refine run_in (stop := fun pc => Nat.beq pc 24 || Nat.beq pc 66) hI 40 ?_
    refine pk_le 3 i (fun g => ?_) (fun g => by omega) rfl rfl
    exact dn i v (by omega) hv (fun τ h1 h2 => h τ h1 h2)
  | succ m ih =>
    intro i v hi hv h
    have hv' : v < 512 := Nat.lt_of_lt_of_le hv (Nat.le_trans (Nat.pow_le_pow_right (by omega) (show i ≤ 3 by omega)) (by decide))
    refine run_in (stop := fun pc => Nat.beq pc 24 || Nat.beq pc 66) hI 40 ?_
    refine pk_le 3 i (fun g => by omega) (fun g => ?_) rfl rfl
    refine ⟨Nat.le_refl _, ?_⟩
    show P_X8_at [.ref 7, .int (nI k0 + nI i)] _ _ _
    rw [nI_add]
    refine sp_X8_at hT (by omega) (fun r hr => ?_)
    subst hr
    refine ⟨Nat.le_refl _, sp_X8_isOctal (hb _) (fun r hr => ?_)⟩
    subst hr
    obtain ⟨d1, d2⟩ := ov_oc (tg n t (k0 + i)) (hb _)
    refine And.intro (fun g => ?_) (fun g => ?_)
    · have he := bIf g
      refine dn i v (by omega) hv (fun τ h1 h2 => ?_)
      have hq := h τ (by simp only [ocN, he]; exact h1) h2
      simp only [ocN, he] at hq
      exact hq
    · have he := bIt g
      obtain ⟨e1, e2, e3, e4, e5⟩ := d1 he
      refine ⟨Nat.le_refl _, ?_⟩
      show P_X8_at [.ref 7, .int (nI k0 + nI i)] _ _ _
      rw [nI_add]
      refine sp_X8_at hT (by omega) (fun r hr => ?_)
      subst hr
      rw [vI_lt (show tg n t (k0 + i) < 256 by omega)]
      have hE : (8 : Int32) * nI v + nI (tg n t (k0 + i)) - 48 = nI (8 * v + (tg n t (k0 + i) - 48)) := by
        rw [show (8 : Int32) = nI 8 from rfl, show (48 : Int32) = nI 48 from rfl, nI_mul, nI_add, nI_sub (by omega)]
        congr 1
        omega
      have := ih (i + 1) (8 * v + (tg n t (k0 + i) - 48)) (by omega) (by rw [Nat.pow_succ]; omega) (fun τ h1 h2 => by
        have hq := h τ (by simp only [ocN, he, if_true]; rw [Nat.add_assoc]; exact h1) h2
        simp only [ocN, he, if_true] at hq
        rw [show i + 1 + (ocN n t m (k0 + (i + 1)) (8 * v + (tg n t (k0 + i) - 48))).1 = i + ((ocN n t m (k0 + i + 1) (8 * v + (tg n t (k0 + i) - 48))).1 + 1) by rw [← Nat.add_assoc k0 i 1]; omega]
        exact hq)
      rw [← hE, nI_succ] at this
      exact this
theorem sp_X8_escaped {σ : Sg} {l : List Nat} {k : Nat} (hT : TapeM σ n t) (hx : TxM σ l) (hl : l.length < 65536) (hk : k ≤ n) (h : ∀ τ, TxM τ (l ++ (esc n t k).2) → Fr txP σ τ → Q (some (.int (nI (k + (esc n t k).1)))) τ) : P_X8_escaped [.ref 7, .int (nI k)] σ Q X := by
  have h2 := hT.2.1
  have hb := tg_c (σ := σ) hT.2.2.2
  refine ⟨rfl, fun I hI => run_in (stop := fun pc => Nat.beq pc 24 || Nat.beq pc 171) hI 80 ?_⟩
  refine ⟨Nat.le_refl _, sp_X8_at hT (by omega) (fun r hr => ?_)⟩
  subst hr
  by_cases g0 : tg n t k = 256
  · have hq := h σ (by simp only [esc, g0, if_true, List.append_nil]; exact hx) Fr.rf
    simp only [esc, g0, if_true] at hq
    rw [g0]
    exact And.intro (fun g => absurd g (by decide)) (fun g => hq)
  have hb' : tg n t k < 256 := by have := hb k; omega
  have hv9 : ∀ c, c < 256 → ¬ vI (tg n t k) = nI c → ¬ tg n t k = c := fun c hc g e => g ((vI_eq (hb k) hc).mpr e)
  have hv8 : ∀ c, c < 256 → vI (tg n t k) = nI c → tg n t k = c := fun c hc g => (vI_eq (hb k) hc).mp g
  refine And.intro (fun _ => ?_) (fun g => absurd (by rw [vI_lt hb']; exact nI_pos0 (by omega)) g)
  refine ⟨Nat.le_refl _, sp_X8_isOctal (hb _) (fun r hr => ?_)⟩
  subst hr
  obtain ⟨d1, d2⟩ := ov_oc (tg n t k) (hb _)
  refine And.intro (fun g => ?_) (fun g => ?_)
  · have he := bIf g
    refine And.intro (fun g13 => ?_) (fun g13 => ?_)
    · have g13 := hv9 13 (by decide) g13
      refine And.intro (fun g10 => ?_) (fun g10 => ?_)
      · have g10 := hv8 10 (by decide) g10
        have hq := h σ (by simp only [esc, g10]; simp; exact hx) Fr.rf
        simp only [esc, lnl, g10] at hq
        have hq : Q (some (.int (nI (k + 1)))) σ := hq
        rw [nI_succ] at hq
        exact hq
      · have g10 := hv9 10 (by decide) g10
        have go : ∀ c, c = es (tg n t k) → I 0 171 [some (.ref 7), some (.int (nI k)), some (.int (vI (tg n t k))), none, none] [.int (nI c), .ref 7] σ := by
          intro c hc
          refine run_in (stop := fun _ => false) hI 30 ?_
          refine ⟨Nat.le_refl _, sp_X8_text hx hl (by rw [hc]; exact (es_ok _ hb').1) (fun τ h1 h2 => ?_)⟩
          have hq := h τ (by simp only [esc, g0, g13, g10, he, if_false, or_self]; rw [← hc]; exact h1) h2
          simp only [esc, g0, g13, g10, he, if_false, or_self] at hq
          have hq : Q (some (.int (nI (k + 1)))) τ := hq
          rw [nI_succ] at hq
          exact hq
        refine And.intro (fun n1 => ?_) (fun n1 => ?_)
        · have n1 := hv9 110 (by decide) n1
          refine And.intro (fun n2 => ?_) (fun n2 => ?_)
          · have n2 := hv9 114 (by decide) n2
            refine And.intro (fun n3 => ?_) (fun n3 => ?_)
            · have n3 := hv9 116 (by decide) n3
              refine And.intro (fun n4 => ?_) (fun n4 => ?_)
              · have n4 := hv9 98 (by decide) n4
                refine And.intro (fun n5 => ?_) (fun n5 => ?_)
                · have n5 := hv9 102 (by decide) n5
                  have := go (tg n t k) (es_no n1 n2 n3 n4 n5).symm
                  rw [← vI_lt hb'] at this
                  exact this
                · exact go 12 (by rw [hv8 102 (by decide) n5]; rfl)
              · exact go 8 (by rw [hv8 98 (by decide) n4]; rfl)
            · exact go 9 (by rw [hv8 116 (by decide) n3]; rfl)
          · exact go 13 (by rw [hv8 114 (by decide) n2]; rfl)
        · exact go 10 (by rw [hv8 110 (by decide) n1]; rfl)
    · have g13 := hv8 13 (by decide) g13
      refine ⟨Nat.le_refl _, ?_⟩
      show P_X8_at [.ref 7, .int (nI k + 1)] _ _ _
      rw [show nI k + 1 = nI (k + 1) from (nI_succ k).symm]
      refine sp_X8_at hT (by omega) (fun r hr => ?_)
      subst hr
      have hq := h σ (by simp only [esc, g13]; simp; exact hx) Fr.rf
      refine And.intro (fun g => ?_) (fun g => ?_)
      · have g : ¬ tg n t (k + 1) = 10 := fun e => g ((vI_eq (hb (k + 1)) (by decide)).mpr e)
        simp only [esc, lnl, g13, g] at hq
        have hq : Q (some (.int (nI (k + 1)))) σ := hq
        rw [nI_succ] at hq
        exact hq
      · have g : tg n t (k + 1) = 10 := (vI_eq (c := 10) (hb (k + 1)) (by decide)).mp g
        simp only [esc, lnl, g13, g] at hq
        have hq : Q (some (.int (nI (k + 2)))) σ := hq
        rw [← nI_add] at hq
        exact hq
  · have he := bIt g
    have := d1 he
    refine lp_esc8 (c := vI (tg n t k)) hT hx hl hk hI 3 0 0 (by omega) (by decide) (fun τ h1 h2 => ?_)
    have hq := h τ (by simp only [esc, g0, he, if_true, if_false, show ¬ (tg n t k = 13 ∨ tg n t k = 10) by omega]; exact h1) h2
    simp only [esc, g0, he, if_true, if_false, show ¬ (tg n t k = 13 ∨ tg n t k = 10) by omega] at hq
    rw [Nat.zero_add]
    exact hq
theorem lp_lookString {a : Nat} {R : Nat × Bool × List Nat} (h : ∀ τ, TM σ0 τ 5 a R.1 (if R.2.1 = true then 1 else 0) R.2.2 → Q none τ) {I : Jt} (hI : Cl (FM (cutN 157 t_X8_lookString) e_X8_lookString xn0 0 sws0 false Q X) I) :
    ∀ m k d l z (σ : Sg), n ≤ k + m → k ≤ n + 3 → l.length < k → 1 ≤ d → d ≤ k → str n t m k d l = R → LM σ0 σ n t 5 a → TxM σ l →
      I 0 14 [some (.ref 7), some (.int (nI d)), some (.int (nI k)), z] [] σ := by
  have ended : ∀ k d l z (σ : Sg), k ≤ n + 3 → d ≤ k → (n ≤ k ∧ 1 ≤ d ∨ d = 0) → R = (k, decide (d ≠ 0), l) → LM σ0 σ n t 5 a → TxM σ l → I 0 14 [some (.ref 7), some (.int (nI d)), some (.int (nI k)), z] [] σ := by
    intro k d l z σ hk3 hdk hc hR hL hx
    have h2 := hL.1.2.1
    have fin : I 0 138 [some (.ref 7), some (.int (nI d)), some (.int (nI k)), z] [] σ := by
      refine run_in (stop := fun _ => false) hI 40 ?_
      refine pk_le d 0 (fun g => ?_) (fun g => ?_) rfl rfl
      · have hd : d = 0 := by omega
        obtain ⟨q1, q2, q3, q4⟩ := (hL.m (k := 24) (v := nI k) (by simp)).m (k := 25) (v := 0) (by simp)
        refine h _ ⟨q2, q3, q4, ?_, ?_, ?_⟩
        · rw [sM_o (by simp), sM_s, hR]
        · rw [sM_s, hR]
          simp [hd, wrI]
        · rw [hR]
          exact (hx.m (by decide)).m (by decide)
      · have hd : d ≠ 0 := by omega
        obtain ⟨q1, q2, q3, q4⟩ := (hL.m (k := 24) (v := nI k) (by simp)).m (k := 25) (v := -1) (by simp)
        refine h _ ⟨q2, q3, q4, ?_, ?_, ?_⟩
        · rw [sM_o (by simp), sM_s, hR]
        · rw [sM_s, hR]
          simp [hd, wrI]
        · rw [hR]
          exact (hx.m (by decide)).m (by decide)
    refine run_in (stop := fun pc => Nat.beq pc 14 || Nat.beq pc 138) hI 40 ?_
    refine pk_le n k (fun g => fin) (fun g => ?_) hL.1.1 rfl
    exact pk_le d 0 (fun g => fin) (fun g => by omega) rfl rfl
  intro m
  induction m with
  | zero =>
    intro k d l z σ hk hk3 hl hd hdk hR hL hx
    exact ended k d l z σ hk3 hdk (Or.inl ⟨by omega, hd⟩) (by rw [← hR]; simp [str]; omega) hL hx
  | succ m ih =>
    intro k d l z σ hk hk3 hl hd hdk hR hL hx
    by_cases hkn : n ≤ k
    · exact ended k d l z σ hk3 hdk (Or.inl ⟨hkn, hd⟩) (by rw [← hR]; simp [str, hkn]; omega) hL hx
    have hT := hL.1
    have h2 := hT.2.1
    have ht := hT.2.2.2 k (by omega)
    have hb := tg_c (σ := σ) hT.2.2.2
    refine run_in (stop := fun pc => Nat.beq pc 14 || Nat.beq pc 68) hI 80 ?_
    refine pk_le n k (fun g => by omega) (fun g => ?_) hT.1 rfl
    refine pk_le d 0 (fun g => by omega) (fun g => ?_) rfl rfl
    refine ⟨rfl, nI_in (show k < 65536 by omega) (by decide), ?_⟩
    rw [el_nI (by decide) (by omega), hT.2.2.1 k (by omega)]
    refine kne (t k) 92 (fun g1 => ?_) (fun g1 => ?_) rfl rfl
    · have tl : ∀ τ, (t k = 13 ∨ t k = 10) → TxM τ (l ++ [10]) → Fr txP σ τ → I 0 68 [some (.ref 7), some (.int (nI d)), some (.int (nI k)), some (.int (nI (t k)))] [] τ := by
        intro τ hc hx2 hF2
        have hL2 := hL.tx hF2
        have nx : ∀ j, lnl n t k = j → I 0 14 [some (.ref 7), some (.int (nI d)), some (.int (nI k + nI j)), some (.int (nI (t k)))] [] τ := by
          intro j hj
          have hjb := lnl_b n t k
          rw [nI_add]
          refine ih (k + j) d (l ++ [10]) _ τ (by omega) (by omega) (by simp; omega) hd (by omega) ?_ hL2 hx2
          rw [← hR]
          rcases hc with hc | hc
          · simp [str, hkn, hc, hj]
          · have : lnl n t k = 1 := by simp [lnl, tg_lt (show k < n by omega), hc]
            simp [str, hkn, hc]
            rw [← hj, this]
        refine run_in (stop := fun pc => Nat.beq pc 14) hI 30 ?_
        refine kne (t k) 13 (fun g2 => ?_) (fun g2 => ?_) rfl rfl
        · exact nx 1 (by simp [lnl, tg_lt (show k < n by omega), g2])
        · refine ⟨Nat.le_refl _, ?_⟩
          show P_X8_at [.ref 7, .int (nI k + 1)] _ _ _
          rw [show nI k + 1 = nI (k + 1) from (nI_succ k).symm]
          refine sp_X8_at hL2.1 (by omega) (fun r hr => ?_)
          subst hr
          refine And.intro (fun g => ?_) (fun g => ?_)
          · have g : ¬ tg n t (k + 1) = 10 := fun e => g ((vI_eq (hb (k + 1)) (by decide)).mpr e)
            exact nx 1 (by simp [lnl, g])
          · have g : tg n t (k + 1) = 10 := (vI_eq (c := 10) (hb (k + 1)) (by decide)).mp g
            exact nx 2 (by simp [lnl, tg_lt (show k < n by omega), g2, g])
      refine pk_eq (t k) 13 (fun g2 => ?_) (fun g2 => ?_) rfl rfl
      · refine ⟨Nat.le_refl _, sp_X8_text (b := 10) hx (by omega) (by decide) (fun τ h1 h2 => tl τ (Or.inl g2) h1 h2)⟩
      · refine kne (t k) 10 (fun g3 => ?_) (fun g3 => ?_) rfl rfl
        · have nx : ∀ (d' : Nat) (l' : List Nat) (τ : Sg), 1 ≤ d' → d' ≤ k + 1 → l'.length ≤ l.length + 1 → str n t m (k + 1) d' l' = R → LM σ0 τ n t 5 a → TxM τ l' → I 0 14 [some (.ref 7), some (.int (nI d')), some (.int (nI k + 1)), some (.int (nI (t k)))] [] τ := by
            intro d' l' τ h1 h2 h3 h4 h5 h6
            rw [← nI_succ]
            exact ih (k + 1) d' l' _ τ (by omega) (by omega) (by omega) h1 (by omega) h4 h5 h6
          refine kne (t k) 40 (fun g4 => ?_) (fun g4 => ?_) rfl rfl
          · refine kne (t k) 41 (fun g5 => ?_) (fun g5 => ?_) rfl rfl
            · refine pk_le d 0 (fun g => by omega) (fun g => ?_) rfl rfl
              refine ⟨Nat.le_refl _, sp_X8_text hx (by omega) ht (fun τ h1 h2 => ?_)⟩
              exact nx d _ τ hd (by omega) (by simp) (by rw [← hR]; simp [str, hkn, g1, g2, g4, g5]) (hL.tx h2) h1
            · have hdm : nI d - 1 = nI (d - 1) := nI_sub (a := 1) hd
              refine pk_le (d - 1) 0 (fun g => ?_) (fun g => ?_) hdm rfl
              · have hd1 : d = 1 := by omega
                have := ended (k + 1) (d - 1) l (some (.int (nI (t k)))) σ (by omega) (by omega) (Or.inr (by omega)) (by rw [← hR]; simp [str, hkn, g5, hd1]) hL hx
                rw [nI_succ k, ← hdm] at this
                exact this
              · refine ⟨Nat.le_refl _, sp_X8_text hx (by omega) ht (fun τ h1 h2 => ?_)⟩
                have := nx (d - 1) (l ++ [41]) τ (by omega) (by omega) (by simp) (by rw [← hR]; simp [str, hkn, g5, show ¬ d = 1 by omega]) (hL.tx h2) (by rw [g5] at h1; exact h1)
                rw [← hdm] at this
                exact this
          · have hdp : nI d + 1 = nI (d + 1) := (nI_succ d).symm
            refine pk_le (d + 1) 0 (fun g => by omega) (fun g => ?_) hdp rfl
            refine ⟨Nat.le_refl _, sp_X8_text hx (by omega) ht (fun τ h1 h2 => ?_)⟩
            have := nx (d + 1) (l ++ [40]) τ (by omega) (by omega) (by simp) (by rw [← hR]; simp [str, hkn, g4]) (hL.tx h2) (by rw [g4] at h1; exact h1)
            rw [← hdp] at this
            exact this
        · refine ⟨Nat.le_refl _, sp_X8_text (b := 10) hx (by omega) (by decide) (fun τ h1 h2 => tl τ (Or.inr g3) h1 h2)⟩
    · refine ⟨Nat.le_refl _, ?_⟩
      show P_X8_escaped [.ref 7, .int (nI k + 1)] _ _ _
      rw [show nI k + 1 = nI (k + 1) from (nI_succ k).symm]
      refine sp_X8_escaped hT hx (by omega) (by omega) (fun τ h1 h2 => ?_)
      have hb := esc_b n t (k + 1)
      exact ih (k + 1 + (esc n t (k + 1)).1) d _ _ τ (by omega) (by omega) (by simp; omega) hd (by omega) (by rw [← hR]; simp [str, hkn, g1]) (hL.tx h2) h1
theorem sp_X8_lookString {σ : Sg} {a : Nat} {R : Nat × Bool × List Nat} (hT : TapeM σ n t) (hF : Fr lkP σ0 σ) (e3 : σ.1 7 23 = nI a) (ha : a < n) (hx : TxM σ []) (hR : str n t n (a + 1) 1 [] = R) (h : ∀ τ, TM σ0 τ 5 a R.1 (if R.2.1 = true then 1 else 0) R.2.2 → Q none τ) : P_X8_lookString [.ref 7] σ Q X := by
  have h2 := hT.2.1
  refine ⟨rfl, fun I hI => run_in (stop := fun pc => Nat.beq pc 14) hI 20 ?_⟩
  have := lp_lookString h hI n (a + 1) 1 [] none (sM σ 7 22 5) (by omega) (by omega) (by simp) (by omega) (by omega) hR ⟨hT.m (by decide), hF.s (Or.inl ⟨rfl, by omega, by omega⟩), sM_s, (sM_o (by simp)).trans e3⟩ (hx.m (by decide))
  rw [nI_succ a, ← e3] at this
  exact this
end ML
