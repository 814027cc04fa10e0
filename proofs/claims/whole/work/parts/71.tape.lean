/-! ===== PURE: the tape ===== -/
def tg (n : Nat) (t : Nat → Nat) (k : Nat) : Nat := if k < n then t k else 256
theorem tg_lt {n k : Nat} {t : Nat → Nat} (h : k < n) : tg n t k = t k := by simp [tg, h]
theorem tg_ge {n k : Nat} {t : Nat → Nat} (h : n ≤ k) : tg n t k = 256 := by simp [tg, Nat.not_lt.mpr h]
theorem vI_lt {c : Nat} (h : c < 256) : vI c = nI c := by
  unfold vI
  rw [if_neg (by omega)]
theorem vI_256 : vI 256 = -1 := rfl
theorem vI_inj : ∀ b, b < 257 → ∀ c, c < 257 → vI b = vI c → b = c := by
  have key : ∀ b, b < 257 → (vI b).toInt = if b = 256 then -1 else (b : Int) := by decide +kernel
  intro b hb c hc h
  have h1 := key b hb
  have h2 := key c hc
  rw [h, h2] at h1
  split at h1 <;> split at h1 <;> omega
theorem vI_eq {b c : Nat} (hb : b < 257) (hc : c < 256) : vI b = nI c ↔ b = c := by
  constructor
  · intro h
    exact vI_inj b hb c (by omega) (by rw [h, vI_lt hc])
  · intro h
    rw [h, vI_lt hc]
def TapeC (σ : Sg) (n : Nat) (t : Nat → Nat) : Prop := σ.1 1 1 = nI n ∧ n ≤ 65536 ∧ (∀ k, k < n → σ.1 8 k &&& 255 = nI (t k)) ∧ ∀ k, k < n → t k < 256
def TapeM (σ : Sg) (n : Nat) (t : Nat → Nat) : Prop := σ.1 7 1 = nI n ∧ n ≤ 65536 ∧ (∀ k, k < n → σ.1 20 k = nI (t k)) ∧ ∀ k, k < n → t k < 256
theorem tg_c {σ : Sg} {n : Nat} {t : Nat → Nat} (hT : ∀ k, k < n → t k < 256) (k : Nat) : tg n t k < 257 := by
  by_cases h : k < n
  · rw [tg_lt h]; have := hT k h; omega
  · rw [tg_ge (by omega)]; omega
theorem el_nI {σ : Sg} {j k : Nat} (hj : j < 40) (hk : k < 2 ^ 31) : el σ j (nI k) = σ.1 j k := by
  unfold el
  rw [if_pos hj, nI_clamp hk]
/-- the words of a run of regular bytes; blanks -/
def wd (t : Nat → Nat) : Nat → Nat → Nat
  | 0, k => k
  | m + 1, k => if rg (t k) = true then wd t m (k + 1) else k
def sk (t : Nat → Nat) : Bool → Nat → Nat → Nat
  | _, 0, k => k
  | c, m + 1, k => if t k = 10 ∨ t k = 13 then sk t false m (k + 1) else if t k = 37 then sk t true m (k + 1) else if c = true ∨ wh (t k) = true then sk t c m (k + 1) else k
def WD (n : Nat) (t : Nat → Nat) (k : Nat) : Nat := wd t (n - k) k
def SK (n : Nat) (t : Nat → Nat) (k : Nat) : Nat := sk t false (n - k) k
theorem wd_ge (t : Nat → Nat) : ∀ m k, k ≤ wd t m k ∧ wd t m k ≤ k + m := by
  intro m
  induction m with
  | zero => intro k; exact ⟨Nat.le_refl _, Nat.le_refl _⟩
  | succ m ih =>
    intro k
    simp only [wd]
    have := ih (k + 1)
    split <;> omega
theorem sk_ge (t : Nat → Nat) : ∀ m c k, k ≤ sk t c m k ∧ sk t c m k ≤ k + m := by
  intro m
  induction m with
  | zero => intro c k; exact ⟨Nat.le_refl _, Nat.le_refl _⟩
  | succ m ih =>
    intro c k
    simp only [sk]
    have h1 := ih false (k + 1)
    have h2 := ih true (k + 1)
    have h3 := ih c (k + 1)
    split
    · omega
    · split
      · omega
      · split <;> omega
theorem WD_b {n k : Nat} {t : Nat → Nat} (h : k ≤ n) : k ≤ WD n t k ∧ WD n t k ≤ n := by
  have := wd_ge t (n - k) k
  unfold WD
  omega
theorem SK_b {n k : Nat} {t : Nat → Nat} (h : k ≤ n) : k ≤ SK n t k ∧ SK n t k ≤ n := by
  have := sk_ge t (n - k) false k
  unfold SK
  omega
section PT
variable {σ : Sg} {Q : Po} {X : Xo} {n : Nat} {t : Nat → Nat}
theorem sp_X5_get {k : Nat} (hT : TapeC σ n t) (hk : k < 2 ^ 31) (h : ∀ r, r = vI (tg n t k) → Q (some (.int r)) σ) : P_X5_get [.ref 1, .int (nI k)] σ Q X := by
  obtain ⟨h1, h2, h3, h4⟩ := hT
  refine ⟨rfl, fun I hI => run_in (stop := fun _ => false) hI 30 ?_⟩
  refine And.intro (fun g => absurd g (nI_pos hk)) (fun _ => And.intro (fun g => ?_) (fun g => ?_))
  · have g' : σ.1 1 1 ≤ nI k := g
    rw [h1, nI_leI (by omega) hk] at g'
    refine h _ ?_
    rw [tg_ge g']
    rfl
  · have g' : ¬ σ.1 1 1 ≤ nI k := g
    rw [h1, nI_leI (by omega) hk] at g'
    refine ⟨Or.inl rfl, nI_in (show k < 65536 by omega) (by decide), h _ ?_⟩
    rw [el_nI (by decide) hk, h3 k (by omega), tg_lt (by omega), vI_lt (h4 k (by omega))]
theorem sp_X8_at {k : Nat} (hT : TapeM σ n t) (hk : k < 2 ^ 31) (h : ∀ r, r = vI (tg n t k) → Q (some (.int r)) σ) : P_X8_at [.ref 7, .int (nI k)] σ Q X := by
  obtain ⟨h1, h2, h3, h4⟩ := hT
  refine ⟨rfl, fun I hI => run_in (stop := fun _ => false) hI 30 ?_⟩
  refine And.intro (fun g => ?_) (fun g => ?_)
  · have g' : σ.1 7 1 ≤ nI k := g
    rw [h1, nI_leI (by omega) hk] at g'
    refine h _ ?_
    rw [tg_ge g']
    rfl
  · have g' : ¬ σ.1 7 1 ≤ nI k := g
    rw [h1, nI_leI (by omega) hk] at g'
    refine ⟨rfl, nI_in (show k < 65536 by omega) (by decide), h _ ?_⟩
    rw [el_nI (by decide) hk, h3 k (by omega), tg_lt (by omega), vI_lt (h4 k (by omega))]
theorem lp_pastWord {f : Int32} (hT : TapeC σ n t) {I : Jt} (hI : Cl (FM (cutN 34 t_X5_pastWord) e_X5_pastWord xn0 0 sws0 false Q X) I) :
    ∀ m k, k + m = n → (∀ r, r = nI (wd t m k) → Q (some (.int r)) σ) → I 0 2 [some (.ref 1), some (.int f), some (.int (nI k))] [] σ := by
  have hT' := hT
  obtain ⟨h1, h2, h3, h4⟩ := hT'
  intro m
  induction m with
  | zero =>
    intro k hk h
    refine run_in (stop := fun pc => Nat.beq pc 2) hI 40 ?_
    refine And.intro (fun g => h _ ?_) (fun g => ?_)
    · show σ.1 1 1 = _
      rw [h1]
      simp only [wd]
      congr 1
      omega
    · have g' : ¬ σ.1 1 1 ≤ nI k := g
      rw [h1, nI_leI (by omega) (by omega)] at g'
      omega
  | succ m ih =>
    intro k hk h
    refine run_in (stop := fun pc => Nat.beq pc 2) hI 40 ?_
    refine And.intro (fun g => ?_) (fun g => ?_)
    · have g' : σ.1 1 1 ≤ nI k := g
      rw [h1, nI_leI (by omega) (by omega)] at g'
      omega
    · refine ⟨Nat.le_refl _, sp_X5_get hT (by omega) (fun r hr => ?_)⟩
      subst hr
      rw [tg_lt (by omega)]
      refine ⟨Nat.le_refl _, sp_X0_isRegular (by have := h4 k (by omega); omega) (fun r hr => ?_)⟩
      subst hr
      refine And.intro (fun g => ?_) (fun g => ?_)
      · have e := bIt g
        have := ih (k + 1) (by omega) (fun r hr => h r (by rw [hr]; simp [wd, e]))
        rw [nI_succ] at this
        exact this
      · have e := bIf g
        exact h _ (by simp [wd, e])
theorem sp_X5_pastWord {k : Nat} (hT : TapeC σ n t) (hk : k ≤ n) (h : ∀ r, r = nI (WD n t k) → Q (some (.int r)) σ) : P_X5_pastWord [.ref 1, .int (nI k)] σ Q X := by
  refine ⟨rfl, fun I hI => run_in (stop := fun pc => Nat.beq pc 2) hI 10 ?_⟩
  exact lp_pastWord hT hI (n - k) k (by omega) h
theorem szc {k : Nat} (hT : TapeC σ n t) (hk : k < 2 ^ 31) : σ.1 1 1 ≤ nI k ↔ n ≤ k := by
  rw [hT.1, nI_leI (by have := hT.2.1; omega) hk]
theorem szm {k : Nat} (hT : TapeM σ n t) (hk : k < 2 ^ 31) : σ.1 7 1 ≤ nI k ↔ n ≤ k := by
  rw [hT.1, nI_leI (by have := hT.2.1; omega) hk]
theorem lp_pastBlanks {f : Int32} (hT : TapeC σ n t) {I : Jt} (hI : Cl (FM (cutN 75 t_X5_pastBlanks) e_X5_pastBlanks xn0 0 sws0 false Q X) I) :
    ∀ m k c z, k + m = n → (∀ r, r = nI (sk t c m k) → Q (some (.int r)) σ) → I 0 4 [some (.ref 1), some (.int f), some (.int (bI c)), some (.int (nI k)), z] [] σ := by
  have h2 := hT.2.1
  have h4 := hT.2.2.2
  intro m
  induction m with
  | zero =>
    intro k c z hk h
    refine run_in (stop := fun pc => Nat.beq pc 4) hI 40 ?_
    refine And.intro (fun g => h _ ?_) (fun g => absurd ((szc hT (by omega)).mpr (by omega)) g)
    show σ.1 1 1 = _
    rw [hT.1]
    simp only [sk]
    congr 1
    omega
  | succ m ih =>
    intro k c z hk h
    refine run_in (stop := fun pc => Nat.beq pc 4) hI 40 ?_
    refine And.intro (fun g => absurd ((szc hT (by omega)).mp g) (by omega)) (fun g => ?_)
    refine ⟨Nat.le_refl _, sp_X5_get hT (by omega) (fun r hr => ?_)⟩
    subst hr
    rw [tg_lt (by omega)]
    have hb := h4 k (by omega)
    have go : ∀ c' z', sk t c (m + 1) k = sk t c' m (k + 1) → I 0 4 [some (.ref 1), some (.int f), some (.int (bI c')), some (.int (nI k + 1)), z'] [] σ := by
      intro c' z' e
      have := ih (k + 1) c' z' (by omega) (fun r hr => h r (by rw [hr, e]))
      rw [nI_succ] at this
      exact this
    have dn : ∀ c' : Nat, c' < 256 → ¬ vI (t k) = nI c' → t k ≠ c' := fun c' hc g e => g ((vI_eq (by omega) hc).mpr e)
    refine And.intro (fun g => ?_) (fun g1 => ?_)
    · have e := (vI_eq (c := 10) (by omega) (by decide)).mp g
      exact go false (some (.int (vI (t k)))) (by simp [sk, e])
    · replace g1 := dn 10 (by decide) g1
      refine And.intro (fun g2 => ?_) (fun g => ?_)
      · replace g2 := dn 13 (by decide) g2
        refine And.intro (fun g3 => ?_) (fun g => ?_)
        · replace g3 := dn 37 (by decide) g3
          refine And.intro (fun g => ?_) (fun g => ?_)
          · have e := bIt g
            exact go c (some (.int (vI (t k)))) (by simp [sk, e, g1, g2, g3])
          · have e := bIf g
            refine ⟨Nat.le_refl _, sp_X0_isWhite (by omega) (fun r hr => ?_)⟩
            subst hr
            refine And.intro (fun g => ?_) (fun g => ?_)
            · have e2 := bIt g
              exact go c (some (.int (vI (t k)))) (by simp [sk, e2, g1, g2, g3])
            · have e2 := bIf g
              exact h _ (by simp [sk, e, e2, g1, g2, g3])
        · have e := (vI_eq (c := 37) (by omega) (by decide)).mp g
          exact go true (some (.int (vI (t k)))) (by simp [sk, e])
      · have e := (vI_eq (c := 13) (by omega) (by decide)).mp g
        exact go false (some (.int (vI (t k)))) (by simp [sk, e])
theorem sp_X5_pastBlanks {k : Nat} (hT : TapeC σ n t) (hk : k ≤ n) (h : ∀ r, r = nI (SK n t k) → Q (some (.int r)) σ) : P_X5_pastBlanks [.ref 1, .int (nI k)] σ Q X := by
  refine ⟨rfl, fun I hI => run_in (stop := fun pc => Nat.beq pc 4) hI 10 ?_⟩
  exact lp_pastBlanks hT hI (n - k) k false none (by omega) h
/-- behind 10, or 13 and 10; 99999 if neither -/
def pln (n : Nat) (t : Nat → Nat) (k : Nat) : Nat := if tg n t k = 10 then k + 1 else if tg n t k = 13 ∧ tg n t (k + 1) = 10 then k + 2 else 99999
def pI (k : Nat) : Int32 := if k = 99999 then -1 else nI k
theorem sp_X5_pastLine {k : Nat} (hT : TapeC σ n t) (hk : k ≤ n) (h : ∀ r, r = pI (pln n t k) → Q (some (.int r)) σ) : P_X5_pastLine [.ref 1, .int (nI k)] σ Q X := by
  have h2 := hT.2.1
  have hb := tg_c (σ := σ) hT.2.2.2
  have dn : ∀ k c' : Nat, c' < 256 → ¬ vI (tg n t k) = nI c' → tg n t k ≠ c' := fun k c' hc g e => g ((vI_eq (hb k) hc).mpr e)
  refine ⟨rfl, fun I hI => run_in (stop := fun _ => false) hI 40 ?_⟩
  refine ⟨Nat.le_refl _, sp_X5_get hT (by omega) (fun r hr => ?_)⟩
  subst hr
  refine And.intro (fun g1 => ?_) (fun g => ?_)
  · replace g1 := dn k 10 (by decide) g1
    refine And.intro (fun g2 => ?_) (fun g => ?_)
    · replace g2 := dn k 13 (by decide) g2
      exact h _ (by simp [pln, g1, g2, pI])
    · have e := (vI_eq (c := 13) (hb k) (by decide)).mp g
      have e1 : nI k + 1 = nI (k + 1) := (nI_succ k).symm
      refine ⟨Nat.le_refl _, ?_⟩
      show P_X5_get [.ref 1, .int (nI k + 1)] _ _ _
      rw [e1]
      refine sp_X5_get hT (by omega) (fun r hr => ?_)
      subst hr
      refine And.intro (fun g1 => ?_) (fun g => ?_)
      · replace g1 := dn (k + 1) 10 (by decide) g1
        exact h _ (by simp [pln, e, g1, pI])
      · have e2 := (vI_eq (c := 10) (hb (k + 1)) (by decide)).mp g
        refine h _ ?_
        show nI k + 2 = _
        rw [show pln n t k = k + 2 by simp [pln, e, e2], pI, if_neg (by omega)]
        exact nI_add k 2
  · have e := (vI_eq (c := 10) (hb k) (by decide)).mp g
    refine h _ ?_
    show nI k + 1 = _
    rw [show pln n t k = k + 1 by simp [pln, e], pI, if_neg (by omega)]
    exact nI_add k 1
/-- a word's letters stand at k -/
def isT (n : Nat) (t : Nat → Nat) (w : Nat → Nat) : Nat → Nat → Bool
  | 0, _ => true
  | m + 1, i => decide (tg n t i = w i) && isT n t w m (i + 1)
end PT
