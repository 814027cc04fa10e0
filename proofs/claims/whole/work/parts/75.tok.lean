/-! ===== PURE: tokens ===== -/
/-- a line's length at k -/
def lnl (n : Nat) (t : Nat → Nat) (k : Nat) : Nat := if tg n t k = 13 ∧ tg n t (k + 1) = 10 then 2 else 1
/-- octal digits at k: how many (at most m), their worth -/
def ocN (n : Nat) (t : Nat → Nat) : Nat → Nat → Nat → Nat × Nat
  | 0, _, v => (0, v)
  | m + 1, k, v => if oc8 (tg n t k) = true then ((ocN n t m (k + 1) (8 * v + (tg n t k - 48))).1 + 1, (ocN n t m (k + 1) (8 * v + (tg n t k - 48))).2) else (0, v)
/-- behind a backslash: how many bytes, which are meant -/
def esc (n : Nat) (t : Nat → Nat) (k : Nat) : Nat × List Nat :=
  if tg n t k = 256 then (0, []) else if tg n t k = 13 ∨ tg n t k = 10 then (lnl n t k, []) else if oc8 (tg n t k) = true then ((ocN n t 3 k 0).1, [(ocN n t 3 k 0).2 % 256]) else (1, [es (tg n t k)])
/-- a literal string: (its end, whether it is wanting, its bytes) -/
def str (n : Nat) (t : Nat → Nat) : Nat → Nat → Nat → List Nat → Nat × Bool × List Nat
  | 0, k, _, l => (k, true, l)
  | m + 1, k, d, l => if n ≤ k then (k, true, l) else
    if t k = 92 then str n t m (k + 1 + (esc n t (k + 1)).1) d (l ++ (esc n t (k + 1)).2) else
    if t k = 13 then str n t m (k + lnl n t k) d (l ++ [10]) else
    if t k = 40 then str n t m (k + 1) (d + 1) (l ++ [40]) else
    if t k = 41 then (if d = 1 then (k + 1, false, l) else str n t m (k + 1) (d - 1) (l ++ [41])) else str n t m (k + 1) d (l ++ [t k])
/-- a string in hex: (its end, wanting, flawed, bytes) -/
def hxs (t : Nat → Nat) : Nat → Nat → Nat → Bool → List Nat → Nat × Bool × Bool × List Nat
  | 0, k, h, bad, l => (k, true, bad, if h = 99 then l else l ++ [16 * h])
  | m + 1, k, h, bad, l => if t k = 62 then (k, false, bad, if h = 99 then l else l ++ [16 * h]) else
    if hv (t k) = 99 then (if wh (t k) = true then hxs t m (k + 1) h bad l else hxs t m (k + 1) h true l) else
    if h = 99 then hxs t m (k + 1) (hv (t k)) bad l else hxs t m (k + 1) 99 bad (l ++ [16 * h + hv (t k)])
/-- a name's byte at k: (how many, which) -/
def nmb (n : Nat) (t : Nat → Nat) (k : Nat) : Nat × Nat := if tg n t k = 35 ∧ hv (tg n t (k + 1)) ≠ 99 ∧ hv (tg n t (k + 2)) ≠ 99 then (3, 16 * hv (tg n t (k + 1)) + hv (tg n t (k + 2))) else (1, tg n t k)
/-- a name's bytes from k up to e; whether 0 is among them -/
def nam (n : Nat) (t : Nat → Nat) (e : Nat) : Nat → Nat → Bool → List Nat → Bool × List Nat
  | 0, _, z, l => (z, l)
  | m + 1, k, z, l => if e ≤ k then (z, l) else nam n t e m (k + (nmb n t k).1) (z || decide ((nmb n t k).2 = 0)) (l ++ [(nmb n t k).2])
theorem ov_oc : ∀ b, b < 257 → (oc8 b = true → wI (ov b) = nI (b - 48) ∧ ¬ wI (ov b) = -1 ∧ b - 48 ≤ 7 ∧ 48 ≤ b ∧ b ≤ 55) ∧ (oc8 b = false → wI (ov b) = -1) := by decide +kernel
theorem hv_ok : ∀ b, b < 257 → (hv b = 99 ∧ wI (hv b) = -1) ∨ (hv b ≤ 15 ∧ ¬ hv b = 99 ∧ wI (hv b) = nI (hv b) ∧ ¬ wI (hv b) = -1) := by decide +kernel
theorem es_ok : ∀ b, b < 256 → es b < 256 ∧ vI (es b) = nI (es b) := by decide +kernel
section TK
variable {σ : Sg} {Q : Po} {X : Xo} {n u : Nat} {t : Nat → Nat} {l : List Nat}
theorem sp_X6_lineLength {k : Nat} (hT : TapeC σ n t) (hk : k ≤ n) (h : ∀ r, r = nI (lnl n t k) → Q (some (.int r)) σ) : P_X6_lineLength [.ref 4, .int (nI k)] σ Q X := by
  have h2 := hT.2.1
  have hb := tg_c (σ := σ) hT.2.2.2
  refine ⟨rfl, fun I hI => run_in (stop := fun _ => false) hI 40 ?_⟩
  refine ⟨Nat.le_refl _, sp_X5_get hT (by omega) (fun r hr => ?_)⟩
  subst hr
  refine And.intro (fun g => h _ ?_) (fun g => ?_)
  · have g' : ¬ tg n t k = 13 := fun e => g ((vI_eq (hb k) (by decide)).mpr e)
    simp [lnl, g']
    rfl
  · have e := (vI_eq (c := 13) (hb k) (by decide)).mp g
    refine ⟨Nat.le_refl _, ?_⟩
    show P_X5_get [.ref 1, .int (nI k + 1)] _ _ _
    rw [show nI k + 1 = nI (k + 1) from (nI_succ k).symm]
    refine sp_X5_get hT (by omega) (fun r hr => ?_)
    subst hr
    refine And.intro (fun g => h _ ?_) (fun g => h _ ?_)
    · have g' : ¬ tg n t (k + 1) = 10 := fun e => g ((vI_eq (hb (k + 1)) (by decide)).mpr e)
      simp [lnl, g']
      rfl
    · have e2 := (vI_eq (c := 10) (hb (k + 1)) (by decide)).mp g
      simp [lnl, e, e2]
      rfl
theorem lp_draftOctal {k0 : Nat} (hS : SC σ n t u l) (hl : l.length < 1000000) (hk0 : k0 ≤ n) {I : Jt} (hI : Cl (FM (cutN 69 t_X6_draftOctal) e_X6_draftOctal xn0 0 sws0 false Q X) I) :
    ∀ m i v z, i + m = 3 → v < 8 ^ i → (∀ τ, SC τ n t u (l ++ [(ocN n t m (k0 + i) v).2 % 256]) → Fr (drP u) σ τ → Q (some (.int (nI (i + (ocN n t m (k0 + i) v).1)))) τ) →
      I 0 7 [some (.ref 4), some (.int (nI k0)), some (.int (nI v)), some (.int (nI i)), some (.int (nI i)), z] [] σ := by
  have hT := hS.1
  have h2 := hT.2.1
  have hb := tg_c (σ := σ) hT.2.2.2
  have dn : ∀ i v z, i ≤ 3 → v < 8 ^ i → (∀ τ, SC τ n t u (l ++ [v % 256]) → Fr (drP u) σ τ → Q (some (.int (nI i))) τ) → I 0 55 [some (.ref 4), some (.int (nI k0)), some (.int (nI v)), some (.int (nI i)), some (.int (nI i)), z] [] σ := by
    intro i v z hi hv h
    have hv' : v < 512 := Nat.lt_of_lt_of_le hv (Nat.le_trans (Nat.pow_le_pow_right (by omega) hi) (by decide))
    refine run_in (stop := fun _ => false) hI 30 ?_
    refine ⟨Nat.le_refl _, ?_⟩
    show P_X4_draft [.ref 2, .int (nI v &&& 255)] _ _ _
    rw [pk_andN (by omega) 8 (by decide)]
    exact sp_X4_draft hS hl (Nat.mod_lt _ (by decide)) (fun τ h1 h2 => h τ h1 h2)
  intro m
  induction m with
  | zero =>
    intro i v z hi hv h
    refine run_in (stop := fun pc => Nat.beq pc 7 || Nat.beq pc 55) hI 40 ?_
    refine pk_le 3 i (fun g => ?_) (fun g => by omega) rfl rfl
    exact dn i v z (by omega) hv (fun τ h1 h2 => h τ h1 h2)
  | succ m ih =>
    intro i v z hi hv h
    have hv' : v < 512 := Nat.lt_of_lt_of_le hv (Nat.le_trans (Nat.pow_le_pow_right (by omega) (show i ≤ 3 by omega)) (by decide))
    refine run_in (stop := fun pc => Nat.beq pc 7 || Nat.beq pc 55) hI 40 ?_
    refine pk_le 3 i (fun g => by omega) (fun g => ?_) rfl rfl
    refine ⟨Nat.le_refl _, ?_⟩
    show P_X5_get [.ref 1, .int (nI k0 + nI i)] _ _ _
    rw [nI_add]
    refine sp_X5_get hT (by omega) (fun r hr => ?_)
    subst hr
    refine ⟨Nat.le_refl _, sp_X0_octalOf (hb _) (fun r hr => ?_)⟩
    subst hr
    obtain ⟨d1, d2⟩ := ov_oc (tg n t (k0 + i)) (hb _)
    cases he : oc8 (tg n t (k0 + i)) with
    | true =>
      obtain ⟨e1, e2, e3, e4, -⟩ := d1 he
      refine And.intro (fun g => ?_) (fun g => absurd g e2)
      rw [e1]
      have hE : nI v * 8 + nI (tg n t (k0 + i) - 48) = nI (8 * v + (tg n t (k0 + i) - 48)) := by
        rw [show (8 : Int32) = nI 8 from rfl, nI_mul, nI_add, Nat.mul_comm]
      have := ih (i + 1) (8 * v + (tg n t (k0 + i) - 48)) (some (.int (nI (tg n t (k0 + i) - 48)))) (by omega) (by rw [Nat.pow_succ]; omega) (fun τ h1 h2 => by
        have hq := h τ (by simp only [ocN, he, if_true]; rw [Nat.add_assoc]; exact h1) h2
        simp only [ocN, he, if_true] at hq
        rw [show i + 1 + (ocN n t m (k0 + (i + 1)) (8 * v + (tg n t (k0 + i) - 48))).1 = i + ((ocN n t m (k0 + i + 1) (8 * v + (tg n t (k0 + i) - 48))).1 + 1) by rw [← Nat.add_assoc k0 i 1]; omega]
        exact hq)
      rw [← hE, nI_succ] at this
      exact this
    | false =>
      refine And.intro (fun g => absurd (d2 he) g) (fun g => ?_)
      rw [d2 he]
      refine dn i v _ (by omega) hv (fun τ h1 h2 => ?_)
      have hq := h τ (by simp only [ocN, he]; exact h1) h2
      simp only [ocN, he] at hq
      exact hq
theorem sp_X6_draftOctal {k : Nat} (hS : SC σ n t u l) (hl : l.length < 1000000) (hk : k ≤ n) (h : ∀ τ, SC τ n t u (l ++ [(ocN n t 3 k 0).2 % 256]) → Fr (drP u) σ τ → Q (some (.int (nI (ocN n t 3 k 0).1))) τ) : P_X6_draftOctal [.ref 4, .int (nI k)] σ Q X := by
  refine ⟨rfl, fun I hI => run_in (stop := fun pc => Nat.beq pc 7) hI 20 ?_⟩
  refine lp_draftOctal hS hl hk hI 3 0 0 none (by omega) (by decide) (fun τ h1 h2 => ?_)
  rw [Nat.zero_add]
  exact h τ h1 h2
theorem sp_X6_draftEscape {k : Nat} (hS : SC σ n t u l) (hl : l.length < 1000000) (hk : k ≤ n) (h : ∀ τ, SC τ n t u (l ++ (esc n t k).2) → Fr (drP u) σ τ → Q (some (.int (nI (esc n t k).1))) τ) : P_X6_draftEscape [.ref 4, .int (nI k)] σ Q X := by
  have hT := hS.1
  have h2 := hT.2.1
  have hb := tg_c (σ := σ) hT.2.2.2
  refine ⟨rfl, fun I hI => run_in (stop := fun _ => false) hI 60 ?_⟩
  refine ⟨Nat.le_refl _, sp_X5_get hT (by omega) (fun r hr => ?_)⟩
  subst hr
  refine And.intro (fun g => ?_) (fun g => ?_)
  · have g0 : ¬ tg n t k = 256 := fun e => g (by rw [e]; rfl)
    have hb' : tg n t k < 256 := by have := hb k; omega
    have fin : (tg n t k = 13 ∨ tg n t k = 10) → ∀ r, r = nI (lnl n t k) → Q (some (.int r)) σ := by
      intro e r hr
      have hq := h σ (by simp only [esc, g0, e, if_true, if_false, List.append_nil]; exact hS) Fr.rf
      simp only [esc, g0, e, if_true, if_false] at hq
      rw [hr]
      exact hq
    refine And.intro (fun g => ?_) (fun g => ?_)
    · have e := (vI_eq (c := 13) (hb k) (by decide)).mp g
      exact ⟨Nat.le_refl _, sp_X6_lineLength hT hk (fin (Or.inl e))⟩
    · have g1 : ¬ tg n t k = 13 := fun e => g ((vI_eq (hb k) (by decide)).mpr e)
      refine And.intro (fun g => ?_) (fun g => ?_)
      · have g2 : ¬ tg n t k = 10 := fun e => g ((vI_eq (hb k) (by decide)).mpr e)
        refine ⟨Nat.le_refl _, sp_X0_octalOf (hb _) (fun r hr => ?_)⟩
        subst hr
        obtain ⟨d1, d2⟩ := ov_oc (tg n t k) (hb _)
        cases he : oc8 (tg n t k) with
        | true =>
          refine And.intro (fun g => absurd g (d1 he).2.1) (fun g => ?_)
          refine ⟨Nat.le_refl _, sp_X6_draftOctal hS hl hk (fun τ h1 h2 => ?_)⟩
          have hq := h τ (by simp only [esc, g0, g1, g2, he, if_true, if_false, or_self]; exact h1) h2
          simp only [esc, g0, g1, g2, he, if_true, if_false, or_self] at hq
          exact hq
        | false =>
          refine And.intro (fun g => ?_) (fun g => absurd (d2 he) g)
          refine ⟨Nat.le_refl _, sp_X6_escaped (hb _) (fun r hr => ?_)⟩
          subst hr
          rw [(es_ok _ hb').2]
          refine ⟨Nat.le_refl _, sp_X4_draft hS hl (es_ok _ hb').1 (fun τ h1 h2 => ?_)⟩
          have hq := h τ (by simp only [esc, g0, g1, g2, he, if_false, or_self]; exact h1) h2
          simp only [esc, g0, g1, g2, he, if_false, or_self] at hq
          exact hq
      · have e := (vI_eq (c := 10) (hb k) (by decide)).mp g
        exact ⟨Nat.le_refl _, sp_X6_lineLength hT hk (fin (Or.inr e))⟩
  · have g0 : tg n t k = 256 := vI_inj _ (hb k) 256 (by decide) g
    have hq := h σ (by simp only [esc, g0, if_true, List.append_nil]; exact hS) Fr.rf
    simp only [esc, g0, if_true] at hq
    exact hq
end TK
