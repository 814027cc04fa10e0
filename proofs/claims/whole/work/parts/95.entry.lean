/-! ===== PURE: read and entry, in the class ===== -/
def wat (n : Nat) (t : Nat → Nat) (k : Nat) : List Nat := sb t (WD n t (SK n t k) - SK n t k) (SK n t k)
def wend (n : Nat) (t : Nat → Nat) (k : Nat) : Nat := WD n t (SK n t k)
theorem wend_b {n k : Nat} {t : Nat → Nat} (hk : k ≤ n) : SK n t k ≤ wend n t k ∧ wend n t k ≤ n ∧ k ≤ SK n t k ∧ SK n t k ≤ n := by
  have h1 := SK_b (n := n) (t := t) hk
  have h2 := WD_b (n := n) (t := t) h1.2
  exact ⟨h2.1, h2.2, h1.1, h1.2⟩
/-- number, generation, obj: the fault, the two, the place -/
def hed (n : Nat) (t : Nat → Nat) (k : Nat) : Nat × Nat × Nat × Nat := match IX 8388607 (wat n t k) with
  | none => (9, 0, 0, SK n t k)
  | some v => match IX 65535 (wat n t (wend n t k)) with
    | none => (9, v, 0, SK n t (wend n t k))
    | some g => if wat n t (wend n t (wend n t k)) = [111, 98, 106] then (0, v, g, wend n t (wend n t (wend n t k))) else (9, v, g, SK n t (wend n t (wend n t k)))
/-- what stands behind an object: the fault, the store, the place, the answer -/
def tal (n : Nat) (t : Nat → Nat) (S : St) (p nd : Nat) : Nat × St × Nat × Nat :=
  if wat n t p = [101, 110, 100, 111, 98, 106] then (0, S, wend n t p, nd) else
  if ¬ S.2.1 0 nd = nI 7 ∨ ¬ wat n t p = [115, 116, 114, 101, 97, 109] then (10, S, SK n t p, nd) else
  if pln n t (wend n t p) = 99999 then (8, S, SK n t p, nd) else
  if 4000 ≤ S.1 then (7, S, SK n t p, nd) else (0, adS S 9 (nI (pln n t (wend n t p))) (nI nd) [] 0, pln n t (wend n t p), S.1)
/-- a reading's end: fault, number, generation, place, store, answer -/
abbrev Rz : Type := Nat × Nat × Nat × Nat × St × Nat
def ST0 : Nat → Nat := fun _ => 0
def rd1 (n : Nat) (t : Nat → Nat) (S : St) (k : Nat) : Rz := ((rdo n t (n + 1) (S, 0, ST0, false) k).1, 0, 0, (rdo n t (n + 1) (S, 0, ST0, false) k).2.2, (rdo n t (n + 1) (S, 0, ST0, false) k).2.1.1, S.1)
def ent (n : Nat) (t : Nat → Nat) (S : St) (k : Nat) : Rz :=
  if (hed n t k).1 = 0 then
    (if (rdo n t (n + 1) (S, 0, ST0, false) (hed n t k).2.2.2).1 = 0 then
      ((tal n t (rdo n t (n + 1) (S, 0, ST0, false) (hed n t k).2.2.2).2.1.1 (rdo n t (n + 1) (S, 0, ST0, false) (hed n t k).2.2.2).2.2 S.1).1, (hed n t k).2.1, (hed n t k).2.2.1, (tal n t (rdo n t (n + 1) (S, 0, ST0, false) (hed n t k).2.2.2).2.1.1 (rdo n t (n + 1) (S, 0, ST0, false) (hed n t k).2.2.2).2.2 S.1).2.2.1, (tal n t (rdo n t (n + 1) (S, 0, ST0, false) (hed n t k).2.2.2).2.1.1 (rdo n t (n + 1) (S, 0, ST0, false) (hed n t k).2.2.2).2.2 S.1).2.1, (tal n t (rdo n t (n + 1) (S, 0, ST0, false) (hed n t k).2.2.2).2.1.1 (rdo n t (n + 1) (S, 0, ST0, false) (hed n t k).2.2.2).2.2 S.1).2.2.2)
    else ((rdo n t (n + 1) (S, 0, ST0, false) (hed n t k).2.2.2).1, (hed n t k).2.1, (hed n t k).2.2.1, (rdo n t (n + 1) (S, 0, ST0, false) (hed n t k).2.2.2).2.2, (rdo n t (n + 1) (S, 0, ST0, false) (hed n t k).2.2.2).2.1.1, 0))
  else ((hed n t k).1, (hed n t k).2.1, (hed n t k).2.2.1, (hed n t k).2.2.2, S, 0)
def ePc (j k : Nat) : Prop := rdP j k ∨ (j = 3 ∧ 7 ≤ k ∧ k ≤ 12) ∨ (j = 2 ∧ k = 9) ∨ j = 14
def PZ (σ : Sg) (n : Nat) (t : Nat → Nat) (S : St) (ob : Nat) (z : Rz) (Q : Po) : Prop :=
  ∀ τ, TapeC τ n t → CS τ (if z.1 = 0 then z.2.2.2.2.1 else S) → Fr ePc σ τ → τ.1 3 9 = 1 → τ.1 3 10 = nI z.2.2.2.1 → τ.1 3 11 = nI z.2.1 → τ.1 3 12 = nI z.2.2.1 → τ.1 2 9 = nI (if z.1 = 0 then ob + 1 else ob) → (∀ i, τ.1 14 i = if z.1 = 0 ∧ i = ob then nI S.1 else σ.1 14 i) → Q (some (.int (if z.1 = 0 then nI z.2.2.2.2.2 else fI z.1))) τ
theorem fI_neg : ∀ f, f < 11 → f ≠ 0 → fI f < 0 := by decide +kernel
section EN
variable {σ : Sg} {Q : Po} {X : Xo} {n : Nat} {t : Nat → Nat} {S : St} {k ob : Nat}
theorem sp_X6_seekWord (hT : TapeC σ n t) (hk : k ≤ n) (h : Q none (sM (sM σ 4 3 (nI (SK n t k))) 4 4 (nI (wend n t k)))) : P_X6_seekWord [.ref 4, .int (nI k)] σ Q X := by
  refine ⟨rfl, fun I hI => run_in (stop := fun _ => false) hI 30 ?_⟩
  refine ⟨Nat.le_refl _, sp_X5_pastBlanks hT hk (fun r hr => ?_)⟩
  subst hr
  refine ⟨Nat.le_refl _, ?_⟩
  show P_X5_pastWord [.ref 1, .int ((sM σ 4 3 (nI (SK n t k))).1 4 3)] (sM σ 4 3 (nI (SK n t k))) _ _
  rw [sM_s]
  refine sp_X5_pastWord (hT.fr (sM_o (by omega)) (fun k => sM_o (by omega))) (SK_b hk).2 (fun r hr => ?_)
  subst hr
  exact h
theorem sp_X7_needPlace {x : Int32} (hT : TapeC σ n t) (h0 : (x < 0 ∨ nI n < x) → X xI σ) (h1 : ∀ k, k ≤ n → x = nI k → Q none σ) : P_X7_needPlace [.ref 0, .int x] σ Q X := by
  have hn := hT.2.1
  refine ⟨rfl, fun I hI => run_in (stop := fun _ => false) hI 30 ?_⟩
  refine And.intro (fun g => ⟨by decide, h0 (Or.inl g)⟩) (fun g => ?_)
  obtain ⟨k, hk, rfl⟩ := nI_of g
  show (nI k ≤ σ.1 1 1 → _) ∧ (¬ nI k ≤ σ.1 1 1 → _)
  rw [hT.1]
  refine And.intro (fun g2 => ?_) (fun g2 => ⟨by decide, h0 (Or.inr (Int32.not_le.mp g2))⟩)
  exact h1 k ((nI_leI hk (by omega)).mp g2) rfl
def bgS (σ : Sg) : Sg := sM (sM (sM (sM (sM σ 3 9 1) 3 11 0) 3 12 0) 3 7 (σ.1 2 7)) 3 8 (σ.1 2 8)
theorem sp_X3_begin (h : Q none (bgS σ)) : P_X3_begin [.ref 3] σ Q X := by
  refine ⟨rfl, fun I hI => run_in (stop := fun _ => false) hI 40 ?_⟩
  exact ⟨Or.inr rfl, h⟩
theorem sp_X3_settle_bad {a : Int32} (ha : a < 0) (h : Q (some (.int a)) (sM (sM (sM σ 2 7 (σ.1 3 7)) 2 8 (σ.1 3 8)) 2 10 0)) : P_X3_settle [.ref 3, .int a] σ Q X := by
  refine ⟨rfl, fun I hI => run_in (stop := fun _ => false) hI 40 ?_⟩
  refine And.intro (fun g => absurd ha (Int32.not_lt.mpr g)) (fun _ => ?_)
  exact ⟨Nat.le_refl _, rfl, fun I hI => run_in (stop := fun _ => false) hI 20 h⟩
theorem sp_X3_settle_ok {a : Nat} (ha : a < 2 ^ 31) (ho : σ.1 2 9 = nI ob) (hob : ob < 4000) (h : Q (some (.int (nI a))) (sM (sM σ 14 ob (σ.1 3 7)) 2 9 (nI (ob + 1)))) : P_X3_settle [.ref 3, .int (nI a)] σ Q X := by
  refine ⟨rfl, fun I hI => run_in (stop := fun _ => false) hI 40 ?_⟩
  refine And.intro (fun _ => ?_) (fun g => absurd (nI_pos0 ha) g)
  refine ⟨Nat.le_refl _, rfl, fun I hI => run_in (stop := fun _ => false) hI 30 ?_⟩
  refine ⟨by decide, ?_⟩
  refine pk_le 4000 ob (fun g => by omega) (fun g => ?_) rfl ho
  refine ⟨rfl, pk_in ob 4000 hob ho, ?_⟩
  rw [show nI (ob + 1) = σ.1 2 9 + 1 by rw [ho, nI_succ], ← pk_cl ob ho] at h
  exact h
/-- settling: from a state that still holds what was read -/
theorem settle {σ0 : Sg} {z : Rz} (h : PZ σ0 n t S ob z Q) (hT : TapeC σ n t) (hC : CS σ z.2.2.2.2.1) (hE : EX S z.2.2.2.2.1) (hF : Fr ePc σ0 σ) (e7 : σ.1 3 7 = nI S.1) (e8 : σ.1 3 8 = nI S.2.2.1) (e9 : σ.1 3 9 = 1) (e10 : σ.1 3 10 = nI z.2.2.2.1) (e11 : σ.1 3 11 = nI z.2.1) (e12 : σ.1 3 12 = nI z.2.2.1) (ho : σ.1 2 9 = nI ob) (hob : z.1 = 0 → ob < 4000) (hf : z.1 < 11) (ha : z.2.2.2.2.2 < 2 ^ 31) (h14 : ∀ i, σ.1 14 i = σ0.1 14 i) : P_X3_settle [.ref 3, .int (if z.1 = 0 then nI z.2.2.2.2.2 else fI z.1)] σ Q X := by
  by_cases g : z.1 = 0
  · rw [if_pos g]
    refine sp_X3_settle_ok ha ho (hob g) ?_
    have := h (sM (sM σ 14 ob (σ.1 3 7)) 2 9 (nI (ob + 1))) (hT.fr ?_ (fun k => ?_)) ?_ ?_ ?_ ?_ ?_ ?_ ?_ (fun i => ?_)
    · rw [if_pos g] at this
      exact this
    · rw [sM_o (by omega), sM_o (by omega)]
    · rw [sM_o (by omega), sM_o (by omega)]
    · rw [if_pos g]
      exact (hC.m (by omega)).m (by omega)
    · exact (hF.s (by simp [ePc])).s (by simp [ePc])
    · rw [sM_o (by omega), sM_o (by omega)]; exact e9
    · rw [sM_o (by omega), sM_o (by omega)]; exact e10
    · rw [sM_o (by omega), sM_o (by omega)]; exact e11
    · rw [sM_o (by omega), sM_o (by omega)]; exact e12
    · rw [sM_s, if_pos g]
    · rw [sM_o (by omega)]
      by_cases q : i = ob
      · rw [if_pos ⟨g, q⟩, q, sM_s, e7]
      · rw [if_neg (fun y => q y.2), sM_o (by omega)]
        exact h14 i
  · rw [if_neg g]
    refine sp_X3_settle_bad (fI_neg _ hf g) ?_
    have := h (sM (sM (sM σ 2 7 (σ.1 3 7)) 2 8 (σ.1 3 8)) 2 10 0) (hT.fr ?_ (fun k => ?_)) ?_ ?_ ?_ ?_ ?_ ?_ ?_ (fun i => ?_)
    · rw [if_neg g] at this
      exact this
    · rw [sM_o (by omega), sM_o (by omega), sM_o (by omega)]
    · rw [sM_o (by omega), sM_o (by omega), sM_o (by omega)]
    · rw [if_neg g]
      refine hC.cut hE (fun _ => trivial) _ ?_ ?_ (fun j k h1 h2 => ?_) (fun k => ?_)
      · rw [sM_o (by omega), sM_o (by omega), sM_s]; exact e7
      · rw [sM_o (by omega), sM_s]; exact e8
      · rw [sM_o (by omega), sM_o (by omega), sM_o (by omega)]
      · rw [sM_o (by omega), sM_o (by omega), sM_o (by omega)]
    · exact ((hF.s (by simp [ePc, rdP])).s (by simp [ePc, rdP])).s (by simp [ePc, rdP])
    · rw [sM_o (by omega), sM_o (by omega), sM_o (by omega)]; exact e9
    · rw [sM_o (by omega), sM_o (by omega), sM_o (by omega)]; exact e10
    · rw [sM_o (by omega), sM_o (by omega), sM_o (by omega)]; exact e11
    · rw [sM_o (by omega), sM_o (by omega), sM_o (by omega)]; exact e12
    · rw [sM_o (by omega), sM_o (by omega), sM_o (by omega), if_neg g]; exact ho
    · rw [sM_o (by omega), sM_o (by omega), sM_o (by omega), if_neg (fun y => g y.1)]; exact h14 i
/-- the state behind begin -/
def BG (σ0 σ : Sg) (n : Nat) (t : Nat → Nat) (S : St) (ob : Nat) : Prop := TapeC σ n t ∧ CS σ S ∧ Fr ePc σ0 σ ∧ σ.1 3 7 = nI S.1 ∧ σ.1 3 8 = nI S.2.2.1 ∧ σ.1 3 9 = 1 ∧ σ.1 2 9 = nI ob ∧ ∀ i, σ.1 14 i = σ0.1 14 i
theorem BG.of (hT : TapeC σ n t) (hC : CS σ S) (ho : σ.1 2 9 = nI ob) : BG σ (bgS σ) n t S ob ∧ (bgS σ).1 3 11 = 0 ∧ (bgS σ).1 3 12 = 0 := by
  unfold bgS
  refine ⟨⟨hT.fr ?_ (fun k => ?_), ((((hC.m (by omega)).m (by omega)).m (by omega)).m (by omega)).m (by omega), ((((Fr.rf.s ?_).s ?_).s ?_).s ?_).s ?_, ?_, ?_, ?_, ?_, fun i => ?_⟩, ?_, ?_⟩
  · rw [sM_o (by omega), sM_o (by omega), sM_o (by omega), sM_o (by omega), sM_o (by omega)]
  · rw [sM_o (by omega), sM_o (by omega), sM_o (by omega), sM_o (by omega), sM_o (by omega)]
  · simp [ePc]
  · simp [ePc]
  · simp [ePc]
  · simp [ePc]
  · simp [ePc]
  · rw [sM_o (by omega), sM_s]; exact hC.1
  · rw [sM_s]; exact hC.2.1
  · rw [sM_o (by omega), sM_o (by omega), sM_o (by omega), sM_o (by omega), sM_s]
  · rw [sM_o (by omega), sM_o (by omega), sM_o (by omega), sM_o (by omega), sM_o (by omega)]; exact ho
  · rw [sM_o (by omega), sM_o (by omega), sM_o (by omega), sM_o (by omega), sM_o (by omega)]
  · rw [sM_o (by omega), sM_o (by omega), sM_o (by omega), sM_s]
  · rw [sM_o (by omega), sM_o (by omega), sM_s]
theorem rd_e {σ0 σ τ : Sg} (h1 : Fr ePc σ0 σ) (h2 : Fr (fun j k => rdP j k ∨ (j = 3 ∧ k = 10)) σ τ) : Fr ePc σ0 τ := h1.tr (h2.w (fun j k z => z.elim Or.inl (fun y => Or.inr (Or.inl (by omega)))))
theorem rdo_f {m : Nat} : ∀ (R : Rd) k, (rdo n t m R k).1 < 8 := by
  induction m with
  | zero => intro R k; simp [rdo]
  | succ m ih =>
    intro R k
    simp only [rdo]
    split
    · split
      · simp
      · exact ih _ _
    · exact trn_f
theorem sp_X7_read {x : Int32} (hT : TapeC σ n t) (hC : CS σ S) (hS : SZ S) (hW : WF S) (ho : σ.1 2 9 = nI ob) (hob : ob ≤ S.1) (h0 : (x < 0 ∨ nI n < x) → X xI σ) (h1 : ∀ k, k ≤ n → x = nI k → PZ σ n t S ob (rd1 n t S k) Q) : P_X7_read [.ref 0, .int x] σ Q X := by
  refine ⟨rfl, fun I hI => run_in (stop := fun _ => false) hI 40 ?_⟩
  refine ⟨Nat.le_refl _, sp_X7_needPlace hT h0 (fun k hk hx => ?_)⟩
  subst hx
  have h := h1 k hk rfl
  obtain ⟨⟨b1, b2, b3, b4, b5, b6, b7, b8⟩, b9, b10⟩ := BG.of hT hC ho
  refine ⟨Nat.le_refl _, sp_X3_begin ?_⟩
  refine ⟨Nat.le_refl _, sp_X3_takeObject (st := ST0) b1 b2 hS hk (fun τ q1 q2 q3 q4 q5 q6 => ?_)⟩
  have fq : ∀ c, c ≠ 5 → c ≠ 6 → c ≠ 10 → τ.1 3 c = (bgS σ).1 3 c := fun c h5 h6 h10 => q4.2 3 c (by simp [rdP, h5, h6, h10])
  have hO : OKR (S, 0, ST0, false) := ⟨hS, Nat.zero_le _, fun i hi => absurd hi (Nat.not_lt_zero i), fun z => by cases z⟩
  refine ⟨Nat.le_refl _, settle (z := rd1 n t S k) h q1 q2 (rdo_ex hO ⟨EX.rf, fun i hi => absurd hi (Nat.not_lt_zero i)⟩).1 (rd_e b3 q4) ((fq 7 (by decide) (by decide) (by decide)).trans b4) ((fq 8 (by decide) (by decide) (by decide)).trans b5) ((fq 9 (by decide) (by decide) (by decide)).trans b6) q5 ((fq 11 (by decide) (by decide) (by decide)).trans b9) ((fq 12 (by decide) (by decide) (by decide)).trans b10) ((q4.2 2 9 (by simp [rdP])).trans b7) (fun g => ?_) (by have := rdo_f (n := n) (t := t) (m := n + 1) (S, 0, ST0, false) k; exact Nat.lt_of_lt_of_le this (by omega)) (by show S.1 < 2 ^ 31; have := hS.1; omega) (fun i => (q4.2 14 i (by simp [rdP])).trans (b8 i))⟩
  have := (rdo_wf (st := ST0) hS hW g).2
  have := q3.1.1
  omega
end EN
