/-! ===== PURE: the model reads an object ===== -/
def RM (σ : Sg) (n : Nat) (t : Nat → Nat) (S : St) (d : Nat) (st : Nat → Nat) (kd : Bool) : Prop := TapeM σ n t ∧ MS σ S ∧ σ.1 7 29 = nI d ∧ (∀ i, i < d → σ.1 32 i = nI (st i)) ∧ ∃ kn : Bool, σ.1 7 31 = bI kn ∧ kd = (kd0 S d st && kn)
def mdP (j k : Nat) : Prop := (j = 7 ∧ (k = 3 ∨ k = 9 ∨ (22 ≤ k ∧ k ≤ 26) ∨ k = 28 ∨ k = 29 ∨ k = 31 ∨ k = 32)) ∨ (21 ≤ j ∧ j ≤ 26) ∨ j = 31 ∨ j = 32
theorem ma_md {σ τ : Sg} (h : Fr maP σ τ) : Fr mdP σ τ := h.w (fun j k z => by unfold maP at z; unfold mdP; omega)
theorem mr_md {σ τ : Sg} (h : Fr mrP σ τ) : Fr mdP σ τ := h.w (fun j k z => by unfold mrP at z; unfold mdP; omega)
def PTM (σ : Sg) (n : Nat) (t : Nat → Nat) (a : Nat) (o : Nat × Rd × Nat) (Q : Po) : Prop :=
  ∀ τ, RM τ n t o.2.1.1 o.2.1.2.1 o.2.1.2.2.1 o.2.1.2.2.2 → Fr mdP σ τ → τ.1 7 23 = nI a → (o.1 = 0 → τ.1 7 24 = nI o.2.2) → Q (some (.int (fI o.1))) τ
section MRE
variable {σ : Sg} {Q : Po} {X : Xo} {n : Nat} {t : Nat → Nat} {S : St} {R : Rd} {d a b : Nat} {st : Nat → Nat} {kd : Bool} {l : List Nat}
theorem ldtop (hM : MS σ S) (hS : SZ S) (h5 : σ.1 7 29 = nI d) (hs : ∀ i, i < d → σ.1 32 i = nI (st i)) (hd : 0 < d) (hd1 : d ≤ 100) (hst : st (d - 1) < S.1) : vp_in (σ.1 7 29 - 1) 100 ∧ el σ 32 (σ.1 7 29 - 1) = nI (st (d - 1)) ∧ vp_in (nI (st (d - 1))) 4000 ∧ el σ 21 (nI (st (d - 1))) = S.2.1 0 (st (d - 1)) := by
  have hz := hS.1
  have hx : σ.1 7 29 - 1 = nI (d - 1) := by rw [h5]; exact nI_sub (a := 1) (by omega)
  refine ⟨pk_in (d - 1) 100 (by omega) hx, ?_, nI_in (show st (d - 1) < 4000 by omega) (by decide), ?_⟩
  · rw [hx, el_nI (by decide) (by omega)]
    exact hs _ (by omega)
  · exact (ldm (i := 0) hM hS (by omega) hst).2
theorem kd0_inc : kd0 (inc S a) d st = kd0 S d st := by
  unfold kd0
  rw [decide_eq_decide]
  show (0 < d ∧ (if (0 : Nat) = 1 ∧ st (d - 1) = a then S.2.1 1 a + 1 else S.2.1 0 (st (d - 1))) = nI 7) ↔ _
  rw [if_neg (by omega)]
theorem sp_X8_valueIsThere (hT : TapeM σ n t) (hM : MS σ S) (h5 : σ.1 7 29 = nI d) (hs : ∀ i, i < d → σ.1 32 i = nI (st i)) (hS : SZ S) (hd : d ≤ 100) (hst : ∀ i, i < d → st i < S.1)
    (h : ∀ τ, RM τ n t (val1 S d st).1 (val1 S d st).2.1 (val1 S d st).2.2.1 (val1 S d st).2.2.2 → Fr mdP σ τ → (∀ k, k ≠ 31 → τ.1 7 k = σ.1 7 k) → Q none τ) : P_X8_valueIsThere [.ref 7] σ Q X := by
  have hz := hS.1
  refine ⟨rfl, fun I hI => run_in (stop := fun _ => false) hI 40 ?_⟩
  refine pk_le d 0 (fun g => ?_) (fun g => ?_) h5 rfl
  · have hv : val1 S d st = (S, d, st, false) := by unfold val1; rw [if_pos (by omega)]
    rw [hv] at h
    refine ⟨Or.inr rfl, h _ ⟨hT.m (by omega), hM.m (by omega), (sM_o (by omega)).trans h5, fun i hi => (sM_o (by omega)).trans (hs i hi), true, sM_s, ?_⟩ (Fr.rf.s (by simp [mdP])) (fun k hk => sM_o (by omega))⟩
    simp only [kd0]
    rw [decide_eq_false (by omega)]
    rfl
  · have hv : val1 S d st = (inc S (st (d - 1)), d, st, kd0 S d st) := by unfold val1; rw [if_neg (by omega)]
    rw [hv] at h
    have hst' := hst (d - 1) (by omega)
    obtain ⟨a1, a2, a3, a4⟩ := ldtop hM hS h5 hs (by omega) hd hst'
    have a5 := (ldm (i := 1) hM hS (by omega) hst').2
    refine ⟨rfl, a1, ?_⟩
    rw [a2]
    refine ⟨rfl, a3, rfl, a3, Or.inr rfl, ?_⟩
    show Q none (sM (sM σ 22 (nI (st (d - 1))).toNatClampNeg (el σ 22 (nI (st (d - 1))) + 1)) 7 31 1)
    rw [nI_clamp (by omega), show el σ 22 (nI (st (d - 1))) = _ from a5]
    refine h _ ⟨(hT.fr (sM_o (by omega)) (fun k => sM_o (by omega))).m (by omega), MS.m ⟨(sM_o (by omega)).trans hM.1, (sM_o (by omega)).trans hM.2.1, fun i k hi hk => ?_, fun i hi => (sM_o (by omega)).trans (hM.2.2.2 i hi)⟩ (by omega), (sM_o (by omega)).trans ((sM_o (by omega)).trans h5), fun i hi => (sM_o (by omega)).trans ((sM_o (by omega)).trans (hs i hi)), true, sM_s, ?_⟩ ((Fr.rf.s (by simp [mdP])).s (by simp [mdP])) (fun k hk => (sM_o (by omega)).trans (sM_o (by omega)))
    · show _ = if i = 1 ∧ k = st (d - 1) then S.2.1 1 (st (d - 1)) + 1 else S.2.1 i k
      by_cases e : i = 1 ∧ k = st (d - 1)
      · rw [if_pos e, e.1, e.2]
        exact sM_s
      · have hmc : mc i = 22 → i = 1 := by
          intro z
          unfold mc at z
          split at z
          · omega
          · split at z
            · assumption
            · split at z <;> (try split at z) <;> omega
        rw [if_neg e, sM_o (by omega)]
        exact hM.2.2.1 i k hi hk
    · rw [kd0_inc]
      simp
def sns (kd inA : Bool) (s wr : Nat) (w : List Nat) : Nat :=
  if s = 0 then 1 else if wr ≠ 0 then wr else if kd = true then (if s = 6 ∨ s = 4 then 0 else 5) else if s = 2 then (if inA = true then 0 else 2) else
  if s = 1 ∨ s = 3 ∨ s = 5 ∨ s = 6 then 0 else if s = 7 ∧ (isN w = true ∨ w = [110, 117, 108, 108] ∨ w = [116, 114, 117, 101] ∨ w = [102, 97, 108, 115, 101]) then 0 else 2
def inA0 (S : St) (d : Nat) (st : Nat → Nat) : Bool := decide (0 < d ∧ S.2.1 0 (st (d - 1)) = nI 6)
theorem sp_X8_sense (hL : TL σ n t a) (ha : a ≤ n) (hR : RM σ n t R.1 R.2.1 R.2.2.1 R.2.2.2) (hO : OKR R) (h : ∀ r, r = fI (sns R.2.2.2 (inA0 R.1 R.2.1 R.2.2.1) (LKs n t a).1 (LKw n t a) (LKt n t a)) → Q (some (.int r)) σ) : P_X8_sense [.ref 7] σ Q X := by
  obtain ⟨o1, o2, o3, o4⟩ := hO
  obtain ⟨hT, hM, h5, hs, kn, hkn, hkd⟩ := hR
  obtain ⟨l0, l1, l2, l3, l4, l5⟩ := hL
  have hL : TL σ n t a := ⟨l0, l1, l2, l3, l4, l5⟩
  obtain ⟨s1, s2, s3, s4, s5⟩ := LKs_s (n := n) (a := a) (t := t)
  have hw : LKw n t a < 5 ∧ LKw n t a ≠ 2 := by
    unfold LKw
    split <;> omega
  have hwf := wrI_f _ hw.1 hw.2
  have eS : ∀ c : Nat, c < 9 → (σ.1 7 22 = nI c ↔ (LKs n t a).1 = c) := fun c hc => by rw [l1]; exact nI_eq (by omega) (by omega)
  generalize hs0 : (LKs n t a).1 = s at *
  generalize hkk : R.2.2.2 = kd at *
  generalize hia : inA0 R.1 R.2.1 R.2.2.1 = ia at *
  refine ⟨rfl, fun I hI => run_in (stop := fun pc => Nat.beq pc 62) hI 80 ?_⟩
  -- what begins an object
  have p3 : kd = false → s ≠ 0 → LKw n t a = 0 → s ≠ 2 → I 0 143 [some (.ref 7), some (.int (bI kd)), some (.int (bI ia)), none, none] [] σ := by
    intro g1 g2 g3 g4
    have yes : (s = 1 ∨ s = 3 ∨ s = 5 ∨ s = 6) → Q (some (.int 0)) σ := fun e => h _ (by unfold sns; rw [if_neg g2, if_neg (by omega), g1, if_neg (by simp), if_neg g4, if_pos e]; rfl)
    refine run_in (stop := fun pc => false) hI 80 ?_
    refine pk_eq s 1 (fun g => ?_) (fun n1 => ?_) l1 rfl
    · exact And.intro (fun _ => And.intro (fun z => absurd z (by decide)) (fun _ => yes (by omega))) (fun z => absurd z (by decide))
    refine pk_eq s 3 (fun g => ?_) (fun n3 => ?_) l1 rfl
    · exact And.intro (fun _ => And.intro (fun z => absurd z (by decide)) (fun _ => yes (by omega))) (fun z => absurd z (by decide))
    refine pk_eq s 5 (fun g => ?_) (fun n5 => ?_) l1 rfl
    · exact And.intro (fun _ => And.intro (fun z => absurd z (by decide)) (fun _ => yes (by omega))) (fun z => absurd z (by decide))
    refine kne s 6 (fun n6 => ?_) (fun g => ?_) l1 rfl
    · have hv : ∀ w, sns kd ia s (LKw n t a) w = if s = 7 ∧ (isN w = true ∨ w = [110, 117, 108, 108] ∨ w = [116, 114, 117, 101] ∨ w = [102, 97, 108, 115, 101]) then 0 else 2 := by
        intro w
        unfold sns
        rw [if_neg g2, if_neg (by omega), g1, if_neg (by simp), if_neg g4, if_neg (by omega)]
      rw [hv] at h
      refine And.intro (fun z => absurd rfl z) (fun _ => ?_)
      refine ⟨Nat.le_refl _, sp_X8_isNumber l1 (by omega) l5 (fun r hr => ?_)⟩
      subst hr
      refine And.intro (fun g => ?_) (fun g => ?_)
      · have g := bIt g
        simp only [Bool.and_eq_true, decide_eq_true_eq] at g
        exact And.intro (fun z => absurd z (by decide)) (fun _ => h _ (by rw [if_pos ⟨g.1, Or.inl g.2⟩]; rfl))
      · have m1 := bIf g
        refine ⟨Nat.le_refl _, sp_X8_isWord (j := 60) (by omega) (by omega) l1 (by omega) l5 (fun r hr => ?_)⟩
        subst hr
        refine And.intro (fun g => ?_) (fun g => ?_)
        · have g := of_decide_eq_true (bIt g)
          exact And.intro (fun z => absurd z (by decide)) (fun _ => h _ (by rw [if_pos ⟨g.1, Or.inr (Or.inl g.2)⟩]; rfl))
        · have m2 := of_decide_eq_false (bIf g)
          refine ⟨Nat.le_refl _, sp_X8_isWord (j := 61) (by omega) (by omega) l1 (by omega) l5 (fun r hr => ?_)⟩
          subst hr
          refine And.intro (fun g => ?_) (fun g => ?_)
          · have g := of_decide_eq_true (bIt g)
            exact And.intro (fun z => absurd z (by decide)) (fun _ => h _ (by rw [if_pos ⟨g.1, Or.inr (Or.inr (Or.inl g.2))⟩]; rfl))
          · have m3 := of_decide_eq_false (bIf g)
            refine ⟨Nat.le_refl _, sp_X8_isWord (j := 62) (by omega) (by omega) l1 (by omega) l5 (fun r hr => ?_)⟩
            subst hr
            refine And.intro (fun g => ?_) (fun g => ?_)
            · have m4 := of_decide_eq_false (bIf g)
              refine And.intro (fun _ => h _ ?_) (fun z => absurd rfl z)
              rw [if_neg]
              · rfl
              · rintro ⟨q1, q2⟩
                rcases q2 with q2 | q2 | q2 | q2
                · rw [q1, q2] at m1; cases m1
                · exact m2 ⟨q1, q2⟩
                · exact m3 ⟨q1, q2⟩
                · exact m4 ⟨q1, q2⟩
            · have g := of_decide_eq_true (bIt g)
              exact And.intro (fun z => absurd z (by decide)) (fun _ => h _ (by rw [if_pos ⟨g.1, Or.inr (Or.inr (Or.inr g.2))⟩]; rfl))
    · exact And.intro (fun _ => And.intro (fun z => absurd z (by decide)) (fun _ => yes (by omega))) (fun z => absurd z (by decide))
  have p2 : kd = false → s ≠ 0 → LKw n t a = 0 → I 0 124 [some (.ref 7), some (.int (bI kd)), some (.int (bI ia)), none, none] [] σ := by
    intro g1 g2 g3
    refine run_in (stop := fun pc => Nat.beq pc 143) hI 80 ?_
    refine kne s 2 (fun g => p3 g1 g2 g3 g) (fun g => ?_) l1 rfl
    refine And.intro (fun z => h _ ?_) (fun z => h _ ?_)
    · unfold sns
      rw [if_neg g2, if_neg (by omega), g1, if_neg (by simp), if_pos g, bIf z]
      rfl
    · unfold sns
      rw [if_neg g2, if_neg (by omega), g1, if_neg (by simp), if_pos g, bIt z]
      rfl
  have p1 : s ≠ 0 → LKw n t a = 0 → I 0 62 [some (.ref 7), some (.int (bI kd)), none, none, none] [] σ := by
    intro g2 g3
    refine run_in (stop := fun pc => Nat.beq pc 124) hI 80 ?_
    refine And.intro (fun z => ?_) (fun z => ?_)
    · have g1 := bIf z
      have p2 := p2 g1 g2 g3
      refine pk_le R.2.1 0 (fun g => ?_) (fun g => ?_) h5 rfl
      · rw [show ia = false by rw [← hia]; exact decide_eq_false (by omega)] at p2
        exact p2
      · obtain ⟨a1, a2, a3, a4⟩ := ldtop hM o1 h5 hs (by omega) o2 (o3 _ (by omega))
        refine ⟨rfl, a1, ?_⟩
        rw [a2]
        refine ⟨rfl, a3, ?_⟩
        rw [a4]
        refine And.intro (fun e => ?_) (fun e => ?_)
        · rw [show ia = false by rw [← hia]; exact decide_eq_false (fun z => e z.2)] at p2
          exact p2
        · rw [show ia = true by rw [← hia]; exact decide_eq_true ⟨by omega, e⟩] at p2
          exact p2
    · have g1 := bIt z
      have hv : ∀ w, sns kd ia s (LKw n t a) w = if s = 6 ∨ s = 4 then 0 else 5 := by
        intro w
        unfold sns
        rw [if_neg g2, if_neg (by omega), g1, if_pos rfl]
      rw [hv] at h
      refine pk_eq s 6 (fun g => h _ (by rw [if_pos (Or.inl g)]; rfl)) (fun g => ?_) l1 rfl
      refine kne s 4 (fun g' => h _ (by rw [if_neg (by omega)]; rfl)) (fun g' => h _ (by rw [if_pos (Or.inr g')]; rfl)) l1 rfl
  refine kne s 0 (fun g0 => ?_) (fun g0 => h _ (by unfold sns; rw [if_pos g0]; rfl)) l1 rfl
  show (σ.1 7 25 = 0 → _) ∧ (¬ σ.1 7 25 = 0 → _)
  rw [l4, hwf]
  refine And.intro (fun g => ?_) (fun g => ?_)
  · have g := (fI_0 _ (by omega)).mp g
    have p1 := p1 g0 g
    refine pk_le R.2.1 0 (fun g => ?_) (fun g => ?_) h5 rfl
    · rw [show kd = false by rw [hkd]; unfold kd0; rw [decide_eq_false (by omega)]; rfl] at p1
      exact p1
    · obtain ⟨a1, a2, a3, a4⟩ := ldtop hM o1 h5 hs (by omega) o2 (o3 _ (by omega))
      refine ⟨rfl, a1, ?_⟩
      rw [a2]
      refine ⟨rfl, a3, ?_⟩
      rw [a4]
      refine And.intro (fun e => ?_) (fun e => ?_)
      · rw [show kd = false by rw [hkd]; unfold kd0; rw [decide_eq_false (fun z => e z.2)]; rfl] at p1
        exact p1
      · have hk0 : kd0 R.1 R.2.1 R.2.2.1 = true := decide_eq_true ⟨by omega, e⟩
        show (σ.1 7 31 = 0 → _) ∧ (¬ σ.1 7 31 = 0 → _)
        rw [hkn]
        refine And.intro (fun e2 => ?_) (fun e2 => ?_)
        · rw [show kd = false by rw [hkd, bIf e2, Bool.and_false]] at p1
          exact p1
        · rw [show kd = true by rw [hkd, bIt e2, hk0]; rfl] at p1
          exact p1
  · have g := fun z => g ((fI_0 _ (by omega)).mpr z)
    exact h _ (by unfold sns; rw [if_neg g0, if_pos g]; exact l4.trans hwf)
end MRE
