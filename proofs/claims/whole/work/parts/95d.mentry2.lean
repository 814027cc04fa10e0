/-! ===== PURE: entry, in the model ===== -/
section ME2
variable {σ : Sg} {Q : Po} {X : Xo} {n : Nat} {t : Nat → Nat} {S : St} {k ob : Nat}
def mhP (j k : Nat) : Prop := mrP j k ∨ (j = 7 ∧ (k = 16 ∨ k = 17))
theorem TapeM.mh {τ : Sg} (hT : TapeM σ n t) (h : Fr mhP σ τ) : TapeM τ n t := hT.fr (h.2 7 1 (by simp [mhP, mrP])) (fun k => h.2 20 k (by simp [mhP, mrP]))
theorem MS.mh {τ : Sg} (hM : MS σ S) (h : Fr mhP σ τ) : MS τ S := hM.fr (h.2 7 3 (by simp [mhP, mrP])) (h.2 7 9 (by simp [mhP, mrP])) (fun j k h1 h2 => h.2 j k (by simp [mhP, mrP]; omega))
theorem mr_mh {τ : Sg} (h : Fr mrP σ τ) : Fr mhP σ τ := h.w (fun _ _ z => Or.inl z)
theorem ix7 {a most v : Nat} (ha : a ≤ n) (h : IX most (sb t (WD n t a - a) a) = some v) : (LKs n t a).1 = 7 := by
  have := cnt_eq (n := n) (a := a) (most := most) (t := t) ha
  rw [h] at this
  split at this
  · assumption
  · cases this
theorem wd7 {a c : Nat} {L : List Nat} (ha : a ≤ n) (h : sb t (WD n t a - a) a = c :: L) : (LKs n t a).1 = 7 := by
  have := wd_eq (n := n) (a := a) (t := t) (c := c) (L := L) ha
  rw [decide_eq_true h] at this
  exact (of_decide_eq_true this).1
theorem sp_X8_readHead (hT : TapeM σ n t) (hk : k ≤ n) (e16 : σ.1 7 16 = 0) (e17 : σ.1 7 17 = 0) (h : ∀ τ, TapeM τ n t → Fr mhP σ τ → τ.1 7 16 = nI (hed n t k).2.1 → τ.1 7 17 = nI (hed n t k).2.2.1 → ((hed n t k).1 = 0 → τ.1 7 24 = nI (hed n t k).2.2.2) → ((hed n t k).1 ≠ 0 → τ.1 7 23 = nI (hed n t k).2.2.2) → Q (some (.int (bI (decide ((hed n t k).1 = 0))))) τ) : P_X8_readHead [.ref 7, .int (nI k)] σ Q X := by
  have w1 := wend_b (n := n) (t := t) hk
  have w2 := wend_b (n := n) (t := t) w1.2.1
  have w3 := wend_b (n := n) (t := t) w2.2.1
  unfold hed at h
  refine ⟨rfl, fun I hI => run_in (stop := fun _ => false) hI 60 ?_⟩
  refine ⟨Nat.le_refl _, sp_look hT hk (fun τ1 a1 a2 => ?_)⟩
  refine ⟨Nat.le_refl _, sp_isCount (most := 8388607) a1 w1.2.2.2 (by omega) (fun o ho => ?_)⟩
  have ho : o = IX 8388607 (wat n t k) := ho
  cases o with
  | none =>
    rw [← ho] at h
    refine And.intro (fun g => absurd rfl g) (fun _ => ⟨bo0, ?_⟩)
    exact h _ (a1.1.m (by omega)) ((mr_mh a2).s (by simp [mhP, mrP])) ((sM_o (by omega)).trans ((a2.2 7 16 (by simp [mrP])).trans e16)) ((sM_o (by omega)).trans ((a2.2 7 17 (by simp [mrP])).trans e17)) (fun z => by cases z) (fun _ => (sM_o (by omega)).trans a1.2.2.1)
  | some v =>
    rw [← ho] at h
    have h71 := (LK7.1 (ix7 w1.2.2.2 ho.symm)).2.1
    refine And.intro (fun _ => ?_) (fun g => absurd g (show ¬ (1 : Int32) = 0 by decide))
    have hs2 : ∀ σ2 : Sg, σ2 = sM (sM τ1 7 28 (nI v)) 7 16 (nI v) → TapeM σ2 n t ∧ σ2.1 7 24 = nI (wend n t k) ∧ Fr mhP σ σ2 ∧ σ2.1 7 16 = nI v ∧ σ2.1 7 17 = 0 := by
      intro σ2 hs
      subst hs
      refine ⟨(a1.1.m (by omega)).m (by omega), ?_, ((mr_mh a2).s (by simp [mhP, mrP])).s (by simp [mhP]), sM_s, ?_⟩
      · rw [sM_o (by omega), sM_o (by omega), a1.2.2.2.1, h71]; rfl
      · rw [sM_o (by omega), sM_o (by omega), a2.2 7 17 (by simp [mrP])]
        exact e17
    obtain ⟨p1, p2, p3, p4, p5⟩ := hs2 _ rfl
    refine ⟨Nat.le_refl _, ?_⟩
    show P_X8_look [.ref 7, .int ((sM (sM τ1 7 28 (nI v)) 7 16 (nI v)).1 7 24)] (sM (sM τ1 7 28 (nI v)) 7 16 (nI v)) _ _
    generalize sM (sM τ1 7 28 (nI v)) 7 16 (nI v) = σ2 at p1 p2 p3 p4 p5 ⊢
    rw [p2]
    refine sp_look p1 w1.2.1 (fun τ3 c1 c2 => ?_)
    have c3 : Fr mhP σ τ3 := p3.tr (mr_mh c2)
    have c16 : τ3.1 7 16 = nI v := (c2.2 7 16 (by simp [mrP])).trans p4
    have c17 : τ3.1 7 17 = 0 := (c2.2 7 17 (by simp [mrP])).trans p5
    refine ⟨Nat.le_refl _, sp_isCount (most := 65535) c1 w2.2.2.2 (by omega) (fun o2 ho2 => ?_)⟩
    have ho2 : o2 = IX 65535 (wat n t (wend n t k)) := ho2
    cases o2 with
    | none =>
      simp only [← ho2] at h
      refine And.intro (fun g => absurd rfl g) (fun _ => ⟨bo0, ?_⟩)
      exact h _ (c1.1.m (by omega)) (c3.s (by simp [mhP, mrP])) ((sM_o (by omega)).trans c16) ((sM_o (by omega)).trans c17) (fun z => by cases z) (fun _ => (sM_o (by omega)).trans c1.2.2.1)
    | some g =>
      simp only [← ho2] at h
      have h72 := (LK7.1 (ix7 w2.2.2.2 ho2.symm)).2.1
      refine And.intro (fun _ => ?_) (fun g => absurd g (show ¬ (1 : Int32) = 0 by decide))
      have hs4 : ∀ σ4 : Sg, σ4 = sM (sM τ3 7 28 (nI g)) 7 17 (nI g) → TapeM σ4 n t ∧ σ4.1 7 24 = nI (wend n t (wend n t k)) ∧ Fr mhP σ σ4 ∧ σ4.1 7 16 = nI v ∧ σ4.1 7 17 = nI g := by
        intro σ4 hs
        subst hs
        refine ⟨(c1.1.m (by omega)).m (by omega), ?_, (c3.s (by simp [mhP, mrP])).s (by simp [mhP]), ?_, sM_s⟩
        · rw [sM_o (by omega), sM_o (by omega), c1.2.2.2.1, h72]; rfl
        · rw [sM_o (by omega), sM_o (by omega)]
          exact c16
      obtain ⟨r1, r2, r3, r4, r5⟩ := hs4 _ rfl
      refine ⟨Nat.le_refl _, ?_⟩
      show P_X8_look [.ref 7, .int ((sM (sM τ3 7 28 (nI g)) 7 17 (nI g)).1 7 24)] (sM (sM τ3 7 28 (nI g)) 7 17 (nI g)) _ _
      generalize sM (sM τ3 7 28 (nI g)) 7 17 (nI g) = σ4 at r1 r2 r3 r4 r5 ⊢
      rw [r2]
      refine sp_look r1 w2.2.1 (fun τ5 d1 d2 => ?_)
      have d3 : Fr mhP σ τ5 := r3.tr (mr_mh d2)
      have d16 : τ5.1 7 16 = nI v := (d2.2 7 16 (by simp [mrP])).trans r4
      have d17 : τ5.1 7 17 = nI g := (d2.2 7 17 (by simp [mrP])).trans r5
      refine ⟨Nat.le_refl _, sp_isWord (j := 64) d1 w3.2.2.2 (by omega) (by omega) rfl (fun r hr => ?_)⟩
      have hr : r = bI (decide (wat n t (wend n t (wend n t k)) = [111, 98, 106])) := hr
      subst hr
      by_cases z : wat n t (wend n t (wend n t k)) = [111, 98, 106]
      · simp only [if_pos z] at h
        have h73 := (LK7.1 (wd7 w3.2.2.2 z)).2.1
        rw [decide_eq_true z]
        exact ⟨bo1, h τ5 d1.1 d3 d16 d17 (fun _ => by rw [d1.2.2.2.1, h73]; rfl) (fun y => absurd rfl y)⟩
      · simp only [if_neg z] at h
        rw [decide_eq_false z]
        exact ⟨bo0, h τ5 d1.1 d3 d16 d17 (fun y => by cases y) (fun _ => d1.2.2.1)⟩
theorem sp_X8_refuseAt {f x y : Int32} (h : Q (some (.int f)) (sM (sM (sM σ 7 3 x) 7 9 y) 7 15 (σ.1 7 23))) : P_X8_refuseAt [.ref 7, .int f, .int x, .int y] σ Q X := by
  refine ⟨rfl, fun I hI => run_in (stop := fun _ => false) hI 30 ?_⟩
  exact h
/-- refusing: the store is what it was -/
theorem refM {σ0 : Sg} {S' : St} {z : Rz} {a : Nat} (h : PZM σ0 n t S ob z Q) (g : z.1 ≠ 0) (hB : BM σ0 σ n t S' ob) (hE : EX S S') (e23 : σ.1 7 23 = nI a) (ha : z.2.2.2.1 = a) (e16 : σ.1 7 16 = nI z.2.1) (e17 : σ.1 7 17 = nI z.2.2.1) : Q (some (.int (fI z.1))) (sM (sM (sM σ 7 3 (nI S.1)) 7 9 (nI S.2.2.1)) 7 15 (σ.1 7 23)) := by
  obtain ⟨c1, c2, c3, c4, c5, c6, c7, c8⟩ := hB
  refine badM h g (((c1.m (by omega)).m (by omega)).m (by omega)) (c2.cut hE _ ?_ ?_ (fun j k h1 h2 => ?_)) (((c3.s (by simp [ePm, mdP])).s (by simp [ePm, mdP])).s (by simp [ePm])) ?_ ?_ ?_ ?_ ?_ ?_ (fun i => ?_) (fun i => ?_)
  · rw [sM_o (by omega), sM_o (by omega), sM_s]
  · rw [sM_o (by omega), sM_s]
  · rw [sM_o (by omega), sM_o (by omega), sM_o (by omega)]
  · rw [sM_o (by omega), sM_o (by omega), sM_o (by omega)]; exact c4
  · rw [sM_o (by omega), sM_o (by omega), sM_o (by omega)]; exact c5
  · rw [sM_s, e23, ha]
  · rw [sM_o (by omega), sM_o (by omega), sM_o (by omega)]; exact e16
  · rw [sM_o (by omega), sM_o (by omega), sM_o (by omega)]; exact e17
  · rw [sM_o (by omega), sM_o (by omega), sM_o (by omega)]; exact c6
  · rw [sM_o (by omega), sM_o (by omega), sM_o (by omega)]; exact c7 i
  · rw [sM_o (by omega), sM_o (by omega), sM_o (by omega)]; exact c8 i
/-- a stream -/
theorem sp_X8_addStream {σ0 : Sg} {S' : St} {p nu ge : Nat} (h : PZM σ0 n t S ob ((tal n t S' p S.1).1, nu, ge, (tal n t S' p S.1).2.2.1, (tal n t S' p S.1).2.1, (tal n t S' p S.1).2.2.2) Q) (hB : BM σ0 σ n t S' ob) (hE : EX S S') (hS' : SZ S') (hp : p ≤ n) (hL : S'.1 ≤ 4000) (hob : ob < 4000) (e23 : σ.1 7 23 = nI (SK n t p)) (e24 : σ.1 7 24 = nI (wend n t p)) (e16 : σ.1 7 16 = nI nu) (e17 : σ.1 7 17 = nI ge) (g1 : ¬ wat n t p = [101, 110, 100, 111, 98, 106]) (g2 : ¬ (¬ S'.2.1 0 S.1 = nI 7 ∨ ¬ wat n t p = [115, 116, 114, 101, 97, 109])) : P_X8_addStream [.ref 7, .int (nI S.1), .int (nI S.1), .int (nI S.2.2.1)] σ Q X := by
  have w := wend_b (n := n) (t := t) hp
  have hT := hB.1
  have hn := hT.2.1
  have hb := tg_c (σ := σ) hT.2.2.2
  unfold tal at h
  rw [if_neg g1, if_neg g2] at h
  have dn : ∀ k c' : Nat, c' < 256 → ¬ vI (tg n t k) = nI c' → tg n t k ≠ c' := fun k c' hc g e => g ((vI_eq (hb k) hc).mpr e)
  refine ⟨rfl, fun I hI => run_in (stop := fun pc => Nat.beq pc 52 || Nat.beq pc 50) hI 60 ?_⟩
  have m50 : ∀ j : Nat, (j = 0 ∧ pln n t (wend n t p) = 99999 ∨ (j = 1 ∨ j = 2) ∧ pln n t (wend n t p) = wend n t p + j) → I 0 50 [some (.ref 7), some (.int (nI S.1)), some (.int (nI S.1)), some (.int (nI S.2.2.1)), none] [.int (nI j)] σ := by
    intro j hj
    refine run_in (stop := fun pc => Nat.beq pc 96) hI 60 ?_
    refine kne j 0 (fun q => ?_) (fun q => ?_) rfl rfl
    · have hpl : pln n t (wend n t p) = wend n t p + j := by omega
      rw [if_neg (by omega)] at h
      refine kne S'.1 4000 (fun q4 => ?_) (fun q4 => ?_) hB.2.1.1 rfl
      · rw [if_neg (by omega)] at h
        have e24' : σ.1 7 24 + nI j = nI (pln n t (wend n t p)) := by rw [e24, nI_add, hpl]
        have main : ∀ σ1 : Sg, σ1 = sM σ 7 15 (nI (pln n t (wend n t p))) → I 0 96 [some (.ref 7), some (.int (nI S.1)), some (.int (nI S.1)), some (.int (nI S.2.2.1)), some (.int (nI j))] [] σ1 := by
          intro σ1 hs
          have hB1 : BM σ0 σ1 n t S' ob := by
            rw [hs]
            exact hB.fr (hT.m (by omega)) (hB.2.1.m (by omega)) (Fr.rf.s (by simp [moP]))
          have e15 : σ1.1 7 15 = nI (pln n t (wend n t p)) := by rw [hs, sM_s]
          have f16 : σ1.1 7 16 = nI nu := by rw [hs, sM_o (by omega)]; exact e16
          have f17 : σ1.1 7 17 = nI ge := by rw [hs, sM_o (by omega)]; exact e17
          refine run_in (stop := fun _ => false) hI 60 ?_
          refine ⟨Nat.le_refl _, ?_⟩
          show P_X8_add [.ref 7, .int (nI 9), .int (σ1.1 7 15), .int (nI S.1)] σ1 _ _
          rw [e15]
          refine sp_X8_add 0 hB1.2.1 (by omega) (fun τ hM2 hF2 => ?_)
          have hB2 := hB1.fr (hB1.1.fr (hF2.2 7 1 (by simp [maP])) (fun k => hF2.2 20 k (by simp [maP]))) hM2 ((ma_md hF2).w (fun _ _ z => Or.inl z))
          refine ⟨Nat.le_refl _, sp_X8_keepObject hB2.2.2.2.2.2.1 hob ?_⟩
          have hk := keepM h rfl hB2.1 hB2.2.1 hB2.2.2.1 hB2.2.2.2.1 hB2.2.2.2.2.1 ((hF2.2 7 15 (by simp [maP])).trans e15) ((hF2.2 7 16 (by simp [maP])).trans f16) ((hF2.2 7 17 (by simp [maP])).trans f17) hB2.2.2.2.2.2.2.1 hB2.2.2.2.2.2.2.2
          have hr : (sM (sM (sM τ 27 ob (nI S.1)) 28 ob (nI S.2.2.1)) 7 11 (nI (ob + 1))).1 7 3 - 1 = nI S'.1 := by
            rw [sM_o (by omega), sM_o (by omega), sM_o (by omega), hM2.1]
            show nI (S'.1 + 1) - 1 = _
            exact nI_pred _
          simp only at hk
          rw [← hr] at hk
          exact hk
        have := main _ rfl
        rw [← e24'] at this
        exact this
      · rw [if_pos (by omega)] at h
        refine ⟨Nat.le_refl _, sp_X8_refuseAt ?_⟩
        exact refM (z := (7, nu, ge, SK n t p, S', S.1)) h (by simp) hB hE e23 rfl e16 e17
    · have hpl : pln n t (wend n t p) = 99999 := by omega
      rw [if_pos hpl] at h
      refine ⟨Nat.le_refl _, sp_X8_refuseAt ?_⟩
      exact refM (z := (8, nu, ge, SK n t p, S', S.1)) h (by simp) hB hE e23 rfl e16 e17
  have at0 : ∀ (Q' : Po) (X' : Xo), (∀ r, r = vI (tg n t (wend n t p)) → Q' (some (.int r)) σ) → P_X8_at [.ref 7, .int (σ.1 7 24)] σ Q' X' := by
    intro Q' X' hq
    rw [e24]
    exact sp_X8_at hT (by omega) hq
  refine ⟨Nat.le_refl _, at0 _ _ (fun r hr => ?_)⟩
  subst hr
  refine And.intro (fun q1 => ?_) (fun q1 => ?_)
  · have q1 := dn _ 10 (by decide) q1
    refine ⟨Nat.le_refl _, at0 _ _ (fun r hr => ?_)⟩
    subst hr
    refine And.intro (fun q2 => ?_) (fun q2 => ?_)
    · have q2 := dn _ 13 (by decide) q2
      exact m50 0 (Or.inl ⟨rfl, by simp [pln, q1, q2]⟩)
    · have q2 := (vI_eq (c := 13) (hb _) (by decide)).mp q2
      refine ⟨Nat.le_refl _, ?_⟩
      show P_X8_at [.ref 7, .int (σ.1 7 24 + 1)] σ _ _
      rw [e24, show nI (wend n t p) + 1 = nI (wend n t p + 1) from (nI_succ _).symm]
      refine sp_X8_at hT (by omega) (fun r hr => ?_)
      subst hr
      refine And.intro (fun q3 => ?_) (fun q3 => ?_)
      · have q3 := dn _ 10 (by decide) q3
        exact m50 0 (Or.inl ⟨rfl, by simp [pln, q2, q3]⟩)
      · have q3 := (vI_eq (c := 10) (hb _) (by decide)).mp q3
        exact m50 2 (Or.inr ⟨Or.inr rfl, by simp [pln, q2, q3]⟩)
  · have q1 := (vI_eq (c := 10) (hb _) (by decide)).mp q1
    exact m50 1 (Or.inr ⟨Or.inl rfl, by simp [pln, q1]⟩)
end ME2
