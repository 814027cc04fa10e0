/-! ===== PURE: entry, in the model, whole ===== -/
theorem hed_9 {n k : Nat} {t : Nat → Nat} (h : ¬ (hed n t k).1 = 0) : (hed n t k).1 = 9 := by
  unfold hed at h ⊢
  split at h
  · rfl
  · split at h
    · rfl
    · split at h
      · exact absurd rfl h
      · rename_i g
        rw [if_neg g]
section ME3
variable {σ : Sg} {Q : Po} {X : Xo} {n : Nat} {t : Nat → Nat} {S : St} {k ob : Nat}
theorem BM.mh {σ0 τ : Sg} (h : BM σ0 σ n t S ob) (hF : Fr mhP σ τ) : BM σ0 τ n t S ob := by
  obtain ⟨h1, h2, h3, h4, h5, h6, h7, h8⟩ := h
  refine ⟨h1.mh hF, h2.mh hF, h3.tr (hF.w (fun j k z => by unfold mhP mrP at z; unfold ePm mdP; omega)), ?_, ?_, ?_, fun i => ?_, fun i => ?_⟩
  · exact (hF.2 7 0 (by simp [mhP, mrP])).trans h4
  · exact (hF.2 7 14 (by simp [mhP, mrP])).trans h5
  · exact (hF.2 7 11 (by simp [mhP, mrP])).trans h6
  · exact (hF.2 27 i (by simp [mhP, mrP])).trans (h7 i)
  · exact (hF.2 28 i (by simp [mhP, mrP])).trans (h8 i)
/-- behind the object -/
theorem fin_entry {σ0 : Sg} {S1 : St} {p nu ge : Nat} (h : PZM σ0 n t S ob ((tal n t S1 p S.1).1, nu, ge, (tal n t S1 p S.1).2.2.1, (tal n t S1 p S.1).2.1, (tal n t S1 p S.1).2.2.2) Q) (hB : BM σ0 σ n t S1 ob) (hE : EX S S1) (hS1 : SZ S1) (hlt : S.1 < S1.1) (hp : p ≤ n) (hob : ob < 4000) (e15 : σ.1 7 15 = nI p) (e16 : σ.1 7 16 = nI nu) (e17 : σ.1 7 17 = nI ge) {I : Jt} (hI : Cl (FM (cutN 162 t_X8_entry) e_X8_entry xn0 0 sws0 false Q X) I) : I 0 86 [some (.ref 7), some (.int (nI k)), some (.int (nI S.1)), some (.int (nI S.2.2.1)), some (.int (nI S.1))] [] σ := by
  have w := wend_b (n := n) (t := t) hp
  have hz := hS1.1
  refine run_in (stop := fun pc => Nat.beq pc 122) hI 40 ?_
  refine ⟨Nat.le_refl _, ?_⟩
  show P_X8_look [.ref 7, .int (σ.1 7 15)] σ _ _
  rw [e15]
  refine sp_look hB.1 hp (fun τ a1 a2 => ?_)
  have hB1 := hB.mh (mr_mh a2)
  have f16 := (a2.2 7 16 (by simp [mrP])).trans e16
  have f17 := (a2.2 7 17 (by simp [mrP])).trans e17
  refine ⟨Nat.le_refl _, sp_isWord (j := 65) a1 w.2.2.2 (by omega) (by omega) rfl (fun r hr => ?_)⟩
  have hr : r = bI (decide (wat n t p = [101, 110, 100, 111, 98, 106])) := hr
  subst hr
  refine And.intro (fun g => ?_) (fun g => ?_)
  · have g1 := of_decide_eq_false (bIf g)
    have body : (¬ S1.2.1 0 S.1 = nI 7 ∨ ¬ wat n t p = [115, 116, 114, 101, 97, 109]) → Q (some (.int (-10))) (sM (sM (sM τ 7 3 (nI S.1)) 7 9 (nI S.2.2.1)) 7 15 (τ.1 7 23)) := by
      intro g2
      unfold tal at h
      rw [if_neg g1, if_pos g2] at h
      exact refM (z := (10, nu, ge, SK n t p, S1, S.1)) h (by simp) hB1 hE a1.2.2.1 rfl f16 f17
    show I 0 122 _ _ _
    refine run_in (stop := fun _ => false) hI 60 ?_
    obtain ⟨d1, d2⟩ := ldm (i := 0) hB1.2.1 hS1 (by omega) hlt
    have d2 : el τ 21 (nI S.1) = S1.2.1 0 S.1 := d2
    refine ⟨rfl, d1, ?_⟩
    rw [d2]
    refine And.intro (fun g7 => ?_) (fun g7 => ?_)
    · exact ⟨Nat.le_refl _, sp_X8_refuseAt (body (Or.inl g7))⟩
    · refine ⟨Nat.le_refl _, sp_isWord (j := 66) a1 w.2.2.2 (by omega) (by omega) rfl (fun r hr => ?_)⟩
      have hr : r = bI (decide (wat n t p = [115, 116, 114, 101, 97, 109])) := hr
      subst hr
      refine And.intro (fun gs => ?_) (fun gs => ?_)
      · have gs := of_decide_eq_true (bIt gs)
        have h7 := (LK7.1 (wd7 w.2.2.2 gs)).2.1
        refine ⟨Nat.le_refl _, sp_X8_addStream h hB1 hE hS1 hp hz hob a1.2.2.1 (by rw [a1.2.2.2.1, h7]; rfl) f16 f17 g1 (fun y => y.elim (fun y => y g7) (fun y => y gs))⟩
      · have gs := of_decide_eq_false (bIf gs)
        exact ⟨Nat.le_refl _, sp_X8_refuseAt (body (Or.inr gs))⟩
  · have g1 := of_decide_eq_true (bIt g)
    have h7 := (LK7.1 (wd7 w.2.2.2 g1)).2.1
    unfold tal at h
    rw [if_pos g1] at h
    have e24 : τ.1 7 24 = nI (wend n t p) := by rw [a1.2.2.2.1, h7]; rfl
    have hB2 : BM σ0 (sM τ 7 15 (τ.1 7 24)) n t S1 ob := hB1.fr (hB1.1.m (by omega)) (hB1.2.1.m (by omega)) (Fr.rf.s (by simp [moP]))
    refine ⟨Nat.le_refl _, sp_X8_keepObject hB2.2.2.2.2.2.1 hob ?_⟩
    exact keepM (z := (0, nu, ge, wend n t p, S1, S.1)) h rfl hB2.1 hB2.2.1 hB2.2.2.1 hB2.2.2.2.1 hB2.2.2.2.2.1 (sM_s.trans e24) ((sM_o (by omega)).trans f16) ((sM_o (by omega)).trans f17) hB2.2.2.2.2.2.2.1 hB2.2.2.2.2.2.2.2
theorem sp_X8_entry {x : Int32} (hT : TapeM σ n t) (hM : MS σ S) (hS : SZ S) (hW : WF S) (ho : σ.1 7 11 = nI ob) (hob : ob ≤ S.1) (h0 : (x < 0 ∨ nI n < x) → Q (some (.int 0)) (sM σ 7 0 1)) (h1 : ∀ k, k ≤ n → x = nI k → PZM σ n t S ob (ent n t S k) Q) : P_X8_entry [.ref 7, .int x] σ Q X := by
  refine ⟨rfl, fun I hI => run_in (stop := fun pc => Nat.beq pc 18) hI 60 ?_⟩
  have bad : (x < 0 ∨ nI n < x) → I 0 18 [some (.ref 7), some (.int x), none, none, none] [.int 1, .ref 7] σ := by
    intro g
    refine run_in (stop := fun _ => false) hI 60 ?_
    refine ⟨Nat.le_refl _, sp_X8_refused (b := true) (by decide) ?_⟩
    exact And.intro (fun g => absurd g (by decide)) (fun _ => h0 g)
  have good : ∀ k, k ≤ n → x = nI k → I 0 18 [some (.ref 7), some (.int x), none, none, none] [.int 0, .ref 7] σ := by
    intro k hk hx
    subst hx
    have h := h1 k hk rfl
    have hkb := hed_b (n := n) (t := t) hk
    have hO : OKR (S, 0, ST0, false) := ⟨hS, Nat.zero_le _, fun i hi => absurd hi (Nat.not_lt_zero i), fun z => by cases z⟩
    have hXR : ∀ p, EX S (rdo n t (n + 1) (S, 0, ST0, false) p).2.1.1 := fun p => (rdo_ex hO ⟨EX.rf, fun i hi => absurd hi (Nat.not_lt_zero i)⟩).1
    obtain ⟨hB, b16, b17⟩ := BM.of hT hM ho
    have m76 : ∀ (τ : Sg) (o : Nat × Rd × Nat) (nu ge : Nat), o = rdo n t (n + 1) (S, 0, ST0, false) (hed n t k).2.2.2 → nu = (hed n t k).2.1 → ge = (hed n t k).2.2.1 → (hed n t k).1 = 0 → BM σ τ n t (if o.1 = 0 then o.2.1.1 else S) ob → τ.1 7 15 = nI o.2.2 → τ.1 7 16 = nI nu → τ.1 7 17 = nI ge → I 0 78 [some (.ref 7), some (.int (nI k)), some (.int (nI S.1)), some (.int (nI S.2.2.1)), some (.int (if o.1 = 0 then nI S.1 else fI o.1))] [] τ := by
      intro τ o nu ge ho' hnu hge g hB1 f15 f16 f17
      have hrf : o.1 < 8 := by rw [ho']; exact rdo_f _ _
      have hz := hS.1
      refine run_in (stop := fun pc => Nat.beq pc 86) hI 40 ?_
      by_cases g2 : o.1 = 0
      · rw [if_pos g2] at hB1
        rw [if_pos g2]
        refine And.intro (fun _ => ?_) (fun y => absurd (nI_pos0 (by omega)) y)
        have g2' := g2
        rw [ho'] at g2'
        have hwf := (rdo_wf (st := ST0) hS hW g2').2
        have hzz := (rdo_ind (fun R => SZ R.1) (n := n) (t := t) (fun R a hR _ => (trn_ok hR).1) (n + 1) (S, 0, ST0, false) (hed n t k).2.2.2 hO hS).1
        have hpl : o.2.2 ≤ n := by rw [ho']; exact rdo_pl hT.2.2.2 (n + 1) _ _ hkb.1 g2'
        have he : ent n t S k = ((tal n t o.2.1.1 o.2.2 S.1).1, nu, ge, (tal n t o.2.1.1 o.2.2 S.1).2.2.1, (tal n t o.2.1.1 o.2.2 S.1).2.1, (tal n t o.2.1.1 o.2.2 S.1).2.2.2) := by
          unfold ent
          rw [if_pos g, if_pos g2', ho', hnu, hge]
        rw [he] at h
        rw [← ho'] at hwf hzz
        exact fin_entry h hB1 (by rw [ho']; exact hXR _) hzz hwf hpl (by have := hzz.1; omega) f15 f16 f17 hI
      · rw [if_neg g2] at hB1
        rw [if_neg g2]
        have g2' := g2
        rw [ho'] at g2'
        have he : ent n t S k = (o.1, nu, ge, o.2.2, o.2.1.1, 0) := by
          unfold ent
          rw [if_pos g, if_neg g2', ho', hnu, hge]
        rw [he] at h
        obtain ⟨c1, c2, c3, c4, c5, c6, c7, c8⟩ := hB1
        have hk := badM (z := (o.1, nu, ge, o.2.2, o.2.1.1, 0)) h g2 c1 c2 c3 c4 c5 f15 f16 f17 c6 c7 c8
        refine And.intro (fun y => absurd (fI_neg _ (by omega) g2) (Int32.not_lt.mpr y)) (fun _ => ?_)
        exact hk
    have m51 : ∀ σ1 : Sg, BM σ σ1 n t S ob → σ1.1 7 16 = 0 → σ1.1 7 17 = 0 → I 0 51 [some (.ref 7), some (.int (nI k)), some (.int (nI S.1)), some (.int (nI S.2.2.1)), none] [] σ1 := by
      intro σ1 hB1 q16 q17
      refine run_in (stop := fun pc => Nat.beq pc 78) hI 40 ?_
      refine ⟨Nat.le_refl _, sp_X8_readHead hB1.1 hk q16 q17 (fun τ a1 a2 a3 a4 a5 a6 => ?_)⟩
      have hB2 := hB1.mh a2
      by_cases g : (hed n t k).1 = 0
      · rw [decide_eq_true g]
        refine And.intro (fun _ => ?_) (fun y => absurd y (by decide))
        refine ⟨Nat.le_refl _, ?_⟩
        show P_X8_readObject [.ref 7, .int (τ.1 7 24)] τ _ _
        rw [a5 g]
        refine sp_X8_readObject (st := ST0) a1 hB2.2.1 hS hkb.1 (fun υ u1 u2 u3 u4 => ?_)
        exact m76 υ _ _ _ rfl rfl rfl g (hB2.fr u1 u2 u3) u4 ((u3.2 7 16 (by simp [moP, mdP])).trans a3) ((u3.2 7 17 (by simp [moP, mdP])).trans a4)
      · rw [decide_eq_false g]
        refine And.intro (fun y => absurd rfl y) (fun _ => ?_)
        have he : ent n t S k = ((hed n t k).1, (hed n t k).2.1, (hed n t k).2.2.1, (hed n t k).2.2.2, S, 0) := by
          unfold ent
          rw [if_neg g]
        rw [he] at h
        have h9 : (hed n t k).1 = 9 := hed_9 g
        have hr := refM (z := ((hed n t k).1, (hed n t k).2.1, (hed n t k).2.2.1, (hed n t k).2.2.2, S, 0)) h g hB2 EX.rf (a6 g) rfl a3 a4
        simp only [h9] at hr
        exact ⟨Nat.le_refl _, sp_X8_refuseAt hr⟩
    have e3 : (sM σ 7 0 0).1 7 3 = nI S.1 := (sM_o (by omega)).trans hM.1
    have e9 : (sM σ 7 0 0).1 7 9 = nI S.2.2.1 := (sM_o (by omega)).trans hM.2.1
    have m26 : ∀ σ1 : Sg, σ1 = sM σ 7 0 0 → I 0 26 [some (.ref 7), some (.int (nI k)), none, none, none] [] σ1 := by
      intro σ1 hs
      subst hs
      refine run_in (stop := fun pc => Nat.beq pc 51) hI 40 ?_
      have := m51 (ns1 σ) hB b16 b17
      rw [← e3, ← e9] at this
      exact ⟨Or.inr rfl, this⟩
    refine run_in (stop := fun pc => Nat.beq pc 26) hI 20 ?_
    refine ⟨Nat.le_refl _, sp_X8_refused (b := false) (by decide) ?_⟩
    exact And.intro (fun _ => m26 _ rfl) (fun g => absurd rfl g)
  refine And.intro (fun z => bad (Or.inl z)) (fun z => ?_)
  obtain ⟨k, hk, hx⟩ := nI_of z
  subst hx
  have hn := hT.2.1
  show (nI k ≤ σ.1 7 1 → _) ∧ (¬ nI k ≤ σ.1 7 1 → _)
  rw [hT.1]
  exact And.intro (fun z2 => good k ((nI_leI hk (by omega)).mp z2) rfl) (fun z2 => bad (Or.inr (Int32.not_le.mp z2)))
end ME3
