/-! ===== PURE: what reading keeps ===== -/
def LFok (what : Nat) (v x : Int32) (l : List Nat) : Prop :=
  (what = 0 ∨ what = 1 ∨ what = 2 ∨ what = 3 ∨ what = 4 ∨ what = 5 ∨ what = 8) ∧ ((what = 4 ∨ what = 5) → v = nI l.length) ∧
  ((what = 2 ∨ what = 3) → ∃ s, s ≤ 2147483647 ∧ (v = nI s ∨ v = (- lN s).toInt32)) ∧ (what = 8 → ∃ p g, p ≤ 8388607 ∧ g ≤ 65535 ∧ v = nI p ∧ x = nI g) ∧ (what ≠ 8 → x = 0) ∧ (what ≠ 4 → what ≠ 5 → l = [])
theorem rf2_b {n b : Nat} {t : Nat → Nat} {q : Nat × Nat} (hq : rf2 n t b = some q) : q.1 ≤ 65535 := by
  unfold rf2 at hq
  split at hq
  · cases hq
  · rename_i g hg
    split at hq
    · have := Option.some.inj hq
      rw [← this]
      exact IX_b hg
    · cases hq
theorem rfr_b {n b : Nat} {t : Nat → Nat} {w : List Nat} {q : Nat × Nat × Nat} (h : rfr n t b w = some q) : q.1 ≤ 8388607 ∧ q.2.1 ≤ 65535 := by
  unfold rfr at h
  split at h
  · cases h
  · rename_i v hv
    split at h
    · cases h
    · rename_i q' hq'
      have := Option.some.inj h
      rw [← this]
      exact ⟨IX_b hv, rf2_b hq'⟩
theorem amN_b (w : List Nat) : ∃ s, s ≤ 2147483647 ∧ (amN w = nI s ∨ amN w = (- lN s).toInt32) := by
  refine ⟨szN w, szN_b w, ?_⟩
  unfold amN
  split
  · exact Or.inr rfl
  · exact Or.inl (lN_i _)
theorem lf_ind (P : Rd → Prop) {R : Rd} (hP : P R) (h1 : ∀ what v x l, LFok what v x l → R.1.1 < 4000 → R.1.2.2.1 + l.length ≤ 32768 → P (val1 (adS R.1 what v x l R.2.1) R.2.1 R.2.2.1)) {what : Nat} {v x : Int32} {l : List Nat} {b : Nat} (hl : LFok what v x l) : P (leaf R what v x l b).2.1 := by
  unfold leaf
  split
  · exact hP
  · exact h1 what v x l hl (by omega) (by omega)
theorem trn_ind (P : Rd → Prop) {n : Nat} {t : Nat → Nat} {R : Rd} {a : Nat} (hO : OKR R) (hP : P R)
    (h1 : R.2.2.2 = false → ∀ what v x l, LFok what v x l → R.1.1 < 4000 → R.1.2.2.1 + l.length ≤ 32768 → P (val1 (adS R.1 what v x l R.2.1) R.2.1 R.2.2.1))
    (h2 : R.2.2.2 = false → ∀ what, (what = 6 ∨ what = 7) → R.2.1 < 100 → R.1.1 < 4000 → P (adS R.1 what 0 0 [] R.2.1, R.2.1 + 1, stp R.2.2.1 R.2.1 R.1.1, decide (what = 7)))
    (h3 : 0 < R.2.1 → (R.2.2.2 = true ∨ R.1.2.1 0 (R.2.2.1 (R.2.1 - 1)) = nI 6) → P (val1 (cls R.1 (R.2.2.1 (R.2.1 - 1))) (R.2.1 - 1) R.2.2.1))
    (h4 : R.2.2.2 = true → ∀ l, R.1.1 < 4000 → R.1.2.2.1 + l.length ≤ 32768 → P (adS R.1 5 (nI l.length) 0 l R.2.1, R.2.1, R.2.2.1, false)) : P (trn n t R a).2.1 := by
  have hs := (LKs_s (n := n) (a := a) (t := t)).2.1
  unfold trn
  split
  · unfold tkn
    split
    · rename_i hk
      split
      · exact h3 (hO.2.2.2 hk).1 (Or.inl hk)
      · split
        · unfold key1
          split
          · exact hP
          · exact h4 hk _ (by omega) (by omega)
        · exact hP
    · rename_i hk
      have hk : R.2.2.2 = false := by simpa using hk
      have h1 := h1 hk
      have ho : ∀ what b, (what = 6 ∨ what = 7) → P (opn R what b).2.1 := by
        intro what b hw
        unfold opn
        split
        · exact hP
        · split
          · exact hP
          · exact h2 hk what hw (by omega) (by omega)
      split
      · exact ho _ _ (Or.inl rfl)
      · split
        · exact ho _ _ (Or.inr rfl)
        · split
          · split
            · rename_i g
              exact h3 g.1 (Or.inr g.2)
            · exact hP
          · split
            · exact lf_ind P hP h1 ⟨by omega, fun _ => rfl, fun z => by omega, fun z => by omega, fun _ => rfl, fun z => absurd rfl z⟩
            · split
              · exact lf_ind P hP h1 ⟨by omega, fun _ => rfl, fun z => by omega, fun z => by omega, fun _ => rfl, fun _ z => absurd rfl z⟩
              · split
                · unfold wrd
                  split
                  · rename_i q hq
                    have hb := rfr_b hq
                    exact lf_ind P hP h1 ⟨by omega, fun z => by omega, fun z => by omega, fun _ => ⟨q.1, q.2.1, hb.1, hb.2, rfl, rfl⟩, fun z => absurd rfl z, fun _ _ => rfl⟩
                  · split
                    · exact lf_ind P hP h1 ⟨by omega, fun z => by omega, fun z => by omega, fun z => by omega, fun _ => rfl, fun _ _ => rfl⟩
                    · split
                      · exact lf_ind P hP h1 ⟨by omega, fun z => by omega, fun z => by omega, fun z => by omega, fun _ => rfl, fun _ _ => rfl⟩
                      · split
                        · exact lf_ind P hP h1 ⟨by omega, fun z => by omega, fun z => by omega, fun z => by omega, fun _ => rfl, fun _ _ => rfl⟩
                        · split
                          · have hw : ∀ w : Nat, (w = 2 ∨ w = 3) → LFok w (amN (sb t ((LKs n t a).2.1 - a) a)) 0 [] := fun w hw => ⟨by omega, fun z => by omega, fun _ => amN_b _, fun z => by omega, fun _ => rfl, fun _ _ => rfl⟩
                            exact lf_ind P hP h1 (hw _ (by split <;> omega))
                          · exact hP
                · exact hP
  · exact hP
theorem rdo_ind (P : Rd → Prop) {n : Nat} {t : Nat → Nat} (hs : ∀ R a, OKR R → P R → P (trn n t R a).2.1) : ∀ m (R : Rd) k, OKR R → P R → P (rdo n t m R k).2.1 ∧ ((rdo n t m R k).1 = 0 → (rdo n t m R k).2.1.2.1 = 0) := by
  intro m
  induction m with
  | zero => intro R k hO hP; exact ⟨hP, fun z => by cases z⟩
  | succ m ih =>
    intro R k hO hP
    have h1 := hs R (SK n t k) hO hP
    have h2 := trn_ok (n := n) (t := t) (a := SK n t k) hO
    simp only [rdo]
    split
    · split
      · rename_i g
        exact ⟨h1, fun _ => g⟩
      · exact ih _ _ h2 h1
    · rename_i g
      exact ⟨h1, fun z => absurd z g⟩
def EX (S0 S : St) : Prop := S0.1 ≤ S.1 ∧ S0.2.2.1 ≤ S.2.2.1 ∧ (∀ i k, k < S0.1 → S.2.1 i k = S0.2.1 i k) ∧ (∀ i, i < S0.2.2.1 → S.2.2.2 i = S0.2.2.2 i)
theorem EX.rf {S : St} : EX S S := ⟨Nat.le_refl _, Nat.le_refl _, fun _ _ _ => rfl, fun _ _ => rfl⟩
theorem EX.ad {S0 S : St} {what dp : Nat} {v x : Int32} {l : List Nat} (h : EX S0 S) : EX S0 (adS S what v x l dp) := by
  obtain ⟨h1, h2, h3, h4⟩ := h
  refine ⟨?_, ?_, fun i k hk => ?_, fun i hi => ?_⟩
  · show S0.1 ≤ S.1 + 1; omega
  · show S0.2.2.1 ≤ S.2.2.1 + l.length; omega
  · show (if k = S.1 then _ else S.2.1 i k) = _
    rw [if_neg (by omega)]
    exact h3 i k hk
  · show (if i < S.2.2.1 then S.2.2.2 i else _) = _
    rw [if_pos (by omega)]
    exact h4 i hi
theorem EX.inc {S0 S : St} {c : Nat} (h : EX S0 S) (hc : S0.1 ≤ c) : EX S0 (inc S c) := by
  obtain ⟨h1, h2, h3, h4⟩ := h
  refine ⟨h1, h2, fun i k hk => ?_, h4⟩
  show (if i = 1 ∧ k = c then S.2.1 1 c + 1 else S.2.1 i k) = _
  rw [if_neg (by omega)]
  exact h3 i k hk
theorem EX.cls {S0 S : St} {c : Nat} (h : EX S0 S) (hc : S0.1 ≤ c) : EX S0 (cls S c) := by
  obtain ⟨h1, h2, h3, h4⟩ := h
  refine ⟨h1, h2, fun i k hk => ?_, h4⟩
  show (if i = 3 ∧ k = c then nI S.1 else S.2.1 i k) = _
  rw [if_neg (by omega)]
  exact h3 i k hk
def EXR (S0 : St) (R : Rd) : Prop := EX S0 R.1 ∧ ∀ i, i < R.2.1 → S0.1 ≤ R.2.2.1 i
theorem EXR.val {S0 S : St} {d : Nat} {st : Nat → Nat} (h : EX S0 S) (hs : ∀ i, i < d → S0.1 ≤ st i) : EXR S0 (val1 S d st) := by
  unfold val1
  split
  · exact ⟨h, hs⟩
  · exact ⟨h.inc (hs _ (by omega)), hs⟩
theorem EXR.trn {S0 : St} {n : Nat} {t : Nat → Nat} {R : Rd} {a : Nat} (hO : OKR R) (h : EXR S0 R) : EXR S0 (trn n t R a).2.1 := by
  refine trn_ind (EXR S0) hO h (fun _ what v x l _ _ _ => EXR.val h.1.ad h.2) (fun _ what _ _ _ => ⟨h.1.ad, fun i hi => ?_⟩) (fun hd _ => EXR.val (h.1.cls (h.2 _ (by omega))) (fun i hi => h.2 i (by omega))) (fun _ l _ _ => ⟨h.1.ad, h.2⟩)
  show S0.1 ≤ (if i = R.2.1 then R.1.1 else R.2.2.1 i)
  have hi' : i < R.2.1 + 1 := hi
  split
  · exact h.1.1
  · exact h.2 i (by omega)
theorem rdo_ex {S0 : St} {n : Nat} {t : Nat → Nat} {m k : Nat} {R : Rd} (hO : OKR R) (h : EXR S0 R) : EXR S0 (rdo n t m R k).2.1 := (rdo_ind (EXR S0) (fun R a h1 h2 => EXR.trn h1 h2) m R k hO h).1
theorem CS.cut {σ : Sg} {S0 S : St} (h : CS σ S) (he : EX S0 S) (h1 : σ.1 2 7 = nI S.1 → True) : ∀ τ : Sg, τ.1 2 7 = nI S0.1 → τ.1 2 8 = nI S0.2.2.1 → (∀ j k, 9 ≤ j → j ≤ 13 → τ.1 j k = σ.1 j k) → (∀ k, τ.1 15 k = σ.1 15 k) → CS τ S0 := by
  intro τ a1 a2 a3 a4
  obtain ⟨e1, e2, e3, e4⟩ := he
  exact ⟨a1, a2, fun i k hi hk => by rw [a3 _ k (by omega) (by omega), h.2.2.1 i k hi (by omega), e3 i k hk], fun i hi => by rw [a4, h.2.2.2 i (by omega), e4 i hi]⟩
theorem MS.cut {σ : Sg} {S0 S : St} (h : MS σ S) (he : EX S0 S) : ∀ τ : Sg, τ.1 7 3 = nI S0.1 → τ.1 7 9 = nI S0.2.2.1 → (∀ j k, 21 ≤ j → j ≤ 26 → τ.1 j k = σ.1 j k) → MS τ S0 := by
  intro τ a1 a2 a3
  obtain ⟨e1, e2, e3, e4⟩ := he
  exact ⟨a1, a2, fun i k hi hk => by have := mc_b hi; rw [a3 _ k (by omega) (by omega), h.2.2.1 i k hi (by omega), e3 i k hk], fun i hi => by rw [a3 26 i (by omega) (by omega), h.2.2.2 i (by omega), e4 i hi]⟩
/-- what reading an object leaves, in the model -/
def moP (j k : Nat) : Prop := mdP j k ∨ (j = 7 ∧ k = 15)
def POM (σ : Sg) (n : Nat) (t : Nat → Nat) (S0 : St) (o : Nat × Rd × Nat) (Q : Po) : Prop :=
  ∀ τ, TapeM τ n t → MS τ (if o.1 = 0 then o.2.1.1 else S0) → Fr moP σ τ → τ.1 7 15 = nI o.2.2 → Q (some (.int (if o.1 = 0 then nI S0.1 else fI o.1))) τ
section RDM
variable {σ : Sg} {Q : Po} {X : Xo} {n : Nat} {t : Nat → Nat}
theorem fI_m1 : ∀ f, f < 8 → (fI f = -1 ↔ f = 1) := by decide +kernel
theorem lp_readObject {σ0 : Sg} {S0 : St} {fr : Nat} {o : Nat × Rd × Nat} (h : POM σ0 n t S0 o Q) {I : Jt} (hI : Cl (FM (cutN 131 t_X8_readObject) e_X8_readObject xn0 0 sws0 false Q X) I) :
    ∀ m (R : Rd) k z (σ : Sg), n < k + m → k ≤ n → rdo n t m R k = o → RM σ n t R.1 R.2.1 R.2.2.1 R.2.2.2 → OKR R → EXR S0 R → Fr mdP σ0 σ →
      I 0 26 [some (.ref 7), some (.int (nI fr)), some (.int (nI S0.1)), some (.int (nI S0.2.2.1)), some (.int (nI k)), some (.int 1), z] [] σ := by
  intro m
  induction m with
  | zero => intro R k z σ h1 h2; omega
  | succ m ih =>
    intro R k z σ h1 h2 hr hR hO hE hF
    have hT := hR.1
    have hn := hT.2.1
    have hsk := SK_b (n := n) (t := t) h2
    have hRok := trn_ok (n := n) (t := t) (a := SK n t k) hO
    have hEx := EXR.trn (n := n) (t := t) (a := SK n t k) hO hE
    have htf := trn_f (n := n) (t := t) (R := R) (a := SK n t k)
    have htb := trn_b (n := n) (t := t) (R := R) (a := SK n t k) hT.2.2.2
    simp only [rdo] at hr
    have fin : ∀ (τ : Sg) (f : Nat), f = (trn n t R (SK n t k)).1 → RM τ n t (trn n t R (SK n t k)).2.1.1 (trn n t R (SK n t k)).2.1.2.1 (trn n t R (SK n t k)).2.1.2.2.1 (trn n t R (SK n t k)).2.1.2.2.2 → Fr mdP σ0 τ → τ.1 7 23 = nI (SK n t k) → (f = 0 → τ.1 7 24 = nI (trn n t R (SK n t k)).2.2) → I 0 59 [some (.ref 7), some (.int (nI fr)), some (.int (nI S0.1)), some (.int (nI S0.2.2.1)), some (.int (nI k)), some (.int 1), some (.int (fI f))] [] τ := by
      intro τ f hf q1 q2 q3 q4
      refine run_in (stop := fun pc => Nat.beq pc 26) hI 60 ?_
      refine And.intro (fun g => ?_) (fun g => ?_)
      · have g0 := (fI_0 _ (by omega)).mp g
        rw [← hf, if_pos g0] at hr
        have hb := htb (by omega)
        have q4 := q4 g0
        refine pk_le (trn n t R (SK n t k)).2.1.2.1 0 (fun g2 => ?_) (fun g2 => ?_) q1.2.2.1 rfl (by have := hRok.2.1; omega)
        · have g2' : (trn n t R (SK n t k)).2.1.2.1 = 0 := by omega
          rw [if_pos g2'] at hr
          show I 0 26 _ _ _
          refine run_in (stop := fun _ => false) hI 60 ?_
          refine And.intro (fun _ => ?_) (fun g => absurd rfl g)
          rw [← hr] at h
          have := h (sM τ 7 15 (τ.1 7 24)) (q1.1.m (by omega)) (q1.2.1.m (by omega)) ((q2.w (fun j k z => Or.inl z)).s (Or.inr ⟨rfl, rfl⟩)) (by rw [sM_s, q4])
          exact this
        · rw [if_neg (by omega)] at hr
          have := ih (trn n t R (SK n t k)).2.1 (trn n t R (SK n t k)).2.2 (some (.int (fI f))) τ (by omega) hb.2 hr q1 hRok hEx q2
          rw [← q4] at this
          exact this
      · have g0 := fun z => g ((fI_0 _ (by omega)).mpr z)
        rw [← hf, if_neg g0] at hr
        rw [← hr] at h
        have fin2 : ∀ v : Int32, v = nI (if f = 1 then n else SK n t k) → Q (some (.int (fI f))) (sM (sM (sM τ 7 3 (nI S0.1)) 7 9 (nI S0.2.2.1)) 7 15 v) := by
          intro v hv
          have := h (sM (sM (sM τ 7 3 (nI S0.1)) 7 9 (nI S0.2.2.1)) 7 15 v) (((q1.1.m (by omega)).m (by omega)).m (by omega)) ?_ ?_ (by rw [sM_s, hv])
          · simp only [if_neg g0] at this
            exact this
          · simp only [if_neg g0]
            refine q1.2.1.cut hEx.1 _ ?_ ?_ (fun j k h1 h2 => ?_)
            · rw [sM_o (by omega), sM_o (by omega), sM_s]
            · rw [sM_o (by omega), sM_s]
            · rw [sM_o (by omega), sM_o (by omega), sM_o (by omega)]
          · exact (((q2.w (fun j k z => Or.inl z)).s (Or.inl (by simp [mdP]))).s (Or.inl (by simp [mdP]))).s (Or.inr ⟨rfl, rfl⟩)
        refine And.intro (fun g2 => ?_) (fun g2 => ?_)
        · have g2 := fun z => g2 ((fI_m1 f (by omega)).mpr z)
          exact fin2 _ (by rw [if_neg g2]; show (sM (sM τ 7 3 _) 7 9 _).1 7 23 = _; rw [sM_o (by omega), sM_o (by omega)]; exact q3)
        · have g2 := (fI_m1 f (by omega)).mp g2
          exact fin2 _ (by rw [if_pos g2]; show (sM (sM τ 7 3 _) 7 9 _).1 7 1 = _; rw [sM_o (by omega), sM_o (by omega)]; exact q1.1.1)
    refine run_in (stop := fun pc => Nat.beq pc 59) hI 80 ?_
    refine And.intro (fun g => absurd g (by decide)) (fun _ => ?_)
    refine ⟨Nat.le_refl _, sp_look hT h2 (fun τ hL hF2 => ?_)⟩
    have hRt : RM τ n t R.1 R.2.1 R.2.2.1 R.2.2.2 := by
      obtain ⟨r1, r2, r3, r4, kn, r5, r6⟩ := hR
      exact ⟨hL.1, r2.mr hF2, (hF2.2 7 29 (by simp [mrP])).trans r3, fun i hi => (hF2.2 32 i (by simp [mrP])).trans (r4 i hi), kn, (hF2.2 7 31 (by simp [mrP])).trans r5, r6⟩
    have hts := trn_sns (n := n) (t := t) (R := R) (a := SK n t k) hO
    have hFt := hF.tr (mr_md hF2)
    refine ⟨Nat.le_refl _, sp_X8_sense hL hsk.2 hRt hO (fun r hr' => ?_)⟩
    subst hr'
    have hsb : sns R.2.2.2 (inA0 R.1 R.2.1 R.2.2.1) (LKs n t (SK n t k)).1 (LKw n t (SK n t k)) (LKt n t (SK n t k)) < 8 := by
      by_cases z : sns R.2.2.2 (inA0 R.1 R.2.1 R.2.2.1) (LKs n t (SK n t k)).1 (LKw n t (SK n t k)) (LKt n t (SK n t k)) = 0
      · omega
      · rw [← (hts.1 z).1]
        exact htf
    refine And.intro (fun g => ?_) (fun g => ?_)
    · have g := fun z => g ((fI_0 _ (by omega)).mpr z)
      obtain ⟨t1, t2⟩ := hts.1 g
      exact fin τ _ t1.symm (by rw [t2]; exact hRt) hFt hL.2.2.1 (fun z => absurd z g)
    · have g := (fI_0 _ (by omega)).mp g
      obtain ⟨t1, t2⟩ := hts.2 g
      refine ⟨Nat.le_refl _, sp_X8_take hL hsk.2 (SK_id h2) hRt hO g (fun υ q1 q2 q3 q4 => ?_)⟩
      rw [← t2] at q1 q4
      have := fin υ _ rfl q1 (hFt.tr q2) q3 q4
      rw [t2] at this
      exact this
theorem sp_X8_readObject {S : St} {k : Nat} {st : Nat → Nat} (hT : TapeM σ n t) (hM : MS σ S) (hS : SZ S) (hk : k ≤ n) (h : POM σ n t S (rdo n t (n + 1) (S, 0, st, false) k) Q) : P_X8_readObject [.ref 7, .int (nI k)] σ Q X := by
  refine ⟨rfl, fun I hI => run_in (stop := fun pc => Nat.beq pc 26) hI 30 ?_⟩
  have h' : POM (sM (sM σ 7 29 0) 7 31 1) n t S (rdo n t (n + 1) (S, 0, st, false) k) Q := by
    intro τ q1 q2 q3 q4
    refine h τ q1 q2 (Fr.tr ((Fr.rf.s (Or.inl (by simp [mdP]))).s (Or.inl (by simp [mdP]))) q3) q4
  have := lp_readObject (fr := k) h' hI (n + 1) (S, 0, st, false) k none (sM (sM σ 7 29 0) 7 31 1) (by omega) hk rfl ⟨(hT.m (by omega)).m (by omega), (hM.m (by omega)).m (by omega), (sM_o (by omega)).trans sM_s, fun i hi => absurd hi (Nat.not_lt_zero i), true, sM_s, by simp [kd0]⟩ ⟨hS, Nat.zero_le _, fun i hi => absurd hi (Nat.not_lt_zero i), fun z => by cases z⟩ ⟨EX.rf, fun i hi => absurd hi (Nat.not_lt_zero i)⟩ Fr.rf
  rw [← hM.1, ← hM.2.1] at this
  exact ⟨Or.inr rfl, this⟩
end RDM
