/-! ===== PURE: the class reads an object ===== -/
section CRE
variable {σ : Sg} {Q : Po} {X : Xo} {n : Nat} {t : Nat → Nat} {R : Rd} {a b : Nat} {l : List Nat}
theorem TK.m {j k : Nat} {v : Int32} (h : TK σ n t R a b l) (hj : j = 5) : TK (sM σ j k v) n t R a b l := by
  subst hj
  exact ⟨h.1.m (by omega), (sM_o (by omega)).trans h.2.1, h.2.2.1.m (by omega), h.2.2.2.1, (sM_o (by omega)).trans h.2.2.2.2.1, (sM_o (by omega)).trans h.2.2.2.2.2⟩
theorem PT.fr {σ' : Sg} {o : Nat × Rd × Nat} (h : PT σ n t a o Q) (hf : Fr rdP σ σ') : PT σ' n t a o Q := fun τ q1 q2 q3 q4 q5 => h τ q1 q2 (hf.tr q3) q4 q5
theorem PT.same {o : Nat × Rd × Nat} (hK : TK σ n t R a b l) (h : PT σ n t a o Q) (h1 : o.2.1 = R) (h2 : o.1 ≠ 0) : Q (some (.int (fI o.1))) σ := h σ (by rw [h1]; exact hK.1) (by rw [h1]; exact hK.2.1) Fr.rf hK.2.2.2.2.1 (fun z => absurd z h2)
theorem sp_X3_takeWord (hK : TK σ n t R a b []) (hO : OKR R) (hab : a < b) (hb : b ≤ n) (h : PT σ n t a (wrd n t R (sb t (b - a) a) b) Q) : P_X3_takeWord [.ref 3] σ Q X := by
  have hT := hK.1.1
  have h2 := hT.2.1
  have e3 := hK.2.2.2.2.1
  have e4 := hK.2.2.2.2.2
  have tail : ∀ {I : Jt} (hI : Cl (FM (cutN 156 t_X3_takeWord) e_X3_takeWord xn0 0 sws0 false Q X) I) (z1 : Int32) (z2 : Option Value), rfr n t b (sb t (b - a) a) = none → I 0 34 [some (.ref 3), some (.int z1), z2] [] σ := by
    intro I hI z1 z2 hn
    unfold wrd at h
    rw [hn] at h
    simp only at h
    refine run_in (stop := fun _ => false) hI 60 ?_
    refine ⟨Nat.le_refl _, sp_X6_isText (w := 40) (by simp) hT (by omega) hb e3 e4 (fun r hr => ?_)⟩
    subst hr
    refine And.intro (fun g => ?_) (fun g => ?_)
    · have g1 : ¬ sb t (b - a) a = [110, 117, 108, 108] := of_decide_eq_false (bIf g)
      rw [if_neg g1] at h
      refine ⟨Nat.le_refl _, sp_X6_isText (w := 41) (by simp) hT (by omega) hb e3 e4 (fun r hr => ?_)⟩
      subst hr
      refine And.intro (fun g => ?_) (fun g => ?_)
      · have g2 : ¬ sb t (b - a) a = [116, 114, 117, 101] := of_decide_eq_false (bIf g)
        rw [if_neg g2] at h
        refine ⟨Nat.le_refl _, sp_X6_isText (w := 42) (by simp) hT (by omega) hb e3 e4 (fun r hr => ?_)⟩
        subst hr
        refine And.intro (fun g => ?_) (fun g => ?_)
        · have g3 : ¬ sb t (b - a) a = [102, 97, 108, 115, 101] := of_decide_eq_false (bIf g)
          rw [if_neg g3] at h
          refine ⟨Nat.le_refl _, ?_⟩
          show P_X1_takes [.ref 5, .ref 1, .int (σ.1 4 3), .int (σ.1 4 4)] _ _ _
          rw [e3, e4]
          refine sp_X1_takes hT hab hb (fun hN => ?_) (fun hN => ?_)
          · rw [hN, if_neg (by simp)] at h
            refine And.intro (fun _ => ?_) (fun g => absurd rfl g)
            exact PT.same hK h rfl (by simp)
          · rw [hN, if_pos rfl] at h
            refine And.intro (fun g => absurd g (by decide)) (fun _ => ?_)
            have hK2 := (hK.m (k := 0) (v := bI (rlN (sb t (b - a) a))) rfl).m (k := 1) (v := amN (sb t (b - a) a)) rfl
            have hF2 : Fr rdP σ (sM (sM σ 5 0 (bI (rlN (sb t (b - a) a)))) 5 1 (amN (sb t (b - a) a))) := (Fr.rf.s (by simp [rdP])).s (by simp [rdP])
            have q0 : (sM (sM σ 5 0 (bI (rlN (sb t (b - a) a)))) 5 1 (amN (sb t (b - a) a))).1 5 0 = bI (rlN (sb t (b - a) a)) := (sM_o (by omega)).trans sM_s
            have q1 : (sM (sM σ 5 0 (bI (rlN (sb t (b - a) a)))) 5 1 (amN (sb t (b - a) a))).1 5 1 = amN (sb t (b - a) a) := sM_s
            generalize sM (sM σ 5 0 (bI (rlN (sb t (b - a) a)))) 5 1 (amN (sb t (b - a) a)) = σ2 at hK2 hF2 q0 q1 ⊢
            have h' := h.fr hF2
            show (σ2.1 5 0 = 0 → _) ∧ (¬ σ2.1 5 0 = 0 → _)
            rw [q0]
            refine And.intro (fun g => ?_) (fun g => ?_)
            · have g := bIf g
              rw [g, if_neg (by simp)] at h'
              refine ⟨Nat.le_refl _, ?_⟩
              show P_X3_takeLeaf [.ref 3, .int (nI 2), .int (σ2.1 5 1), .int 0] _ _ _
              rw [q1]
              exact sp_X3_takeLeaf hK2 hO (by omega) h'
            · have g := bIt g
              rw [g, if_pos rfl] at h'
              refine ⟨Nat.le_refl _, ?_⟩
              show P_X3_takeLeaf [.ref 3, .int (nI 3), .int (σ2.1 5 1), .int 0] _ _ _
              rw [q1]
              exact sp_X3_takeLeaf hK2 hO (by omega) h'
        · have g3 : sb t (b - a) a = [102, 97, 108, 115, 101] := of_decide_eq_true (bIt g)
          rw [if_pos g3] at h
          exact ⟨Nat.le_refl _, sp_X3_takeLeaf (what := 1) (v := 0) (x := 0) hK hO (by omega) h⟩
      · have g2 : sb t (b - a) a = [116, 114, 117, 101] := of_decide_eq_true (bIt g)
        rw [if_pos g2] at h
        exact ⟨Nat.le_refl _, sp_X3_takeLeaf (what := 1) (v := 1) (x := 0) hK hO (by omega) h⟩
    · have g1 : sb t (b - a) a = [110, 117, 108, 108] := of_decide_eq_true (bIt g)
      rw [if_pos g1] at h
      exact ⟨Nat.le_refl _, sp_X3_takeLeaf (what := 0) (v := 0) (x := 0) hK hO (by omega) h⟩
  refine ⟨rfl, fun I hI => run_in (stop := fun pc => Nat.beq pc 34) hI 60 ?_⟩
  refine ⟨Nat.le_refl _, sp_X6_indexUpTo (most := 8388607) hT (by omega) hb e3 e4 (by omega) (fun r hr => ?_)⟩
  subst hr
  cases hv : IX 8388607 (sb t (b - a) a) with
  | none =>
    exact And.intro (fun _ => tail hI _ _ (by unfold rfr; rw [hv])) (fun g => absurd rfl g)
  | some v =>
    have hvb := IX_b hv
    refine And.intro (fun g => absurd g (nIm1 (by omega))) (fun _ => ?_)
    refine ⟨Nat.le_refl _, sp_X3_seekReference hT hb e4 (fun hn => ?_) (fun q hq => ?_)⟩
    · exact And.intro (fun _ => tail hI _ _ (by unfold rfr; rw [hv, hn])) (fun g => absurd rfl g)
    · have hqb : q.1 ≤ 65535 := by
        unfold rf2 at hq
        split at hq
        · cases hq
        · rename_i g hg
          split at hq
          · have := Option.some.inj hq
            rw [← this]
            exact IX_b hg
          · cases hq
      refine And.intro (fun g => absurd g (nIm1 (by omega))) (fun _ => ?_)
      have hr : rfr n t b (sb t (b - a) a) = some (v, q.1, q.2) := by unfold rfr; rw [hv, hq]
      unfold wrd at h
      rw [hr] at h
      have hF : Fr rdP σ (sM σ 4 4 (nI q.2)) := Fr.rf.s (by simp [rdP])
      have hK2 : TK (sM σ 4 4 (nI q.2)) n t R a q.2 [] := ⟨hK.1.m (by omega), (sM_o (by omega)).trans hK.2.1, hK.2.2.1.m (by omega), hK.2.2.2.1, (sM_o (by omega)).trans e3, sM_s⟩
      exact ⟨Nat.le_refl _, sp_X3_takeLeaf (what := 8) (v := nI v) (x := nI q.1) hK2 hO (by omega) (h.fr hF)⟩
theorem sp_X3_takeToken {s : Nat} (hK : TK σ n t R a b l) (hO : OKR R) (hs : σ.1 4 2 = nI s) (hs9 : s < 9) (hl : s ≠ 5 → s ≠ 6 → l = []) (hab : a < b) (hb : b ≤ n) (hkd : R.2.2.2 = false) (h : PT σ n t a (tkn n t R a s b l) Q) : P_X3_takeToken [.ref 3] σ Q X := by
  obtain ⟨o1, o2, o3, o4⟩ := hO
  have hO : OKR R := ⟨o1, o2, o3, o4⟩
  unfold tkn at h
  rw [hkd, if_neg (by simp)] at h
  refine ⟨rfl, fun I hI => run_in (stop := fun _ => false) hI 60 ?_⟩
  have e1 : ∀ c : Nat, c < 9 → (σ.1 4 2 = nI c ↔ s = c) := fun c hc => by rw [hs]; exact nI_eq (by omega) (by omega)
  refine And.intro (fun g => ?_) (fun g1 => ?_)
  · have g := (e1 1 (by omega)).mp g
    rw [if_pos g] at h
    have := hl (by omega) (by omega)
    subst this
    exact ⟨Nat.le_refl _, sp_X3_takeBegin (what := 6) hK hO (Or.inl rfl) h⟩
  have g1 := fun z => g1 ((e1 1 (by omega)).mpr z)
  rw [if_neg g1] at h
  refine And.intro (fun g => ?_) (fun g2 => ?_)
  · have g := (e1 2 (by omega)).mp g
    rw [if_neg (by omega), if_pos g] at h
    have hl := hl (by omega) (by omega)
    subst hl
    refine ⟨Nat.le_refl _, sp_X3_innermost hK.1.2.2.1 o2 hK.1.2.2.2 (fun e => ?_) (fun e => ?_)⟩
    · refine ⟨Nat.le_refl _, sp_X4_kindOf_no (by decide) ?_⟩
      refine And.intro (fun _ => ?_) (fun g => absurd g (by decide))
      rw [if_neg (by omega)] at h
      exact PT.same hK h rfl (by simp)
    · refine ⟨Nat.le_refl _, sp_X4_kindOf hK.1.2.1 o1 (o3 _ (by omega)) (fun r hr => ?_)⟩
      subst hr
      refine And.intro (fun g => ?_) (fun g => ?_)
      · rw [if_neg (fun z => g z.2)] at h
        exact PT.same hK h rfl (by simp)
      · rw [if_pos ⟨e, g⟩] at h
        exact ⟨Nat.le_refl _, sp_X3_takeEnd hK.1 hK.2.2.1.2.2.2.1 hK.2.2.2.2.1 hK.2.2.2.2.2 hO e h⟩
  have g2 := fun z => g2 ((e1 2 (by omega)).mpr z)
  refine And.intro (fun g => ?_) (fun g3 => ?_)
  · have g := (e1 3 (by omega)).mp g
    rw [if_pos g] at h
    have := hl (by omega) (by omega)
    subst this
    exact ⟨Nat.le_refl _, sp_X3_takeBegin (what := 7) hK hO (Or.inr rfl) h⟩
  have g3 := fun z => g3 ((e1 3 (by omega)).mpr z)
  rw [if_neg g3, if_neg g2] at h
  refine And.intro (fun g => ?_) (fun g4 => ?_)
  · have g := (e1 4 (by omega)).mp g
    rw [if_neg (by omega), if_neg (by omega), if_neg (by omega)] at h
    exact PT.same hK h rfl (by simp)
  have g4 := fun z => g4 ((e1 4 (by omega)).mpr z)
  refine And.intro (fun g => ?_) (fun g5 => ?_)
  · have g := (e1 5 (by omega)).mp g
    rw [if_pos g] at h
    refine ⟨Nat.le_refl _, ?_⟩
    show P_X3_takeLeaf [.ref 3, .int (nI 4), .int (σ.1 2 10), .int 0] _ _ _
    rw [hK.2.2.1.2.2.2.1]
    exact sp_X3_takeLeaf hK hO (by omega) h
  have g5 := fun z => g5 ((e1 5 (by omega)).mpr z)
  rw [if_neg g5] at h
  refine And.intro (fun g => ?_) (fun g6 => ?_)
  · have g := (e1 6 (by omega)).mp g
    rw [if_pos g] at h
    refine ⟨Nat.le_refl _, ?_⟩
    show P_X3_takeLeaf [.ref 3, .int (nI 5), .int (σ.1 2 10), .int 0] _ _ _
    rw [hK.2.2.1.2.2.2.1]
    exact sp_X3_takeLeaf hK hO (by omega) h
  have g6 := fun z => g6 ((e1 6 (by omega)).mpr z)
  rw [if_neg g6] at h
  refine And.intro (fun g => ?_) (fun g7 => ?_)
  · have g := (e1 7 (by omega)).mp g
    rw [if_pos g] at h
    have := hl (by omega) (by omega)
    subst this
    exact ⟨Nat.le_refl _, sp_X3_takeWord hK hO hab hb h⟩
  have g7 := fun z => g7 ((e1 7 (by omega)).mpr z)
  rw [if_neg g7] at h
  exact PT.same hK h rfl (by simp)
theorem sp_X3_takeKey {s : Nat} (hK : TK σ n t R a b l) (hO : OKR R) (hs : σ.1 4 2 = nI s) (hs9 : s < 9) (hl : s ≠ 5 → s ≠ 6 → l = []) (hkd : R.2.2.2 = true) (h : PT σ n t a (tkn n t R a s b l) Q) : P_X3_takeKey [.ref 3] σ Q X := by
  have hd := (hO.2.2.2 hkd).1
  have o1 := hO.1
  unfold tkn at h
  rw [hkd, if_pos rfl] at h
  refine ⟨rfl, fun I hI => run_in (stop := fun _ => false) hI 60 ?_⟩
  refine kne s 4 (fun g4 => ?_) (fun g4 => ?_) hs rfl
  · rw [if_neg g4] at h
    refine pk_eq s 6 (fun g6 => ?_) (fun g6 => ?_) hs rfl
    · rw [if_pos g6] at h
      unfold key1 at h
      refine ⟨Nat.le_refl _, ?_⟩
      show P_X4_add [.ref 2, .int (nI 5), .int (σ.1 2 10), .int 0] _ _ _
      rw [hK.2.2.1.2.2.2.1]
      refine sp_X4_add R.2.1 hK.1.2.1 o1 hK.2.2.1 hK.2.2.2.1 (by omega) (fun g => ?_) (fun g1 g2 τ hC hF hD' => ?_)
      · refine And.intro (fun g => absurd rfl g) (fun _ => ?_)
        rw [if_pos g] at h
        exact PT.same hK h rfl (by simp)
      · rw [if_neg (by omega)] at h
        refine And.intro (fun _ => ?_) (fun g => absurd g (nIm1 (by omega)))
        have hR2 := hK.1.ad hC hF
        exact ⟨Or.inl rfl, h _ (hR2.m (by omega)) sM_s ((ad_rd hF).s (by simp [rdP])) ((sM_o (by omega)).trans ((hF.2 4 3 (by simp [adP])).trans hK.2.2.2.2.1)) (fun _ => ⟨(sM_o (by omega)).trans ((hF.2 4 4 (by simp [adP])).trans hK.2.2.2.2.2), (sM_o (by omega)).trans hD'.2.2.2.1⟩)⟩
    · rw [if_neg g6] at h
      exact PT.same hK h rfl (by simp)
  · rw [if_pos g4] at h
    have := hl (by omega) (by omega)
    subst this
    exact ⟨Nat.le_refl _, sp_X3_takeEnd hK.1 hK.2.2.1.2.2.2.1 hK.2.2.2.2.1 hK.2.2.2.2.2 hO hd h⟩
theorem sp_X3_fail {f c : Nat} (hT : TapeC σ n t) (hf : f ≠ 0) (hf2 : f < 11) (e3 : f ≠ 1 → σ.1 4 3 = nI c) (h : Q (some (.int (fI f))) (sM σ 3 10 (nI (if f = 1 then n else c)))) : P_X3_fail [.ref 3, .int (fI f)] σ Q X := by
  have hfi : fI f = -1 ↔ f = 1 := by
    constructor
    · intro e
      revert e
      have : ∀ f, f < 11 → fI f = -1 → f = 1 := by decide +kernel
      exact this f hf2
    · intro e
      subst e
      rfl
  refine ⟨rfl, fun I hI => run_in (stop := fun _ => false) hI 40 ?_⟩
  refine And.intro (fun g => ?_) (fun g => ?_)
  · have g' : ¬ f = 1 := fun z => g (hfi.mpr z)
    rw [if_neg g', ← e3 g'] at h
    exact h
  · rw [if_pos (hfi.mp g), ← hT.1] at h
    exact h
theorem LKs_s {n a : Nat} {t : Nat → Nat} : (LKs n t a).1 < 9 ∧ ((LKs n t a).1 ≠ 5 → (LKs n t a).1 ≠ 6 → (LKs n t a).2.2.2 = []) ∧ (LKs n t a).2.2.1 < 5 ∧ (LKs n t a).2.2.1 ≠ 2 ∧ ((LKs n t a).1 = 0 → (LKs n t a).2.2.1 = 1) := by
  unfold LKs
  split
  · simp
  · split
    · simp
    · split
      · simp
      · split
        · split
          · simp
          · simp only
            refine ⟨by omega, fun z => absurd rfl z, ?_, ?_, fun z => by cases z⟩
            · split
              · omega
              · split <;> omega
            · split
              · omega
              · split <;> omega
        · split
          · split <;> simp
          · split
            · simp only
              refine ⟨by omega, fun z => absurd rfl z, ?_, ?_, fun z => by cases z⟩
              · split <;> omega
              · split <;> omega
            · split
              · simp only
                refine ⟨by omega, fun _ z => absurd rfl z, ?_, ?_, fun z => by cases z⟩
                · split <;> omega
                · split <;> omega
              · split <;> simp
theorem wrI_f : ∀ w, w < 5 → w ≠ 2 → wrI w = fI w := by decide +kernel
theorem fI_0 : ∀ f, f < 11 → (fI f = 0 ↔ f = 0) := by decide +kernel
theorem trn_f {n : Nat} {t : Nat → Nat} {R : Rd} {a : Nat} : (trn n t R a).1 < 8 := by
  have hl : ∀ what v x l b, (leaf R what v x l b).1 < 8 := by
    intro what v x l b
    unfold leaf
    split <;> simp
  have ho : ∀ b w, (opn R w b).1 < 8 := by
    intro b w
    unfold opn
    split
    · simp
    · split <;> simp
  have hk : ∀ b l, (key1 R l b).1 < 8 := by
    intro b l
    unfold key1
    split <;> simp
  unfold trn
  split
  · unfold tkn
    split
    · split
      · simp [cl1]
      · split
        · exact hk _ _
        · simp
    · split
      · exact ho _ _
      · split
        · exact ho _ _
        · split
          · split
            · simp [cl1]
            · simp
          · split
            · exact hl _ _ _ _ _
            · split
              · exact hl _ _ _ _ _
              · split
                · unfold wrd
                  split
                  · exact hl _ _ _ _ _
                  · split
                    · exact hl _ _ _ _ _
                    · split
                      · exact hl _ _ _ _ _
                      · split
                        · exact hl _ _ _ _ _
                        · split
                          · exact hl _ _ _ _ _
                          · simp
                · simp
  · have := (LKs_s (n := n) (a := a) (t := t)).2.2.1
    simp only
    omega
/-- what reading an object leaves -/
def PO (σ : Sg) (n : Nat) (t : Nat → Nat) (nd : Nat) (o : Nat × Rd × Nat) (Q : Po) : Prop :=
  ∀ τ, TapeC τ n t → CS τ o.2.1.1 → OKR o.2.1 → Fr (fun j k => rdP j k ∨ (j = 3 ∧ k = 10)) σ τ → τ.1 3 10 = nI o.2.2 → (o.1 = 0 → τ.1 2 10 = 0)  → Q (some (.int (if o.1 = 0 then nI nd else fI o.1))) τ
theorem lp_takeObject {σ0 : Sg} {nd fr : Nat} {o : Nat × Rd × Nat} (h : PO σ0 n t nd o Q) {I : Jt} (hI : Cl (FM (cutN 124 t_X3_takeObject) e_X3_takeObject xn0 0 sws0 false Q X) I) :
    ∀ m (R : Rd) k i z (σ : Sg), n < k + m → k ≤ n → i ≤ k → rdo n t m R k = o → RC σ n t R.1 R.2.1 R.2.2.1 → σ.1 3 6 = bI R.2.2.2 → OKR R → Fr rdP σ0 σ →
      I 0 23 [some (.ref 3), some (.int (nI fr)), some (.int (nI nd)), some (.int (nI k)), some (.int (nI i)), z] [] σ := by
  intro m
  induction m with
  | zero => intro R k i z σ h1 h2; omega
  | succ m ih =>
    intro R k i z σ h1 h2 h3 hr hR h6 hO hF
    have hT := hR.1
    have hn := hT.2.1
    have hsk := SK_b (n := n) (t := t) h2
    have hRok := trn_ok (n := n) (t := t) (a := SK n t k) hO
    have htf := trn_f (n := n) (t := t) (R := R) (a := SK n t k)
    have htb := trn_b (n := n) (t := t) (R := R) (a := SK n t k) hT.2.2.2
    simp only [rdo] at hr
    -- the end of a turn
    have fin : ∀ (τ : Sg), RC τ n t (trn n t R (SK n t k)).2.1.1 (trn n t R (SK n t k)).2.1.2.1 (trn n t R (SK n t k)).2.1.2.2.1 → τ.1 3 6 = bI (trn n t R (SK n t k)).2.1.2.2.2 → Fr rdP σ τ → τ.1 4 3 = nI (SK n t k) → ((trn n t R (SK n t k)).1 = 0 → τ.1 4 4 = nI (trn n t R (SK n t k)).2.2 ∧ τ.1 2 10 = 0) → I 0 72 [some (.ref 3), some (.int (nI fr)), some (.int (nI nd)), some (.int (nI k)), some (.int (nI i)), some (.int (fI (trn n t R (SK n t k)).1))] [] τ := by
      intro τ q1 q2 q3 q4 q5
      refine run_in (stop := fun pc => Nat.beq pc 23) hI 60 ?_
      refine And.intro (fun g => ?_) (fun g => ?_)
      · have g := (fI_0 _ (by omega)).mp g
        rw [if_pos g] at hr
        have hb := htb g
        obtain ⟨q5, q6⟩ := q5 g
        refine kne (trn n t R (SK n t k)).2.1.2.1 0 (fun g2 => ?_) (fun g2 => ?_) q1.2.2.1 rfl (by have := hRok.2.1; omega)
        · rw [if_neg g2] at hr
          have := ih (trn n t R (SK n t k)).2.1 (trn n t R (SK n t k)).2.2 (i + 1) (some (.int (fI (trn n t R (SK n t k)).1))) τ (by omega) hb.2 (by omega) hr q1 q2 hRok (hF.tr q3)
          rw [nI_succ, ← q5] at this
          exact this
        · rw [if_pos g2] at hr
          rw [← hr] at h
          have := h (sM τ 3 10 (τ.1 4 4)) (q1.1.fr (sM_o (by omega)) (fun k => sM_o (by omega))) (q1.2.1.m (by omega)) hRok (((hF.tr q3).w (fun j k z => Or.inl z)).s (Or.inr ⟨rfl, rfl⟩)) (by rw [sM_s, q5]) (fun _ => (sM_o (by omega)).trans q6)
          exact this
      · have g := fun z => g ((fI_0 _ (by omega)).mpr z)
        rw [if_neg g] at hr
        rw [← hr] at h
        refine ⟨Nat.le_refl _, sp_X3_fail (c := SK n t k) q1.1 g (by omega) (fun _ => q4) ?_⟩
        have := h (sM τ 3 10 (nI (if (trn n t R (SK n t k)).1 = 1 then n else SK n t k))) (q1.1.fr (sM_o (by omega)) (fun k => sM_o (by omega))) (q1.2.1.m (by omega)) hRok (((hF.tr q3).w (fun j k z => Or.inl z)).s (Or.inr ⟨rfl, rfl⟩)) sM_s (fun z => absurd z g)
        simp only [if_neg g] at this
        exact this
    refine run_in (stop := fun pc => Nat.beq pc 23 || Nat.beq pc 72) hI 80 ?_
    refine pk_lt 65536 i (fun g => by omega) (fun g => ?_) rfl rfl
    refine ⟨Nat.le_refl _, sp_X6_seek hT hR.2.1.2.1 hO.1.2 h2 (fun τ hτ => ?_)⟩
    obtain ⟨p1, p2, p3, p4, p5⟩ := hτ
    have hRt : RC τ n t R.1 R.2.1 R.2.2.1 := ⟨hT.fr (p1.2 1 1 (by simp [tkP, drP])) (fun k => p1.2 8 k (by simp [tkP, drP])), hR.2.1.tk p1, (p1.2 3 5 (by simp [tkP, drP])).trans hR.2.2.1, fun i hi => (p1.2 16 i (by simp [tkP, drP])).trans (hR.2.2.2 i hi)⟩
    have h6t : τ.1 3 6 = bI R.2.2.2 := (p1.2 3 6 (by simp [tkP, drP])).trans h6
    obtain ⟨s1, s2, s3, s4, s5⟩ := LKs_s (n := n) (a := SK n t k) (t := t)
    have hwf := wrI_f _ s3 s4
    have hlen := LKs_l n t (SK n t k)
    have p4' : τ.1 4 5 = fI (LKs n t (SK n t k)).2.2.1 := p4.trans hwf
    show (¬ τ.1 4 5 = 0 → _) ∧ (τ.1 4 5 = 0 → _)
    rw [p4']
    refine And.intro (fun g => ?_) (fun g => ?_)
    · have g := fun z => g ((fI_0 _ (by omega)).mpr z)
      have ht : trn n t R (SK n t k) = ((LKs n t (SK n t k)).2.2.1, R, 0) := by unfold trn; rw [if_neg g]
      have := fin τ (by rw [ht]; exact hRt) (by rw [ht]; exact h6t) (tk_rd p1) p3 (fun z => by rw [ht] at z; exact absurd z g)
      rw [ht] at this
      exact this
    · have g := (fI_0 _ (by omega)).mp g
      have ht : trn n t R (SK n t k) = tkn n t R (SK n t k) (LKs n t (SK n t k)).1 (LKs n t (SK n t k)).2.1 (LKs n t (SK n t k)).2.2.2 := by unfold trn; rw [if_pos g]
      obtain ⟨p6, p7⟩ := p5 g
      have hb := LKs_b hT.2.2.2 g
      have hK : TK τ n t R (SK n t k) (LKs n t (SK n t k)).2.1 (LKs n t (SK n t k)).2.2.2 := ⟨hRt, h6t, p7, by omega, p3, p6⟩
      show (τ.1 3 6 = 0 → _) ∧ (¬ τ.1 3 6 = 0 → _)
      rw [h6t]
      refine And.intro (fun gk => ?_) (fun gk => ?_)
      · refine ⟨Nat.le_refl _, sp_X3_takeToken hK hO p2 s1 s2 hb.1 hb.2 (bIf gk) ?_⟩
        rw [← ht]
        intro υ q1 q2 q3 q4 q5
        exact fin υ q1 q2 ((tk_rd p1).tr q3) q4 q5
      · refine ⟨Nat.le_refl _, sp_X3_takeKey hK hO p2 s1 s2 (bIt gk) ?_⟩
        rw [← ht]
        intro υ q1 q2 q3 q4 q5
        exact fin υ q1 q2 ((tk_rd p1).tr q3) q4 q5
theorem sp_X3_takeObject {S : St} {k : Nat} {st : Nat → Nat} (hT : TapeC σ n t) (hC : CS σ S) (hS : SZ S) (hk : k ≤ n) (h : PO σ n t S.1 (rdo n t (n + 1) (S, 0, st, false) k) Q) : P_X3_takeObject [.ref 3, .int (nI k)] σ Q X := by
  refine ⟨rfl, fun I hI => run_in (stop := fun pc => Nat.beq pc 23) hI 30 ?_⟩
  have h' : PO (sM (sM σ 3 5 0) 3 6 0) n t S.1 (rdo n t (n + 1) (S, 0, st, false) k) Q := by
    intro τ q1 q2 q3 q4 q5 q6
    refine h τ q1 q2 q3 (Fr.tr ((Fr.rf.s (Or.inl (by simp [rdP]))).s (Or.inl (by simp [rdP]))) q4) q5 q6
  have := lp_takeObject (fr := k) h' hI (n + 1) (S, 0, st, false) k 0 none (sM (sM σ 3 5 0) 3 6 0) (by omega) hk (by omega) rfl ⟨hT.fr ((sM_o (by omega)).trans (sM_o (by omega))) (fun k => (sM_o (by omega)).trans (sM_o (by omega))), (hC.m (by omega)).m (by omega), (sM_o (by omega)).trans sM_s, fun i hi => absurd hi (Nat.not_lt_zero i)⟩ sM_s ⟨hS, Nat.zero_le _, fun i hi => absurd hi (Nat.not_lt_zero i), fun z => by cases z⟩ Fr.rf
  rw [← hC.1] at this
  exact ⟨Or.inl rfl, this⟩
end CRE
