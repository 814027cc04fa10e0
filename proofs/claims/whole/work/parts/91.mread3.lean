/-! ===== PURE: the model takes a token ===== -/
theorem ad_nok : ∀ l d, ad l = true → nok l d 0 = decide (0 < d + l.length) := by
  intro l
  induction l with
  | nil => intro d h; simp [nok]
  | cons c l ih =>
    intro d h
    simp only [ad] at h
    split at h
    · rename_i g
      simp only [nok]
      rw [if_pos g, ih _ h]
      simp only [List.length_cons]
      congr 1
      rw [eq_iff_iff]
      omega
    · cases h
theorem ixl_ad (most : Nat) : ∀ l v w, ixl most v l = some w → ad l = true := by
  intro l
  induction l with
  | nil => intro v w h; rfl
  | cons c l ih =>
    intro v w h
    simp only [ixl] at h
    split at h
    · rename_i g
      split at h
      · simp only [ad]
        rw [if_pos g]
        exact ih _ _ h
      · cases h
    · cases h
theorem IX_isN {most v : Nat} {w : List Nat} (h : IX most w = some v) : isN w = true := by
  unfold IX at h
  split at h
  · cases h
  · rename_i c l
    have ha := ixl_ad most _ _ _ h
    have hs : sgn (c :: l) = 0 := by
      simp only [ad] at ha
      split at ha
      · rename_i g
        have := dg_b c g
        simp only [sgn]
        rw [if_neg (by omega)]
      · cases ha
    unfold isN bdy
    rw [hs, List.drop_zero, ad_nok _ _ ha]
    simp
theorem rfr_isN {n b : Nat} {t : Nat → Nat} {w : List Nat} {q : Nat × Nat × Nat} (h : rfr n t b w = some q) : isN w = true := by
  unfold rfr at h
  split at h
  · cases h
  · rename_i v hv
    exact IX_isN hv
theorem isN_w : isN [110, 117, 108, 108] = false ∧ isN [116, 114, 117, 101] = false ∧ isN [102, 97, 108, 115, 101] = false := by decide
/-- what sense says, and the turn -/
theorem trn_sns {n : Nat} {t : Nat → Nat} {R : Rd} {a : Nat} (hO : OKR R) :
    (sns R.2.2.2 (inA0 R.1 R.2.1 R.2.2.1) (LKs n t a).1 (LKw n t a) (LKt n t a) ≠ 0 → (trn n t R a).1 = sns R.2.2.2 (inA0 R.1 R.2.1 R.2.2.1) (LKs n t a).1 (LKw n t a) (LKt n t a) ∧ (trn n t R a).2.1 = R) ∧
    (sns R.2.2.2 (inA0 R.1 R.2.1 R.2.2.1) (LKs n t a).1 (LKw n t a) (LKt n t a) = 0 → (LKs n t a).2.2.1 = 0 ∧ trn n t R a = tkn n t R a (LKs n t a).1 (LKs n t a).2.1 (LKs n t a).2.2.2) := by
  obtain ⟨s1, s2, s3, s4, s5⟩ := LKs_s (n := n) (a := a) (t := t)
  have h7 := (LK7 (n := n) (a := a) (t := t)).1
  unfold trn
  by_cases hwr : (LKs n t a).2.2.1 = 0
  · have hs0 : (LKs n t a).1 ≠ 0 := fun z => by have := s5 z; omega
    have hw : LKw n t a = 0 := by unfold LKw; rw [if_neg hs0, hwr]
    rw [if_pos hwr, hw]
    refine ⟨fun h => ?_, fun _ => ⟨hwr, rfl⟩⟩
    unfold sns at h ⊢
    rw [if_neg hs0, if_neg (by omega)] at h ⊢
    unfold tkn
    by_cases hk : R.2.2.2 = true
    · rw [if_pos hk] at h ⊢
      rw [if_pos hk]
      split at h
      · exact absurd rfl h
      · rename_i g
        rw [if_neg g, if_neg (by omega), if_neg (by omega)]
        exact ⟨rfl, rfl⟩
    · rw [if_neg hk] at h ⊢
      rw [if_neg hk]
      by_cases g2 : (LKs n t a).1 = 2
      · rw [if_pos g2] at h ⊢
        rw [if_neg (by omega), if_neg (by omega), if_pos g2]
        split at h
        · exact absurd rfl h
        · rename_i g
          rw [if_neg g, if_neg (fun z => g (decide_eq_true z))]
          exact ⟨rfl, rfl⟩
      · rw [if_neg g2] at h ⊢
        split at h
        · exact absurd rfl h
        · rename_i g
          rw [if_neg g]
          rw [if_neg (by omega), if_neg (by omega), if_neg g2, if_neg (by omega), if_neg (by omega)]
          split at h
          · exact absurd rfl h
          · rename_i g'
            rw [if_neg g']
            by_cases g7 : (LKs n t a).1 = 7
            · rw [if_pos g7]
              have hb := (h7 g7).2.1
              have hlt : LKt n t a = sb t ((LKs n t a).2.1 - a) a := by unfold LKt; rw [if_pos g7, hb]
              rw [hlt] at g'
              have q : ¬ (isN (sb t ((LKs n t a).2.1 - a) a) = true ∨ sb t ((LKs n t a).2.1 - a) a = [110, 117, 108, 108] ∨ sb t ((LKs n t a).2.1 - a) a = [116, 114, 117, 101] ∨ sb t ((LKs n t a).2.1 - a) a = [102, 97, 108, 115, 101]) := fun z => g' ⟨g7, z⟩
              generalize sb t ((LKs n t a).2.1 - a) a = w at q
              unfold wrd
              split
              · rename_i q' hq
                exact absurd (Or.inl (rfr_isN hq)) q
              · rw [if_neg (fun z => q (Or.inr (Or.inl z))), if_neg (fun z => q (Or.inr (Or.inr (Or.inl z)))), if_neg (fun z => q (Or.inr (Or.inr (Or.inr z)))), if_neg (fun z => q (Or.inl z))]
                exact ⟨rfl, rfl⟩
            · rw [if_neg g7]
              exact ⟨rfl, rfl⟩
  · rw [if_neg hwr]
    by_cases hs0 : (LKs n t a).1 = 0
    · have := s5 hs0
      unfold sns
      rw [if_pos hs0]
      exact ⟨fun _ => ⟨this, rfl⟩, fun z => by cases z⟩
    · have hw : LKw n t a = (LKs n t a).2.2.1 := by unfold LKw; rw [if_neg hs0]
      unfold sns
      rw [if_neg hs0, hw, if_pos hwr]
      exact ⟨fun _ => ⟨rfl, rfl⟩, fun z => absurd z hwr⟩
section MTK
variable {σ : Sg} {Q : Po} {X : Xo} {n : Nat} {t : Nat → Nat} {S : St} {R : Rd} {d a b : Nat} {st : Nat → Nat} {kd : Bool} {l : List Nat}
theorem adS_kd {what : Nat} {v x : Int32} {l : List Nat} (hst : ∀ i, i < d → st i < S.1) : kd0 (adS S what v x l d) d st = kd0 S d st := by
  unfold kd0
  rw [decide_eq_decide]
  by_cases hd : 0 < d
  · have := hst (d - 1) (by omega)
    show (0 < d ∧ (if st (d - 1) = S.1 then _ else S.2.1 0 (st (d - 1))) = nI 7) ↔ _
    rw [if_neg (by omega)]
  · simp [hd]
/-- behind a node that was added -/
theorem sp_take_end {I : Jt} {o : Nat × Rd × Nat} {b : Nat} {S' : St} {σ0 : Sg} (hI : Cl (FM (cutN 339 t_X8_take) e_X8_take xn0 0 sws0 false Q X) I) (h : PTM σ0 n t a o Q) (hO : OKR R) (hF : Fr mdP σ0 σ) (hT : TapeM σ n t) (hM : MS σ S') (hS' : SZ S') (hnn : R.1.1 ≤ S'.1) (h5 : σ.1 7 29 = nI R.2.1) (hs : ∀ i, i < R.2.1 → σ.1 32 i = nI (R.2.2.1 i)) (e3 : σ.1 7 23 = nI a) (e4 : σ.1 7 24 = nI b)
    (ho : o = (0, (if kd = true then (S', R.2.1, R.2.2.1, false) else val1 S' R.2.1 R.2.2.1), b)) : I 0 321 [some (.ref 7), some (.int (bI kd))] [] σ := by
  subst ho
  refine run_in (stop := fun _ => false) hI 40 ?_
  refine And.intro (fun g => ?_) (fun g => ?_)
  · have g := bIf g
    subst g
    refine ⟨Nat.le_refl _, sp_X8_valueIsThere hT hM h5 hs hS' hO.2.1 (fun i hi => Nat.lt_of_lt_of_le (hO.2.2.1 i hi) hnn) (fun τ q1 q2 q3 => ?_)⟩
    exact h τ q1 (hF.tr q2) ((q3 23 (by decide)).trans e3) (fun _ => (q3 24 (by decide)).trans e4)
  · have g := bIt g
    subst g
    exact ⟨Or.inl rfl, h _ ⟨hT.m (by omega), hM.m (by omega), (sM_o (by omega)).trans h5, fun i hi => (sM_o (by omega)).trans (hs i hi), false, sM_s, by simp⟩ (hF.s (by simp [mdP])) ((sM_o (by omega)).trans e3) (fun _ => (sM_o (by omega)).trans e4)⟩
theorem sp_X8_take (hL : TL σ n t a) (ha : a ≤ n) (hsk : SK n t a = a) (hR : RM σ n t R.1 R.2.1 R.2.2.1 R.2.2.2) (hO : OKR R) (hsn : sns R.2.2.2 (inA0 R.1 R.2.1 R.2.2.1) (LKs n t a).1 (LKw n t a) (LKt n t a) = 0)
    (h : PTM σ n t a (tkn n t R a (LKs n t a).1 (LKs n t a).2.1 (LKs n t a).2.2.2) Q) : P_X8_take [.ref 7] σ Q X := by
  have hO' := hO
  obtain ⟨o1, o2, o3, o4⟩ := hO
  have hR' := hR
  obtain ⟨hT, hM, h5, hs, kn, hkn, hkd⟩ := hR
  have hL' := hL
  obtain ⟨l0, l1, l2, l3, l4, l5⟩ := hL
  obtain ⟨s1, s2, s3, s4, s5⟩ := LKs_s (n := n) (a := a) (t := t)
  have hwr := ((trn_sns (n := n) (t := t) (a := a) hO').2 hsn).1
  have hs0 : (LKs n t a).1 ≠ 0 := fun z => by have := s5 z; omega
  have hlt : (LKs n t a).1 ≠ 7 → LKt n t a = (LKs n t a).2.2.2 := fun z => by unfold LKt; rw [if_neg z]
  have hw0 : LKw n t a = 0 := by unfold LKw; rw [if_neg hs0, hwr]
  unfold sns at hsn
  rw [if_neg hs0, if_neg (by omega)] at hsn
  have h7 := (LK7 (n := n) (a := a) (t := t)).1
  have hwT : (LKs n t a).1 = 7 → LKt n t a = sb t (WD n t a - a) a := fun z => by unfold LKt; rw [if_pos z]
  unfold tkn at h
  -- closing
  have close : 0 < R.2.1 → PTM σ n t a (cl1 R (LKs n t a).2.1) Q → ∀ {I : Jt} (hI : Cl (FM (cutN 339 t_X8_take) e_X8_take xn0 0 sws0 false Q X) I), I 0 16 [some (.ref 7), none] [] σ := by
    intro hd h I hI
    have hj := o3 (R.2.1 - 1) (by omega)
    have hz := o1.1
    have hx : σ.1 7 29 - 1 = nI (R.2.1 - 1) := by rw [h5]; exact nI_sub (a := 1) (by omega)
    refine run_in (stop := fun pc => Nat.beq pc 26) hI 40 ?_
    have m26 : ∀ σ1 : Sg, σ1 = sM σ 7 29 (nI (R.2.1 - 1)) → I 0 26 [some (.ref 7), none] [] σ1 := by
      intro σ1 hσ
      have h29 : σ1.1 7 29 = nI (R.2.1 - 1) := by rw [hσ, sM_s]
      have h3 : σ1.1 7 3 = nI R.1.1 := by rw [hσ, sM_o (by omega)]; exact hM.1
      have e32 : el σ1 32 (σ1.1 7 29) = nI (R.2.2.1 (R.2.1 - 1)) := by
        rw [h29, el_nI (by decide) (by omega), hσ, sM_o (by omega)]
        exact hs _ (by omega)
      refine run_in (stop := fun _ => false) hI 40 ?_
      refine ⟨rfl, pk_in (R.2.1 - 1) 100 (by omega) h29, ?_⟩
      rw [e32]
      refine ⟨rfl, nI_in (show R.2.2.1 (R.2.1 - 1) < 4000 by omega) (by decide), Nat.le_refl _, ?_⟩
      show P_X8_valueIsThere [.ref 7] (sM σ1 25 (nI (R.2.2.1 (R.2.1 - 1))).toNatClampNeg (σ1.1 7 3)) _ _
      rw [nI_clamp (by omega), h3]
      refine sp_X8_valueIsThere (n := n) (t := t) (S := cls R.1 (R.2.2.1 (R.2.1 - 1))) (d := R.2.1 - 1) (st := R.2.2.1) ?_ ⟨?_, ?_, fun i k hi hk => ?_, fun i hi => ?_⟩ ?_ (fun i hi => ?_) o1 (by omega) (fun i hi => o3 i (by omega)) (fun τ q1 q2 q3 => ?_)
      · rw [hσ]
        exact (hT.m (by omega)).fr (sM_o (by omega)) (fun k => sM_o (by omega))
      · rw [sM_o (by omega)]
        exact h3
      · rw [sM_o (by omega), hσ, sM_o (by omega)]
        exact hM.2.1
      · show _ = if i = 3 ∧ k = R.2.2.1 (R.2.1 - 1) then nI R.1.1 else R.1.2.1 i k
        have hmc : mc i = 25 → i = 3 := by
          intro z
          unfold mc at z
          split at z
          · omega
          · split at z
            · omega
            · split at z
              · omega
              · split at z
                · assumption
                · omega
        have hmb := mc_b hi
        by_cases e : i = 3 ∧ k = R.2.2.1 (R.2.1 - 1)
        · rw [if_pos e, e.1, e.2]
          exact sM_s
        · rw [if_neg e, sM_o (by omega), hσ, sM_o (by omega)]
          exact hM.2.2.1 i k hi hk
      · rw [sM_o (by omega), hσ, sM_o (by omega)]
        exact hM.2.2.2 i hi
      · rw [sM_o (by omega)]
        exact h29
      · rw [sM_o (by omega), hσ, sM_o (by omega)]
        exact hs i (by omega)
      · refine h τ q1 (Fr.tr ?_ q2) ?_ (fun _ => ?_)
        · rw [hσ]
          exact (Fr.rf.s (by simp [mdP])).s (by simp [mdP])
        · rw [q3 23 (by decide), sM_o (by omega), hσ, sM_o (by omega)]
          exact l2
        · rw [q3 24 (by decide), sM_o (by omega), hσ, sM_o (by omega)]
          exact l3
    have := m26 _ rfl
    rw [← hx] at this
    exact this
  -- behind the room
  have room : ∀ {I : Jt} (hI : Cl (FM (cutN 339 t_X8_take) e_X8_take xn0 0 sws0 false Q X) I), (LKs n t a).1 ≠ 2 → (LKs n t a).1 ≠ 4 → R.1.1 < 4000 → R.1.2.2.1 + (if (LKs n t a).1 = 5 ∨ (LKs n t a).1 = 6 then (LKt n t a).length else 0) ≤ 32768 → (((LKs n t a).1 = 1 ∨ (LKs n t a).1 = 3) → R.2.1 < 100) → I 0 129 [some (.ref 7), some (.int (bI R.2.2.2))] [] σ := by
    intro I hI n2 n4 r1 r2 r3
    refine run_in (stop := fun pc => Nat.beq pc 145 || Nat.beq pc 213 || Nat.beq pc 233) hI 40 ?_
    -- a beginning
    have beg : ∀ what, ((LKs n t a).1 = 1 ∧ what = 6 ∨ (LKs n t a).1 = 3 ∧ what = 7) → I 0 145 [some (.ref 7), some (.int (bI R.2.2.2))] [] σ := by
      intro what hwh
      have hd := r3 (by omega)
      have hk : R.2.2.2 = false := by
        cases e : R.2.2.2 with
        | false => rfl
        | true => rw [e, if_pos rfl, if_neg (by omega)] at hsn; cases hsn
      have ho : PTM σ n t a (0, (adS R.1 what 0 0 [] R.2.1, R.2.1 + 1, stp R.2.2.1 R.2.1 R.1.1, decide (what = 7)), (LKs n t a).2.1) Q := by
        rw [hk, if_neg (by simp)] at h
        unfold opn at h
        rcases hwh with ⟨q1, q2⟩ | ⟨q1, q2⟩
        · rw [if_pos q1, if_neg (by omega), if_neg (by omega)] at h
          rw [q2]
          exact h
        · rw [if_neg (by omega), if_pos q1, if_neg (by omega), if_neg (by omega)] at h
          rw [q2]
          exact h
      have m168 : ∀ σ1 : Sg, σ1 = sM (sM σ 32 R.2.1 (nI R.1.1)) 7 29 (nI (R.2.1 + 1)) → I 0 168 [some (.ref 7), some (.int (bI R.2.2.2))] [] σ1 := by
        intro σ1 hσ
        have hM1 : MS σ1 R.1 := by rw [hσ]; exact (hM.m (by omega)).m (by omega)
        have e22 : σ1.1 7 22 = nI (LKs n t a).1 := by rw [hσ, sM_o (by omega), sM_o (by omega)]; exact l1
        have fin : ∀ τ, MS τ (adS R.1 what 0 0 [] R.2.1) → Fr maP σ1 τ → ((1 : Int32) = 0 ∨ (1 : Int32) = 1) ∧ Q (some (.int 0)) (sM τ 7 31 1) := by
          intro τ hM2 hF2
          refine ⟨Or.inr rfl, ho _ ⟨?_, hM2.m (by omega), ?_, fun i hi => ?_, true, sM_s, ?_⟩ ?_ ?_ (fun _ => ?_)⟩
          · refine TapeM.m (TapeM.fr (σ := σ1) ?_ (hF2.2 7 1 (by simp [maP])) (fun k => hF2.2 20 k (by simp [maP]))) (by omega)
            rw [hσ]
            exact (hT.fr (sM_o (by omega)) (fun k => sM_o (by omega))).m (by omega)
          · rw [sM_o (by omega), hF2.2 7 29 (by simp [maP]), hσ, sM_s]
          · have hi' : i < R.2.1 + 1 := hi
            show _ = nI (if i = R.2.1 then R.1.1 else R.2.2.1 i)
            rw [sM_o (by omega), hF2.2 32 i (by simp [maP]), hσ, sM_o (by omega)]
            by_cases e : i = R.2.1
            · rw [if_pos e, e, sM_s]
            · rw [if_neg e, sM_o (by omega)]
              exact hs i (by omega)
          · unfold kd0
            rw [Bool.and_true, decide_eq_decide]
            show _ ↔ (0 < R.2.1 + 1 ∧ (if (if R.2.1 + 1 - 1 = R.2.1 then R.1.1 else R.2.2.1 (R.2.1 + 1 - 1)) = R.1.1 then (if (0 : Nat) = 0 then nI what else _) else _) = nI 7)
            rw [if_pos (show R.2.1 + 1 - 1 = R.2.1 by omega), if_pos rfl, if_pos rfl, nI_eq (by omega) (by omega)]
            omega
          · refine Fr.s (Fr.tr ?_ (ma_md hF2)) (by simp [mdP])
            rw [hσ]
            exact (Fr.rf.s (by simp [mdP])).s (by simp [mdP])
          · rw [sM_o (by omega), hF2.2 7 23 (by simp [maP]), hσ, sM_o (by omega), sM_o (by omega)]
            exact l2
          · rw [sM_o (by omega), hF2.2 7 24 (by simp [maP]), hσ, sM_o (by omega), sM_o (by omega)]
            exact l3
        refine run_in (stop := fun _ => false) hI 40 ?_
        refine kne (LKs n t a).1 1 (fun g => ?_) (fun g => ?_) e22 rfl
        · have : what = 7 := by omega
          subst this
          exact ⟨Nat.le_refl _, sp_X8_add (what := 7) R.2.1 hM1 r1 fin⟩
        · have : what = 6 := by omega
          subst this
          exact ⟨Nat.le_refl _, sp_X8_add (what := 6) R.2.1 hM1 r1 fin⟩
      refine run_in (stop := fun pc => Nat.beq pc 168) hI 40 ?_
      refine ⟨rfl, pk_in R.2.1 100 hd h5, ?_⟩
      have := m168 _ rfl
      rw [show nI (R.2.1 + 1) = σ.1 7 29 + 1 by rw [h5, nI_succ], ← hM.1, ← pk_cl R.2.1 h5] at this
      exact this
    -- a text
    have txt : ∀ kk, ((LKs n t a).1 = 5 ∧ kk = 4 ∨ (LKs n t a).1 = 6 ∧ kk = 5) → I 0 213 [some (.ref 7), some (.int (bI R.2.2.2))] [] σ := by
      intro kk hkk
      have hlt := hlt (by omega)
      rw [if_pos (by omega)] at r2
      rw [hlt] at r2
      rw [hlt] at l5
      have ho : (tkn n t R a (LKs n t a).1 (LKs n t a).2.1 (LKs n t a).2.2.2) = (0, (if R.2.2.2 = true then (adS R.1 kk (nI (LKs n t a).2.2.2.length) 0 (LKs n t a).2.2.2 R.2.1, R.2.1, R.2.2.1, false) else val1 (adS R.1 kk (nI (LKs n t a).2.2.2.length) 0 (LKs n t a).2.2.2 R.2.1) R.2.1 R.2.2.1), (LKs n t a).2.1) := by
        unfold tkn
        cases e : R.2.2.2 with
        | false =>
          rw [if_neg (by simp), if_neg (by omega), if_neg (by omega), if_neg n2]
          rcases hkk with ⟨q1, q2⟩ | ⟨q1, q2⟩
          · rw [if_pos q1]
            unfold leaf
            rw [if_neg (by omega), q2, if_neg (by simp)]
          · rw [if_neg (by omega), if_pos q1]
            unfold leaf
            rw [if_neg (by omega), q2, if_neg (by simp)]
        | true =>
          rw [e, if_pos rfl] at hsn
          have h6 : (LKs n t a).1 = 6 := by
            split at hsn
            · omega
            · cases hsn
          rw [if_pos rfl, if_neg n4, if_pos h6]
          unfold key1
          rw [if_neg (by omega), if_pos rfl]
          rw [show kk = 5 by omega]
      have fin : ∀ τ, MS τ (adS R.1 kk (nI (LKs n t a).2.2.2.length) 0 (LKs n t a).2.2.2 R.2.1) → Fr maP σ τ → I 0 321 [some (.ref 7), some (.int (bI R.2.2.2))] [] τ := by
        intro τ hM2 hF2
        refine sp_take_end hI (by unfold tkn at ho; rw [ho] at h; exact h) hO' (ma_md hF2) (hT.fr (hF2.2 7 1 (by simp [maP])) (fun k => hF2.2 20 k (by simp [maP]))) hM2 ⟨?_, ?_⟩ ?_ ((hF2.2 7 29 (by simp [maP])).trans h5) (fun i hi => (hF2.2 32 i (by simp [maP])).trans (hs i hi)) ((hF2.2 7 23 (by simp [maP])).trans l2) ((hF2.2 7 24 (by simp [maP])).trans l3) rfl
        · show R.1.1 + 1 ≤ 4000; omega
        · exact r2
        · show R.1.1 ≤ R.1.1 + 1; omega
      refine run_in (stop := fun pc => Nat.beq pc 321) hI 40 ?_
      refine kne (LKs n t a).1 5 (fun g => ?_) (fun g => ?_) l1 rfl
      · have : kk = 5 := by omega
        subst this
        exact ⟨Nat.le_refl _, sp_X8_addText (kk := 5) R.2.1 hM r1 r2 l5 fin⟩
      · have : kk = 4 := by omega
        subst this
        exact ⟨Nat.le_refl _, sp_X8_addText (kk := 4) R.2.1 hM r1 r2 l5 fin⟩
    -- a word
    have wordy : (LKs n t a).1 ≠ 1 → (LKs n t a).1 ≠ 3 → (LKs n t a).1 ≠ 5 → (LKs n t a).1 ≠ 6 → I 0 233 [some (.ref 7), some (.int (bI R.2.2.2))] [] σ := by
      intro n1 n3 n5 n6
      have hk : R.2.2.2 = false := by
        cases e : R.2.2.2 with
        | false => rfl
        | true => rw [e, if_pos rfl, if_neg (by omega)] at hsn; cases hsn
      rw [hk, if_neg (by simp), if_neg n2, if_neg (by omega)] at hsn
      have hc : (LKs n t a).1 = 7 ∧ (isN (LKt n t a) = true ∨ LKt n t a = [110, 117, 108, 108] ∨ LKt n t a = [116, 114, 117, 101] ∨ LKt n t a = [102, 97, 108, 115, 101]) := by
        split at hsn
        · assumption
        · cases hsn
      obtain ⟨g7, hc⟩ := hc
      have hbW := (h7 g7).2.1
      have hwT := hwT g7
      rw [hk, if_neg (by simp), if_neg n1, if_neg n3, if_neg n2, if_neg n5, if_neg n6, if_pos g7, hbW, ← hwT] at h
      have hx : TxM σ (LKt n t a) := l5
      -- a leaf is added
      have lf : ∀ (σ1 : Sg) (what : Nat) (v x : Int32) (b : Nat), PTM σ n t a (leaf R what v x [] b) Q → Fr mrP σ σ1 → σ1.1 7 23 = nI a → σ1.1 7 24 = nI b → ∀ τ, MS τ (adS R.1 what v x [] R.2.1) → Fr maP σ1 τ → I 0 321 [some (.ref 7), some (.int (bI R.2.2.2))] [] τ := by
        intro σ1 what v x b hp hF1 e23 e24 τ hM2 hF2
        refine sp_take_end hI hp hO' ((mr_md hF1).tr (ma_md hF2)) ((hT.mr hF1).fr (hF2.2 7 1 (by simp [maP])) (fun k => hF2.2 20 k (by simp [maP]))) hM2 ⟨?_, ?_⟩ ?_ ((hF2.2 7 29 (by simp [maP])).trans ((hF1.2 7 29 (by simp [mrP])).trans h5)) (fun i hi => (hF2.2 32 i (by simp [maP])).trans ((hF1.2 32 i (by simp [mrP])).trans (hs i hi))) ((hF2.2 7 23 (by simp [maP])).trans e23) ((hF2.2 7 24 (by simp [maP])).trans e24) ?_
        · show R.1.1 + 1 ≤ 4000; omega
        · show R.1.2.2.1 + 0 ≤ 32768; exact o1.2
        · show R.1.1 ≤ R.1.1 + 1; omega
        · unfold leaf
          have := o1.2
          rw [hk, if_neg (show ¬ (4000 ≤ R.1.1 ∨ 32768 < R.1.2.2.1 + ([] : List Nat).length) by simp only [List.length_nil]; omega), if_neg (by simp)]
      refine run_in (stop := fun pc => Nat.beq pc 257 || Nat.beq pc 321) hI 40 ?_
      refine ⟨Nat.le_refl _, sp_X8_isReference hL' ha hsk g7 (fun hn τ hτ hF => ?_) (fun q hq τ t1 t2 t3 t4 t5 t6 hF => ?_)⟩
      · refine And.intro (fun _ => ?_) (fun g => absurd rfl g)
        unfold wrd at h
        rw [hwT, hn] at h
        simp only at h
        rw [← hwT] at h
        have e24 : τ.1 7 24 = nI (WD n t a) := by rw [hτ.2.2.2.1, hbW]
        have e23 := hτ.2.2.1
        have hx2 := hτ.2.2.2.2.2
        show I 0 257 _ _ _
        refine run_in (stop := fun pc => Nat.beq pc 288 || Nat.beq pc 321) hI 40 ?_
        refine ⟨Nat.le_refl _, sp_X8_isNumber hτ.2.1 (by omega) hx2 (fun r hr => ?_)⟩
        subst hr
        rw [g7, decide_eq_true rfl, Bool.true_and]
        refine And.intro (fun g => ?_) (fun g => ?_)
        · have g := bIf g
          rw [g] at hc h
          show I 0 288 _ _ _
          refine run_in (stop := fun pc => Nat.beq pc 303 || Nat.beq pc 321) hI 40 ?_
          have m303 : ∀ k : Nat, (k = 0 ∧ LKt n t a = [110, 117, 108, 108] ∨ k = 1 ∧ ¬ LKt n t a = [110, 117, 108, 108]) → I 0 303 [some (.ref 7), some (.int (bI R.2.2.2))] [.int (nI k), .ref 7] τ := by
            intro k hkk
            refine run_in (stop := fun pc => Nat.beq pc 321) hI 40 ?_
            refine ⟨Nat.le_refl _, sp_X8_isWord (j := 61) (by omega) (by omega) hτ.2.1 (by omega) hx2 (fun r hr => ?_)⟩
            subst hr
            rw [g7]
            refine And.intro (fun g => ?_) (fun g => ?_)
            · have g2 := of_decide_eq_false (bIf g)
              have g2 : ¬ LKt n t a = [116, 114, 117, 101] := fun z => g2 ⟨rfl, z⟩
              rcases hkk with ⟨k1, k2⟩ | ⟨k1, k2⟩
              · rw [if_pos k2] at h
                subst k1
                exact ⟨Nat.le_refl _, sp_X8_add (what := 0) (v := 0) (x := 0) R.2.1 (hM.mr hF) r1 (lf τ 0 0 0 _ h hF e23 e24)⟩
              · have k3 : LKt n t a = [102, 97, 108, 115, 101] := by
                  rcases hc with q | q | q | q
                  · cases q
                  · exact absurd q k2
                  · exact absurd q g2
                  · exact q
                rw [if_neg k2, if_neg g2, if_pos k3] at h
                subst k1
                exact ⟨Nat.le_refl _, sp_X8_add (what := 1) (v := 0) (x := 0) R.2.1 (hM.mr hF) r1 (lf τ 1 0 0 _ h hF e23 e24)⟩
            · have g2 := (of_decide_eq_true (bIt g)).2
              have g2 : LKt n t a = [116, 114, 117, 101] := g2
              have k2 : ¬ LKt n t a = [110, 117, 108, 108] := by rw [g2]; decide
              have k1 : k = 1 := by
                rcases hkk with ⟨k1, k3⟩ | ⟨k1, k3⟩
                · exact absurd k3 k2
                · exact k1
              rw [if_neg k2, if_pos g2] at h
              subst k1
              exact ⟨Nat.le_refl _, sp_X8_add (what := 1) (v := 1) (x := 0) R.2.1 (hM.mr hF) r1 (lf τ 1 1 0 _ h hF e23 e24)⟩
          refine ⟨Nat.le_refl _, sp_X8_isWord (j := 60) (by omega) (by omega) hτ.2.1 (by omega) hx2 (fun r hr => ?_)⟩
          subst hr
          rw [g7]
          refine And.intro (fun g => ?_) (fun g => ?_)
          · have g2 := of_decide_eq_false (bIf g)
            exact m303 1 (Or.inr ⟨rfl, fun z => g2 ⟨rfl, z⟩⟩)
          · exact m303 0 (Or.inl ⟨rfl, (of_decide_eq_true (bIt g)).2⟩)
        · have g := bIt g
          have q1 : ¬ LKt n t a = [110, 117, 108, 108] := fun z => by rw [z, isN_w.1] at g; cases g
          have q2 : ¬ LKt n t a = [116, 114, 117, 101] := fun z => by rw [z, isN_w.2.1] at g; cases g
          have q3 : ¬ LKt n t a = [102, 97, 108, 115, 101] := fun z => by rw [z, isN_w.2.2] at g; cases g
          rw [if_neg q1, if_neg q2, if_neg q3, if_pos g] at h
          refine ⟨Nat.le_refl _, sp_X8_isInteger hx2 g (fun r hr => ?_)⟩
          subst hr
          refine And.intro (fun z => ?_) (fun z => ?_)
          · have z : rlN (LKt n t a) = true := by simpa using bIf z
            rw [z, if_pos rfl] at h
            refine ⟨Nat.le_refl _, sp_X8_numberValue hx2 g (fun r hr => ?_)⟩
            subst hr
            exact ⟨Nat.le_refl _, sp_X8_add (what := 3) (x := 0) R.2.1 (hM.mr hF) r1 (lf τ 3 _ 0 _ h hF e23 e24)⟩
          · have z : rlN (LKt n t a) = false := by simpa using bIt z
            rw [z, if_neg (by simp)] at h
            refine ⟨Nat.le_refl _, sp_X8_numberValue hx2 g (fun r hr => ?_)⟩
            subst hr
            exact ⟨Nat.le_refl _, sp_X8_add (what := 2) (x := 0) R.2.1 (hM.mr hF) r1 (lf τ 2 _ 0 _ h hF e23 e24)⟩
      · refine And.intro (fun g => absurd g (by decide)) (fun _ => ?_)
        unfold wrd at h
        rw [hwT, hq] at h
        refine ⟨Nat.le_refl _, ?_⟩
        show P_X8_add [.ref 7, .int (nI 8), .int (τ.1 7 28), .int (τ.1 7 32)] _ _ _
        rw [t5, t6]
        exact sp_X8_add (what := 8) R.2.1 (hM.mr hF) r1 (lf τ 8 (nI q.1) (nI q.2.1) q.2.2 h hF t3 t4)
    refine pk_eq (LKs n t a).1 1 (fun g => beg 6 (Or.inl ⟨g, rfl⟩)) (fun n1 => ?_) l1 rfl
    refine kne (LKs n t a).1 3 (fun n3 => ?_) (fun g => beg 7 (Or.inr ⟨g, rfl⟩)) l1 rfl
    refine pk_eq (LKs n t a).1 5 (fun g => txt 4 (Or.inl ⟨g, rfl⟩)) (fun n5 => ?_) l1 rfl
    refine kne (LKs n t a).1 6 (fun n6 => wordy n1 n3 n5 n6) (fun g => txt 5 (Or.inr ⟨g, rfl⟩)) l1 rfl
  have m78 : ∀ {I : Jt} (hI : Cl (FM (cutN 339 t_X8_take) e_X8_take xn0 0 sws0 false Q X) I), (LKs n t a).1 ≠ 2 → (LKs n t a).1 ≠ 4 → (((LKs n t a).1 = 1 ∨ (LKs n t a).1 = 3) → R.2.1 < 100) → I 0 78 [some (.ref 7), none] [] σ := by
    intro I hI n2 n4 r3
    refine run_in (stop := fun pc => Nat.beq pc 129) hI 80 ?_
    refine ⟨Nat.le_refl _, sp_X8_hasRoom hM o1 l1 s1 l5 (fun r hr => ?_)⟩
    subst hr
    refine And.intro (fun g => ?_) (fun g => ?_)
    · have g := of_decide_eq_true (bIt g)
      have rm := room hI n2 n4 g.1 g.2 r3
      refine pk_le R.2.1 0 (fun g => ?_) (fun g => ?_) h5 rfl
      · rw [show R.2.2.2 = false by rw [hkd]; unfold kd0; rw [decide_eq_false (by omega)]; rfl] at rm
        exact rm
      · obtain ⟨a1, a2, a3, a4⟩ := ldtop hM o1 h5 hs (by omega) o2 (o3 _ (by omega))
        refine ⟨rfl, a1, ?_⟩
        rw [a2]
        refine ⟨rfl, a3, ?_⟩
        rw [a4]
        refine And.intro (fun e => ?_) (fun e => ?_)
        · rw [show R.2.2.2 = false by rw [hkd]; unfold kd0; rw [decide_eq_false (fun z => e z.2)]; rfl] at rm
          exact rm
        · have hk0 : kd0 R.1 R.2.1 R.2.2.1 = true := decide_eq_true ⟨by omega, e⟩
          show (σ.1 7 31 = 0 → _) ∧ (¬ σ.1 7 31 = 0 → _)
          rw [hkn]
          refine And.intro (fun e2 => ?_) (fun e2 => ?_)
          · rw [show R.2.2.2 = false by rw [hkd, bIf e2, Bool.and_false]] at rm
            exact rm
          · rw [show R.2.2.2 = true by rw [hkd, bIt e2, hk0]; rfl] at rm
            exact rm
    · have g := of_decide_eq_false (bIf g)
      -- no room
      have full : ∀ R' b', PTM σ n t a (7, R', b') Q → R' = R → Q (some (.int (-7))) σ := by
        intro R' b' hp e
        subst e
        exact hp σ hR' Fr.rf l2 (fun z => by cases z)
      by_cases hk : R.2.2.2 = true
      · rw [hk, if_pos rfl] at hsn h
        have h6 : (LKs n t a).1 = 6 := by
          split at hsn
          · omega
          · cases hsn
        rw [if_neg n4, if_pos h6] at h
        unfold key1 at h
        rw [if_pos (by rw [if_pos (Or.inr h6), hlt (by omega)] at g; omega)] at h
        exact full _ _ h rfl
      · rw [if_neg hk] at hsn h
        rw [if_neg n2] at hsn h
        unfold opn leaf at h
        by_cases g1 : (LKs n t a).1 = 1
        · rw [if_neg (by omega)] at g
          rw [if_pos g1, if_neg (by have := r3 (by omega); omega), if_pos (by have := o1.2; omega)] at h
          exact full _ _ h rfl
        rw [if_neg g1] at h
        by_cases g3 : (LKs n t a).1 = 3
        · rw [if_neg (by omega)] at g
          rw [if_pos g3, if_neg (by have := r3 (by omega); omega), if_pos (by have := o1.2; omega)] at h
          exact full _ _ h rfl
        rw [if_neg g3] at h
        by_cases g5 : (LKs n t a).1 = 5
        · rw [if_pos (Or.inl g5), hlt (by omega)] at g
          rw [if_pos g5, if_pos (by omega)] at h
          exact full _ _ h rfl
        rw [if_neg g5] at h
        by_cases g6 : (LKs n t a).1 = 6
        · rw [if_pos (Or.inr g6), hlt (by omega)] at g
          rw [if_pos g6, if_pos (by omega)] at h
          exact full _ _ h rfl
        rw [if_neg g6] at h
        rw [if_neg (by omega)] at hsn g
        have hc : (LKs n t a).1 = 7 ∧ (isN (LKt n t a) = true ∨ LKt n t a = [110, 117, 108, 108] ∨ LKt n t a = [116, 114, 117, 101] ∨ LKt n t a = [102, 97, 108, 115, 101]) := by
          split at hsn
          · assumption
          · cases hsn
        rw [if_pos hc.1, (h7 hc.1).2.1, ← hwT hc.1] at h
        have hN : 4000 ≤ R.1.1 := by have := o1.2; omega
        unfold wrd leaf at h
        split at h
        · rw [if_pos (Or.inl hN)] at h
          exact full _ _ h rfl
        · rw [if_pos (Or.inl hN), if_pos (Or.inl hN), if_pos (Or.inl hN), if_pos (Or.inl hN)] at h
          split at h
          · exact full _ _ h rfl
          · rename_i q1
            split at h
            · exact full _ _ h rfl
            · rename_i q2
              split at h
              · exact full _ _ h rfl
              · rename_i q3
                rw [if_pos (by
                  rcases hc.2 with q | q | q | q
                  · exact q
                  · exact absurd q q1
                  · exact absurd q q2
                  · exact absurd q q3)] at h
                exact full _ _ h rfl
  refine ⟨rfl, fun I hI => run_in (stop := fun pc => Nat.beq pc 16 || Nat.beq pc 78) hI 80 ?_⟩
  have cl : ((LKs n t a).1 = 2 ∨ (LKs n t a).1 = 4) → I 0 16 [some (.ref 7), none] [] σ := by
    intro e
    by_cases hk : R.2.2.2 = true
    · rw [hk, if_pos rfl] at hsn h
      have h4 : (LKs n t a).1 = 4 := by
        split at hsn
        · omega
        · cases hsn
      rw [if_pos h4] at h
      exact close (o4 hk).1 h hI
    · rw [if_neg hk] at hsn h
      by_cases g2 : (LKs n t a).1 = 2
      · rw [if_pos g2] at hsn
        have hia : 0 < R.2.1 ∧ R.1.2.1 0 (R.2.2.1 (R.2.1 - 1)) = nI 6 := by
          split at hsn
          · rename_i q
            exact of_decide_eq_true q
          · cases hsn
        rw [if_neg (by omega), if_neg (by omega), if_pos g2, if_pos hia] at h
        exact close hia.1 h hI
      · rw [if_neg g2, if_neg (by omega), if_neg (by omega)] at hsn
        cases hsn
  refine pk_eq (LKs n t a).1 2 (fun g => cl (Or.inl g)) (fun n2 => ?_) l1 rfl
  refine kne (LKs n t a).1 4 (fun n4 => ?_) (fun g => cl (Or.inr g)) l1 rfl
  have deep : ((LKs n t a).1 = 1 ∨ (LKs n t a).1 = 3) → (¬ σ.1 7 29 = 100 → I 0 78 [some (.ref 7), none] [] σ) ∧ (σ.1 7 29 = 100 → Q (some (.int (-6))) σ) := by
    intro e
    refine kne R.2.1 100 (fun g => m78 hI n2 n4 (fun _ => by omega)) (fun g => ?_) h5 rfl
    have hk : ¬ R.2.2.2 = true := by
      intro z
      rw [z, if_pos rfl, if_neg (by omega)] at hsn
      cases hsn
    rw [if_neg hk] at h
    unfold opn at h
    have fin : ∀ b', PTM σ n t a (6, R, b') Q → Q (some (.int (-6))) σ := fun b' hp => hp σ hR' Fr.rf l2 (fun z => by cases z)
    rcases e with e | e
    · rw [if_pos e, if_pos (by omega)] at h
      exact fin _ h
    · rw [if_neg (by omega), if_pos e, if_pos (by omega)] at h
      exact fin _ h
  refine pk_eq (LKs n t a).1 1 (fun g => deep (Or.inl g)) (fun n1 => ?_) l1 rfl
  refine kne (LKs n t a).1 3 (fun n3 => m78 hI n2 n4 (fun z => by omega)) (fun g => deep (Or.inr g)) l1 rfl
end MTK
