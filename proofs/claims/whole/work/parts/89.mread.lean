/-! ===== PURE: the model reads ===== -/
theorem sk_id (t : Nat → Nat) : ∀ m k c, sk t c m k < k + m → sk t false (k + m - sk t c m k) (sk t c m k) = sk t c m k := by
  intro m
  induction m with
  | zero => intro k c h; simp only [sk] at h; omega
  | succ m ih =>
    intro k c h
    simp only [sk] at h ⊢
    have e : k + (m + 1) = k + 1 + m := by omega
    rw [e] at h ⊢
    split
    · rename_i g; rw [if_pos g] at h; exact ih (k + 1) false h
    · rename_i g1
      rw [if_neg g1] at h
      split
      · rename_i g; rw [if_pos g] at h; exact ih (k + 1) true h
      · rename_i g2
        rw [if_neg g2] at h
        split
        · rename_i g; rw [if_pos g] at h; exact ih (k + 1) c h
        · rename_i g3
          obtain ⟨j, hj⟩ : ∃ j, k + 1 + m - k = j + 1 := ⟨m, by omega⟩
          rw [hj]
          simp only [sk]
          rw [if_neg g1, if_neg g2, if_neg (fun z => z.elim (fun z => by cases z) (fun z => g3 (Or.inr z)))]
theorem SK_id {n k : Nat} {t : Nat → Nat} (hk : k ≤ n) : SK n t (SK n t k) = SK n t k := by
  have hb := SK_b (n := n) (t := t) hk
  by_cases h : SK n t k < n
  · have := sk_id t (n - k) k false (by unfold SK at h; omega)
    rw [show k + (n - k) = n by omega] at this
    exact this
  · have e : SK n t k = n := by omega
    rw [e]
    unfold SK
    rw [Nat.sub_self]
    rfl
theorem LK7 {n a : Nat} {t : Nat → Nat} : ((LKs n t a).1 = 7 → rg (tg n t a) = true ∧ (LKs n t a).2.1 = WD n t a ∧ (LKs n t a).2.2.1 = 0) ∧ (rg (tg n t a) = true → (LKs n t a).1 = 7) := by
  constructor
  · intro h
    unfold LKs at h ⊢
    repeat' (split at h)
    all_goals (first | (cases h; done) | skip)
    rename_i h1 h2 h3 h4 h5 h6 h7 h8
    simp [h1, h2, h3, h4, h5, h6, h7, h8]
  · intro h
    have hn : ∀ c, rg c = false → ¬ tg n t a = c := fun c hc e => by rw [e, hc] at h; cases h
    unfold LKs
    rw [if_neg (hn 256 rfl), if_neg (hn 91 rfl), if_neg (hn 93 rfl), if_neg (hn 60 rfl), if_neg (hn 62 rfl), if_neg (hn 40 rfl), if_neg (hn 47 rfl), if_pos h]
theorem cnt_eq {n a most : Nat} {t : Nat → Nat} (ha : a ≤ n) : (if (LKs n t a).1 = 7 then ixl most 0 (LKt n t a) else none) = IX most (sb t (WD n t a - a) a) := by
  by_cases h : (LKs n t a).1 = 7
  · have h1 := LK7.1 h
    have han : a < n := by
      refine tg_in (t := t) ?_
      intro e
      rw [e] at h1
      cases h1.1
    have h2 := (WD_pos (n := n) (t := t) han).1 (by rw [← tg_lt (t := t) han]; exact h1.1)
    rw [if_pos h, LKt, if_pos h]
    obtain ⟨m, hm⟩ : ∃ m, WD n t a - a = m + 1 := ⟨WD n t a - a - 1, by omega⟩
    rw [hm]
    rfl
  · rw [if_neg h]
    have hr : rg (tg n t a) = false := by
      cases e : rg (tg n t a) with
      | false => rfl
      | true => exact absurd (LK7.2 e) h
    have : WD n t a = a := by
      by_cases han : a < n
      · exact (WD_pos (n := n) (t := t) han).2 (by rw [← tg_lt (t := t) han]; exact hr)
      · have := WD_b (n := n) (t := t) ha
        omega
    rw [this, Nat.sub_self]
    rfl
theorem wd_eq {n a c : Nat} {t : Nat → Nat} {L : List Nat} (ha : a ≤ n) : decide ((LKs n t a).1 = 7 ∧ LKt n t a = c :: L) = decide (sb t (WD n t a - a) a = c :: L) := by
  rw [decide_eq_decide]
  by_cases h : (LKs n t a).1 = 7
  · rw [LKt, if_pos h]
    simp [h]
  · have hr : rg (tg n t a) = false := by
      cases e : rg (tg n t a) with
      | false => rfl
      | true => exact absurd (LK7.2 e) h
    have : WD n t a = a := by
      by_cases han : a < n
      · exact (WD_pos (n := n) (t := t) han).2 (by rw [← tg_lt (t := t) han]; exact hr)
      · have := WD_b (n := n) (t := t) ha
        omega
    rw [this, Nat.sub_self]
    simp [h, sb]
def mrP (j k : Nat) : Prop := (j = 7 ∧ ((22 ≤ k ∧ k ≤ 26) ∨ k = 28 ∨ k = 32)) ∨ j = 31
theorem lk_mr {σ τ : Sg} (h : Fr lkP σ τ) : Fr mrP σ τ := h.w (fun j k z => by unfold lkP at z; unfold mrP; omega)
theorem TapeM.mr {σ τ : Sg} {n : Nat} {t : Nat → Nat} (hT : TapeM σ n t) (h : Fr mrP σ τ) : TapeM τ n t := hT.fr (h.2 7 1 (by simp [mrP])) (fun k => h.2 20 k (by simp [mrP]))
theorem MS.mr {σ τ : Sg} {S : St} (h : MS σ S) (hf : Fr mrP σ τ) : MS τ S := h.fr (hf.2 7 3 (by simp [mrP])) (hf.2 7 9 (by simp [mrP])) (fun j k h1 h2 => hf.2 j k (by simp [mrP]; omega))
section MRD
variable {σ : Sg} {Q : Po} {X : Xo} {n : Nat} {t : Nat → Nat} {S : St} {d a b : Nat} {st : Nat → Nat} {l : List Nat}
/-- the token at a lies in the model's fields -/
def TL (σ : Sg) (n : Nat) (t : Nat → Nat) (a : Nat) : Prop := TapeM σ n t ∧ σ.1 7 22 = nI (LKs n t a).1 ∧ σ.1 7 23 = nI a ∧ σ.1 7 24 = nI (LKs n t a).2.1 ∧ σ.1 7 25 = wrI (LKw n t a) ∧ TxM σ (LKt n t a)
theorem TL.of {τ : Sg} (hT : TapeM σ n t) (h : TM σ τ (LKs n t a).1 a (LKs n t a).2.1 (LKw n t a) (LKt n t a)) : TL τ n t a := ⟨hT.lk h.1, h.2.1, h.2.2.1, h.2.2.2.1, h.2.2.2.2.1, h.2.2.2.2.2⟩
theorem TL.m {k : Nat} {v : Int32} (h : TL σ n t a) (hk : k = 28 ∨ k = 32 ∨ k = 31 ∨ k = 29) : TL (sM σ 7 k v) n t a := ⟨h.1.m (by omega), (sM_o (by omega)).trans h.2.1, (sM_o (by omega)).trans h.2.2.1, (sM_o (by omega)).trans h.2.2.2.1, (sM_o (by omega)).trans h.2.2.2.2.1, h.2.2.2.2.2.m (by omega)⟩
theorem sp_isCount {most : Nat} (hL : TL σ n t a) (ha : a ≤ n) (hm : most ≤ 8388607) (h : ∀ o, o = IX most (sb t (WD n t a - a) a) → Q (some (.int (bI o.isSome))) (sM σ 7 28 (nI (o.getD 0)))) : P_X8_isCount [.ref 7, .int (nI most)] σ Q X := by
  have := (LKs_s (n := n) (a := a) (t := t)).1
  exact sp_X8_isCount hm hL.2.1 (by omega) hL.2.2.2.2.2 (fun o ho => h o (by rw [ho, cnt_eq ha]))
theorem sp_isWord {j c : Nat} {L : List Nat} (hL : TL σ n t a) (ha : a ≤ n) (h1 : 60 ≤ j) (h2 : j < 72) (hj : sl j = c :: L) (h : ∀ r, r = bI (decide (sb t (WD n t a - a) a = c :: L)) → Q (some (.int r)) σ) : P_X8_isWord [.ref 7, .ref j] σ Q X := by
  have := (LKs_s (n := n) (a := a) (t := t)).1
  exact sp_X8_isWord h1 h2 hL.2.1 (by omega) hL.2.2.2.2.2 (fun r hr => h r (by rw [hr, hj, wd_eq ha]))
theorem sp_look {k : Nat} (hT : TapeM σ n t) (hk : k ≤ n) (h : ∀ τ, TL τ n t (SK n t k) → Fr mrP σ τ → Q none τ) : P_X8_look [.ref 7, .int (nI k)] σ Q X := sp_X8_look hT hk (fun τ hτ => h τ (TL.of hT hτ) (lk_mr hτ.1))
theorem sp_X8_isReference (hL : TL σ n t a) (ha : a ≤ n) (hsk : SK n t a = a) (hs7 : (LKs n t a).1 = 7)
    (h0 : rfr n t (WD n t a) (sb t (WD n t a - a) a) = none → ∀ τ, TL τ n t a → Fr mrP σ τ → Q (some (.int 0)) τ)
    (h1 : ∀ q, rfr n t (WD n t a) (sb t (WD n t a - a) a) = some q → ∀ τ, TapeM τ n t → TxM τ (LKt n t a) → τ.1 7 23 = nI a → τ.1 7 24 = nI q.2.2 → τ.1 7 28 = nI q.1 → τ.1 7 32 = nI q.2.1 → Fr mrP σ τ → Q (some (.int 1)) τ) : P_X8_isReference [.ref 7] σ Q X := by
  have hb : (LKs n t a).2.1 = WD n t a := (LK7.1 hs7).2.1
  have w0 := WD_b (n := n) (t := t) ha
  have s1 := SK_b (n := n) (t := t) w0.2
  have w1 := WD_b (n := n) (t := t) s1.2
  have s2 := SK_b (n := n) (t := t) w1.2
  have w2 := WD_b (n := n) (t := t) s2.2
  have no : ∀ {I : Jt} (hI : Cl (FM (cutN 101 t_X8_isReference) e_X8_isReference xn0 0 sws0 true Q X) I) (τ : Sg) (z3 z4 z5 : Int32), rfr n t (WD n t a) (sb t (WD n t a - a) a) = none → TapeM τ n t → Fr mrP σ τ → I 0 73 [some (.ref 7), some (.int (nI a)), some (.int 0), some (.int z3), some (.int z4), some (.int z5)] [] τ := by
    intro I hI τ z3 z4 z5 hn hT hF
    refine run_in (stop := fun _ => false) hI 40 ?_
    refine ⟨Nat.le_refl _, sp_look hT ha (fun υ q1 q2 => ?_)⟩
    rw [hsk] at q1
    refine And.intro (fun _ => ⟨bo0, ?_⟩) (fun g => absurd rfl g)
    exact h0 hn υ q1 (hF.tr q2)
  refine ⟨rfl, fun I hI => run_in (stop := fun pc => Nat.beq pc 5) hI 60 ?_⟩
  have main : I 0 5 [some (.ref 7), some (.int (nI a)), none, none, none, none] [] σ := by
    refine run_in (stop := fun pc => Nat.beq pc 73) hI 60 ?_
    refine ⟨Nat.le_refl _, sp_isCount (most := 8388607) hL ha (by omega) (fun o ho => ?_)⟩
    have hT1 : TapeM (sM σ 7 28 (nI (o.getD 0))) n t := hL.1.m (by decide)
    have hF1 : Fr mrP σ (sM σ 7 28 (nI (o.getD 0))) := Fr.rf.s (by simp [mrP])
    have e24 : (sM σ 7 28 (nI (o.getD 0))).1 7 24 = nI (WD n t a) := (sM_o (by omega)).trans (hL.2.2.2.1.trans (by rw [hb]))
    cases o with
    | none =>
      have hn : rfr n t (WD n t a) (sb t (WD n t a - a) a) = none := by unfold rfr; rw [← ho]
      refine And.intro (fun _ => ?_) (fun g => absurd rfl g)
      refine And.intro (fun _ => ?_) (fun g => absurd rfl g)
      exact no hI _ _ _ _ hn hT1 hF1
    | some v =>
      refine And.intro (fun g => absurd g (show ¬ (1 : Int32) = 0 by decide)) (fun _ => ?_)
      refine ⟨Nat.le_refl _, ?_⟩
      show P_X8_look [.ref 7, .int ((sM σ 7 28 (nI v)).1 7 24)] _ _ _
      rw [show (sM σ 7 28 (nI v)).1 7 24 = nI (WD n t a) from e24]
      refine sp_look hT1 w0.2 (fun τ2 q1 q2 => ?_)
      refine ⟨Nat.le_refl _, sp_isCount (most := 65535) q1 s1.2 (by omega) (fun o2 ho2 => ?_)⟩
      have hT3 : TapeM (sM τ2 7 28 (nI (o2.getD 0))) n t := q1.1.m (by decide)
      have hF3 : Fr mrP σ (sM τ2 7 28 (nI (o2.getD 0))) := (hF1.tr q2).s (by simp [mrP])
      have f24 : (sM τ2 7 28 (nI (o2.getD 0))).1 7 24 = nI (LKs n t (SK n t (WD n t a))).2.1 := (sM_o (by omega)).trans q1.2.2.2.1
      cases o2 with
      | none =>
        have hn : rfr n t (WD n t a) (sb t (WD n t a - a) a) = none := by unfold rfr rf2; rw [← ho, ← ho2]
        refine And.intro (fun _ => ?_) (fun g => absurd rfl g)
        exact no hI _ _ _ _ hn hT3 hF3
      | some g =>
        have h72 : (LKs n t (SK n t (WD n t a))).1 = 7 := by
          have := cnt_eq (n := n) (a := SK n t (WD n t a)) (most := 65535) (t := t) s1.2
          rw [← ho2] at this
          split at this
          · assumption
          · cases this
        rw [(LK7.1 h72).2.1] at f24
        refine And.intro (fun z => absurd z (show ¬ (1 : Int32) = 0 by decide)) (fun _ => ?_)
        refine ⟨Nat.le_refl _, ?_⟩
        show P_X8_look [.ref 7, .int ((sM τ2 7 28 (nI g)).1 7 24)] _ _ _
        rw [show (sM τ2 7 28 (nI g)).1 7 24 = _ from f24]
        refine sp_look hT3 w1.2 (fun τ4 r1 r2 => ?_)
        refine ⟨Nat.le_refl _, sp_isWord (j := 63) r1 s2.2 (by omega) (by omega) rfl (fun r hr => ?_)⟩
        subst hr
        by_cases hR : sb t (WD n t (SK n t (WD n t (SK n t (WD n t a)))) - SK n t (WD n t (SK n t (WD n t a)))) (SK n t (WD n t (SK n t (WD n t a)))) = [82]
        · rw [decide_eq_true hR]
          have hq : rfr n t (WD n t a) (sb t (WD n t a - a) a) = some (v, g, WD n t (SK n t (WD n t (SK n t (WD n t a))))) := by
            unfold rfr rf2
            rw [← ho, ← ho2]
            simp only
            rw [if_pos hR]
          have h73 : (LKs n t (SK n t (WD n t (SK n t (WD n t a))))).1 = 7 := by
            have := wd_eq (n := n) (a := SK n t (WD n t (SK n t (WD n t a)))) (t := t) (c := 82) (L := []) s2.2
            rw [decide_eq_true hR] at this
            exact (of_decide_eq_true this).1
          have g24 : τ4.1 7 24 = nI (WD n t (SK n t (WD n t (SK n t (WD n t a))))) := by rw [r1.2.2.2.1, (LK7.1 h73).2.1]
          have fin : I 0 73 [some (.ref 7), some (.int (nI a)), some (.int 1), some (.int (nI v)), some (.int (nI g)), some (.int (nI (WD n t (SK n t (WD n t (SK n t (WD n t a)))))))] [] τ4 := by
            refine run_in (stop := fun _ => false) hI 40 ?_
            refine ⟨Nat.le_refl _, sp_look r1.1 ha (fun υ u1 u2 => ?_)⟩
            rw [hsk] at u1
            refine And.intro (fun g => absurd g (by decide)) (fun _ => ⟨bo1, ?_⟩)
            refine h1 _ hq _ (((u1.1.m (by omega)).m (by omega)).m (by omega)) (((u1.2.2.2.2.2.m (by omega)).m (by omega)).m (by omega)) ?_ ?_ ?_ ?_ ?_
            · rw [sM_o (by omega), sM_o (by omega), sM_o (by omega)]
              exact u1.2.2.1
            · rw [sM_s]
            · rw [sM_o (by omega), sM_o (by omega), sM_s]
            · rw [sM_o (by omega), sM_s]
            · exact ((((hF3.tr r2).tr u2).s (by simp [mrP])).s (by simp [mrP])).s (by simp [mrP])
          rw [← g24] at fin
          exact fin
        · rw [decide_eq_false hR]
          have hn : rfr n t (WD n t a) (sb t (WD n t a - a) a) = none := by
            unfold rfr rf2
            rw [← ho, ← ho2]
            simp only
            rw [if_neg hR]
          exact no hI _ _ _ _ hn r1.1 (hF3.tr r2)
  rw [← hL.2.2.1] at main
  exact main
theorem sp_X8_hasRoom {s : Nat} (hM : MS σ S) (hS : SZ S) (hs : σ.1 7 22 = nI s) (hs9 : s < 9) (hx : TxM σ l) (h : ∀ r, r = bI (decide (S.1 < 4000 ∧ S.2.2.1 + (if s = 5 ∨ s = 6 then l.length else 0) ≤ 32768)) → Q (some (.int r)) σ) : P_X8_hasRoom [.ref 7] σ Q X := by
  obtain ⟨z1, z2⟩ := hS
  have hl := hx.2.1
  refine ⟨rfl, fun I hI => run_in (stop := fun _ => false) hI 40 ?_⟩
  refine pk_le 4000 S.1 (fun g => ⟨bo0, h _ (by rw [decide_eq_false (by omega)]; rfl)⟩) (fun g => ?_) rfl hM.1
  have big : s = 5 ∨ s = 6 → (32768 < σ.1 7 9 + σ.1 7 26 → bo (some (.int 0)) ∧ Q (some (.int 0)) σ) ∧ (¬ 32768 < σ.1 7 9 + σ.1 7 26 → bo (some (.int 1)) ∧ Q (some (.int 1)) σ) := by
    intro e
    rw [if_pos e] at h
    refine pk_lt 32768 (S.2.2.1 + l.length) (fun g2 => ⟨bo0, h _ ?_⟩) (fun g2 => ⟨bo1, h _ ?_⟩) rfl (by rw [hM.2.1, hx.1, nI_add])
    · rw [decide_eq_false (by omega)]; rfl
    · rw [decide_eq_true (by omega)]; rfl
  refine pk_eq s 5 (fun g5 => big (Or.inl g5)) (fun g5 => ?_) hs rfl
  refine kne s 6 (fun g6 => ?_) (fun g6 => big (Or.inr g6)) hs rfl
  rw [if_neg (by omega)] at h
  refine pk_lt 32768 S.2.2.1 (fun g2 => by omega) (fun g2 => ⟨bo1, h _ ?_⟩) rfl (by rw [hM.2.1]; exact Int32.add_zero _)
  rw [decide_eq_true (by omega)]; rfl
def maP (j k : Nat) : Prop := (j = 7 ∧ (k = 3 ∨ k = 9)) ∨ (21 ≤ j ∧ j ≤ 26)
theorem mc_b {i : Nat} (hi : i < 5) : 21 ≤ mc i ∧ mc i ≤ 25 := by
  unfold mc
  split <;> (try split) <;> (try split) <;> (try split) <;> omega
theorem sp_X8_add {what : Nat} {v x : Int32} (dp : Nat) (hM : MS σ S) (h1 : S.1 < 4000) (h : ∀ τ, MS τ (adS S what v x [] dp) → Fr maP σ τ → Q none τ) : P_X8_add [.ref 7, .int (nI what), .int v, .int x] σ Q X := by
  have hin : vp_in (σ.1 7 3) 4000 := pk_in S.1 4000 h1 hM.1
  have hcl : (σ.1 7 3).toNatClampNeg = S.1 := pk_cl S.1 hM.1
  refine ⟨rfl, fun I hI => run_in (stop := fun _ => false) hI 120 ?_⟩
  refine ⟨rfl, hin, rfl, hin, rfl, hin, rfl, hin, rfl, hin, ?_⟩
  have hq := h (sM (sM (sM (sM (sM (sM σ 21 S.1 (nI what)) 22 S.1 v) 23 S.1 x) 24 S.1 (nI S.2.2.1)) 25 S.1 (nI (S.1 + 1))) 7 3 (nI (S.1 + 1))) ⟨?_, ?_, fun i k hi hk => ?_, fun i hi => ?_⟩ ?_
  · rw [show nI (S.1 + 1) = σ.1 7 3 + 1 by rw [hM.1, nI_succ], ← hM.2.1] at hq
    rw [← hcl] at hq
    exact hq
  · exact sM_s
  · rw [sM_o (by omega), sM_o (by omega), sM_o (by omega), sM_o (by omega), sM_o (by omega), sM_o (by omega)]
    exact hM.2.1
  · show _ = if k = S.1 then _ else S.2.1 i k
    by_cases e : k = S.1
    · subst e
      rw [if_pos rfl]
      rcases i with _ | _ | _ | _ | _ | i
      · simp [sM, upd2, upd, mc]
      · simp [sM, upd2, upd, mc]
      · simp [sM, upd2, upd, mc]
      · simp [sM, upd2, upd, mc]
      · simp [sM, upd2, upd, mc]
      · omega
    · have hmc := mc_b hi
      rw [if_neg e, ← hM.2.2.1 i k hi (by have : k < S.1 + 1 := hk; omega)]
      rw [sM_o (by omega), sM_o (by omega), sM_o (by omega), sM_o (by omega), sM_o (by omega), sM_o (by omega)]
  · show _ = nI (if i < S.2.2.1 then S.2.2.2 i else _)
    have hi' : i < S.2.2.1 := hi
    rw [if_pos hi', sM_o (by omega), sM_o (by omega), sM_o (by omega), sM_o (by omega), sM_o (by omega), sM_o (by omega)]
    exact hM.2.2.2 i hi'
  · exact (((((Fr.rf.s (Or.inr (by omega))).s (Or.inr (by omega))).s (Or.inr (by omega))).s (Or.inr (by omega))).s (Or.inr (by omega))).s (Or.inl (by omega))
theorem gD_take {l : List Nat} {i j : Nat} (h : j < i) : gD (l.take i) j = gD l j := by
  unfold gD
  simp [List.getD_eq_getElem?_getD, List.getElem?_take, h]
theorem lp_addText {σ0 : Sg} {kk : Nat} (dp : Nat) (hu : S.2.2.1 + l.length ≤ 32768) (h : ∀ τ, MS τ (adS S kk (nI l.length) 0 l dp) → Fr maP σ0 τ → Q none τ) {I : Jt} (hI : Cl (FM (cutN 52 t_X8_addText) e_X8_addText xn0 0 sws0 false Q X) I) :
    ∀ m i (σ : Sg), i + m = l.length → MS σ (adS S kk (nI l.length) 0 (l.take i) dp) → TxM σ l → Fr maP σ0 σ → I 0 12 [some (.ref 7), some (.int (nI kk)), some (.int (nI i))] [] σ := by
  intro m
  induction m with
  | zero =>
    intro i σ hi hM hx hF
    have hl := hx.2.1
    refine run_in (stop := fun pc => Nat.beq pc 12) hI 40 ?_
    refine pk_le l.length i (fun g => ?_) (fun g => by omega) hx.1 rfl
    rw [List.take_of_length_le (by omega)] at hM
    exact h σ hM hF
  | succ m ih =>
    intro i σ hi hM hx hF
    have hl := hx.2.1
    obtain ⟨l1, l2⟩ := ldx (i := i) hx (by omega)
    have hu9 : σ.1 7 9 = nI (S.2.2.1 + i) := by
      rw [hM.2.1]
      show nI (S.2.2.1 + (l.take i).length) = _
      rw [List.length_take, Nat.min_eq_left (by omega)]
    have hcl : (σ.1 7 9).toNatClampNeg = S.2.2.1 + i := pk_cl _ hu9
    refine run_in (stop := fun pc => Nat.beq pc 12) hI 40 ?_
    refine pk_le l.length i (fun g => by omega) (fun g => ?_) hx.1 rfl
    refine ⟨rfl, l1, rfl, pk_in (S.2.2.1 + i) 32768 (by omega) hu9, ?_⟩
    rw [l2]
    have := ih (i + 1) (sM (sM σ 26 (S.2.2.1 + i) (nI (gD l i))) 7 9 (nI (S.2.2.1 + (i + 1)))) (by omega) ⟨?_, ?_, fun j k hj hk => ?_, fun j hj => ?_⟩ ?_ ?_
    · rw [show nI (S.2.2.1 + (i + 1)) = σ.1 7 9 + 1 by rw [hu9, ← Nat.add_assoc, nI_succ], ← hcl, nI_succ] at this
      exact this
    · rw [sM_o (by omega), sM_o (by omega)]
      exact hM.1
    · rw [sM_s]
      show _ = nI (S.2.2.1 + (l.take (i + 1)).length)
      rw [List.length_take, Nat.min_eq_left (by omega)]
    · have hmc := mc_b hj
      rw [sM_o (by omega), sM_o (by omega)]
      exact hM.2.2.1 j k hj hk
    · have hj' : j < S.2.2.1 + (l.take (i + 1)).length := hj
      rw [List.length_take, Nat.min_eq_left (by omega)] at hj'
      show _ = nI (if j < S.2.2.1 then S.2.2.2 j else gD (l.take (i + 1)) (j - S.2.2.1))
      rw [sM_o (by omega)]
      by_cases e : j = S.2.2.1 + i
      · subst e
        rw [sM_s, if_neg (by omega), gD_take (by omega)]
        congr 2
        omega
      · rw [sM_o (by omega), hM.2.2.2 j (by show j < S.2.2.1 + (l.take i).length; rw [List.length_take, Nat.min_eq_left (by omega)]; omega)]
        show nI (if j < S.2.2.1 then S.2.2.2 j else gD (l.take i) (j - S.2.2.1)) = _
        by_cases e2 : j < S.2.2.1
        · rw [if_pos e2, if_pos e2]
        · rw [if_neg e2, if_neg e2, gD_take (by omega), gD_take (by omega)]
    · exact ⟨(sM_o (by omega)).trans ((sM_o (by omega)).trans hx.1), hx.2.1, fun j hj => (sM_o (by omega)).trans ((sM_o (by omega)).trans (hx.2.2.1 j hj)), hx.2.2.2⟩
    · exact (hF.s (Or.inr (by omega))).s (Or.inl (by omega))
theorem sp_X8_addText {kk : Nat} (dp : Nat) (hM : MS σ S) (h1 : S.1 < 4000) (hu : S.2.2.1 + l.length ≤ 32768) (hx : TxM σ l) (h : ∀ τ, MS τ (adS S kk (nI l.length) 0 l dp) → Fr maP σ τ → Q none τ) : P_X8_addText [.ref 7, .int (nI kk)] σ Q X := by
  refine ⟨rfl, fun I hI => run_in (stop := fun pc => Nat.beq pc 12) hI 60 ?_⟩
  refine ⟨Nat.le_refl _, ?_⟩
  show P_X8_add [.ref 7, .int (nI kk), .int (σ.1 7 26), .int 0] _ _ _
  rw [hx.1]
  refine sp_X8_add dp hM h1 (fun τ hM2 hF2 => ?_)
  exact lp_addText dp hu h hI l.length 0 τ (by omega) (by rw [List.take_zero]; exact hM2) ⟨(hF2.2 7 26 (by simp [maP])).trans hx.1, hx.2.1, fun j hj => (hF2.2 31 j (by simp [maP])).trans (hx.2.2.1 j hj), hx.2.2.2⟩ hF2
end MRD
