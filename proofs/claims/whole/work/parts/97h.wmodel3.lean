/-! ===== PURE: the model writes a tree ===== -/
section WM3
variable {σ : Sg} {Q : Po} {X : Xo} {l : List Nat} {S : St}
theorem sp_X8_putNode {k : Nat} (hB : ∀ i, i < S.2.2.1 → bt1 S i < 256) (hM : MS σ S) (hS : SZ S) (hW : WF S) (hk : k < S.1) (h9 : ¬ KD S k 9) (hw : DW σ l) (hl : l.length < 1900000000) (h : ∀ τ, DW τ (l ++ pn S k) → Fr wmP σ τ → Q none τ) : P_X8_putNode [.ref 7, .int (nI k)] σ Q X := by
  obtain ⟨⟨j, hj, hkd⟩, v2, v3, v4⟩ := (hW k hk).1.2.2.2.1
  obtain ⟨a1, a2⟩ := ldm (i := 0) hM hS (by omega) hk
  have a2 : el σ 21 (nI k) = S.2.1 0 k := a2
  obtain ⟨b1, b2⟩ := ldm (i := 1) hM hS (by omega) hk
  have b2 : el σ 22 (nI k) = S.2.1 1 k := b2
  refine ⟨rfl, fun I hI => run_in (stop := fun pc => Nat.beq pc 20) hI 60 ?_⟩
  have m20 : ∀ far : Int64, far = (if S.2.1 1 k < 0 then - (S.2.1 1 k).toInt64 else (S.2.1 1 k).toInt64) → I 0 20 [some (.ref 7), some (.int (nI k)), some (.int (S.2.1 1 k)), some (.long far), none] [] σ := by
    intro far hfar
    unfold pn at h
    refine run_in (stop := fun pc => Nat.beq pc 100 || Nat.beq pc 136) hI 60 ?_
    refine ⟨rfl, a1, ?_⟩
    rw [a2]
    have num : (S.2.1 0 k = nI 2 ∨ S.2.1 0 k = nI 3) → (∀ τ, DW τ (l ++ (sgl (S.2.1 1 k) ++ (if S.2.1 0 k = nI 2 then dgl (mag (S.2.1 1 k)) 9 else (dgl (mag (S.2.1 1 k) / 65536) 9 ++ ([46] ++ frl (mag (S.2.1 1 k) % 65536)))))) → Fr wmP σ τ → Q none τ) → I 0 100 [some (.ref 7), some (.int (nI k)), some (.int (S.2.1 1 k)), some (.long far), none] [] σ := by
      intro hc h
      obtain ⟨n1, n2, n3⟩ := abs_n (v2 hc)
      rw [← hfar] at n3
      have m110 : ∀ τ, DW τ (l ++ sgl (S.2.1 1 k)) → Fr wmP σ τ → I 0 110 [some (.ref 7), some (.int (nI k)), some (.int (S.2.1 1 k)), some (.long far), none] [] τ := by
        intro τ q1 q2
        have hll : (l ++ sgl (S.2.1 1 k)).length < 1900000002 := by
          rw [List.length_append]
          unfold sgl
          split <;> simp <;> omega
        obtain ⟨c1, c2⟩ := ldm (i := 0) (hM.wm q2) hS (by omega) hk
        have c2 : el τ 21 (nI k) = S.2.1 0 k := c2
        refine run_in (stop := fun _ => false) hI 40 ?_
        refine ⟨rfl, c1, ?_⟩
        rw [c2]
        refine And.intro (fun g => ?_) (fun g => ?_)
        · have g : ¬ S.2.1 0 k = nI 2 := g
          rw [if_neg g] at h
          refine ⟨Nat.le_refl _, ?_⟩
          rw [n3]
          refine sp_X8_putReal n2 q1 (by omega) (fun υ r1 r2 => h υ ?_ (q2.tr r2))
          rw [List.append_assoc] at r1
          exact r1
        · have g : S.2.1 0 k = nI 2 := g
          rw [if_pos g] at h
          refine ⟨Nat.le_refl _, ?_⟩
          rw [n3]
          refine sp_X8_putNumber n2 q1 (by omega) (fun υ r1 r2 => h υ ?_ (q2.tr r2))
          rw [List.append_assoc] at r1
          exact r1
      refine run_in (stop := fun pc => Nat.beq pc 110) hI 40 ?_
      refine And.intro (fun g => ?_) (fun g => ?_)
      · refine m110 σ ?_ Fr.rf
        rw [show sgl (S.2.1 1 k) = [] from if_neg (Int32.not_lt.mpr g), List.append_nil]
        exact hw
      · refine ⟨Nat.le_refl _, sp_X8_put1 (b := 45) hw (by omega) (fun τ q1 q2 => m110 τ ?_ q2)⟩
        rw [show sgl (S.2.1 1 k) = [45] from if_pos (Int32.not_le.mp g)]
        exact q1
    have tex : tx S k → (∀ (nm : Bool) n0, nm = decide (S.2.1 0 k = nI 5) → S.2.1 1 k = nI n0 → (S.2.1 1 k).toNatClampNeg = n0 → ∀ τ, DW τ (l ++ ([if nm = true then 47 else 60] ++ (txl nm S n0 (sr S k) ++ (if nm = true then [] else [62])))) → Fr wmP σ τ → Q none τ) → I 0 136 [some (.ref 7), some (.int (nI k)), some (.int (S.2.1 1 k)), some (.long far), none] [] σ := by
      intro hc h
      obtain ⟨n0, l1, l2, l3, l4⟩ := tx_ok hW hS hk hc
      refine run_in (stop := fun _ => false) hI 40 ?_
      exact ⟨Nat.le_refl _, sp_X8_putText hB hM hS hk l2 l1 l3 hw (by omega) _ rfl (fun τ q1 q2 => h _ n0 rfl l1 l4 τ q1 q2)⟩
    refine And.intro (fun g => ?_) (fun g0 => ?_)
    · rw [if_pos (show S.2.1 0 k = nI 0 from g)] at h
      exact ⟨Nat.le_refl _, sp_X8_putWord (j := 60) (by omega) (by omega) hw (by omega) h⟩
    have g0 : ¬ S.2.1 0 k = nI 0 := g0
    rw [if_neg g0] at h
    refine And.intro (fun g => ?_) (fun g1 => ?_)
    · rw [if_pos (show S.2.1 0 k = nI 1 from g)] at h
      refine And.intro (fun q => ?_) (fun q => ?_)
      · rw [if_neg q] at h
        exact ⟨Nat.le_refl _, sp_X8_putWord (j := 62) (by omega) (by omega) hw (by omega) h⟩
      · rw [if_pos q] at h
        exact ⟨Nat.le_refl _, sp_X8_putWord (j := 61) (by omega) (by omega) hw (by omega) h⟩
    have g1 : ¬ S.2.1 0 k = nI 1 := g1
    rw [if_neg g1] at h
    refine And.intro (fun g => ?_) (fun g2 => ?_)
    · have g : S.2.1 0 k = nI 2 := g
      rw [if_pos g] at h
      exact num (Or.inl g) (by rw [if_pos g]; exact h)
    have g2 : ¬ S.2.1 0 k = nI 2 := g2
    rw [if_neg g2] at h
    refine And.intro (fun g => ?_) (fun g3 => ?_)
    · have g : S.2.1 0 k = nI 3 := g
      rw [if_pos g] at h
      exact num (Or.inr g) (by rw [if_neg g2]; exact h)
    have g3 : ¬ S.2.1 0 k = nI 3 := g3
    rw [if_neg g3] at h
    refine And.intro (fun g => ?_) (fun g4 => ?_)
    · have g : S.2.1 0 k = nI 4 := g
      rw [if_pos g] at h
      refine tex (Or.inl g) (fun nm n0 hnm e1 e2 τ q1 q2 => h τ ?_ q2)
      have h5 : ¬ S.2.1 0 k = nI 5 := fun z => by have := KD_u (S := S) (k := k) g z (by omega) (by omega); omega
      rw [decide_eq_false h5] at hnm
      subst hnm
      rw [e2, ← txl_f]
      exact q1
    have g4 : ¬ S.2.1 0 k = nI 4 := g4
    rw [if_neg g4] at h
    refine And.intro (fun g => ?_) (fun g5 => ?_)
    · have g : S.2.1 0 k = nI 5 := g
      rw [if_pos g] at h
      refine tex (Or.inr g) (fun nm n0 hnm e1 e2 τ q1 q2 => h τ ?_ q2)
      rw [decide_eq_true g] at hnm
      subst hnm
      rw [e2, ← txl_t]
      simp only [if_true, List.append_nil] at q1
      exact q1
    have g5 : ¬ S.2.1 0 k = nI 5 := g5
    rw [if_neg g5] at h
    refine And.intro (fun g => ?_) (fun g6 => ?_)
    · rw [if_pos (show S.2.1 0 k = nI 6 from g)] at h
      exact ⟨Nat.le_refl _, sp_X8_putWord (j := 67) (by omega) (by omega) hw (by omega) h⟩
    have g6 : ¬ S.2.1 0 k = nI 6 := g6
    rw [if_neg g6] at h
    refine And.intro (fun g => ?_) (fun g7 => ?_)
    · rw [if_pos (show S.2.1 0 k = nI 7 from g)] at h
      exact ⟨Nat.le_refl _, sp_X8_putWord (j := 68) (by omega) (by omega) hw (by omega) h⟩
    have g7 : ¬ S.2.1 0 k = nI 7 := g7
    rw [if_neg g7] at h
    have g8 : S.2.1 0 k = nI 8 := by
      have hkd' : S.2.1 0 k = nI j := hkd
      rcases j with _ | _ | _ | _ | _ | _ | _ | _ | _ | _ | j
      · exact absurd hkd' g0
      · exact absurd hkd' g1
      · exact absurd hkd' g2
      · exact absurd hkd' g3
      · exact absurd hkd' g4
      · exact absurd hkd' g5
      · exact absurd hkd' g6
      · exact absurd hkd' g7
      · exact hkd'
      · exact absurd hkd h9
      · omega
    obtain ⟨p, q, hp, hq, e1, e2⟩ := v3 g8
    rw [e1, e2, nI_clamp (by omega), nI_clamp (by omega)] at h
    have d1 := dgl_len p 9
    have d2 := dgl_len q 9
    refine ⟨Nat.le_refl _, ?_⟩
    show P_X8_putNumber [.ref 7, .long (S.2.1 1 k).toInt64] σ _ _
    rw [e1, nI_l (by omega)]
    refine sp_X8_putNumber (by omega) hw (by omega) (fun τ1 q1 q2 => ?_)
    refine ⟨Nat.le_refl _, sp_X8_put1 (b := 32) q1 (by simp only [List.length_append]; omega) (fun τ2 r1 r2 => ?_)⟩
    have hM2 := (hM.wm q2).wm r2
    obtain ⟨c1, c2⟩ := ldm (i := 2) hM2 hS (by omega) hk
    have c2 : el τ2 23 (nI k) = nI q := by rw [show el τ2 23 (nI k) = S.2.1 2 k from c2, e2]
    refine ⟨rfl, c1, ?_⟩
    rw [c2]
    refine ⟨Nat.le_refl _, ?_⟩
    show P_X8_putNumber [.ref 7, .long (nI q).toInt64] τ2 _ _
    rw [nI_l (by omega)]
    refine sp_X8_putNumber (by omega) r1 (by simp only [List.length_append, List.length_singleton]; omega) (fun τ3 s1 s2 => ?_)
    refine ⟨Nat.le_refl _, sp_X8_putWord (j := 69) (by omega) (by omega) s1 (by simp only [List.length_append, List.length_singleton]; omega) (fun τ4 t1 t2 => h τ4 ?_ (((q2.tr r2).tr s2).tr t2))⟩
    simp only [List.append_assoc] at t1 ⊢
    exact t1
  refine ⟨rfl, b1, ?_⟩
  rw [b2]
  refine And.intro (fun g => ?_) (fun g => ?_)
  · exact m20 _ (by rw [if_neg (Int32.not_lt.mpr g)])
  · exact m20 _ (by rw [if_pos (Int32.not_le.mp g)])
theorem lt_pred {n : Nat} (h : n < 2 ^ 31) : nI n - 1 < nI n := by
  cases n with
  | zero => decide
  | succ n => rw [nI_pred]; exact nI_lt (by omega) h
theorem lp_putEnds {σ0 : Sg} {b root : Nat} {L : List Nat} (hS : SZ S) (hW : WF S) (hb : b ≤ S.1) (hLl : L.length < 1999000000) (h : ∀ τ, DW τ L → Fr wmP σ0 τ → Q none τ) {I : Jt} (hI : Cl (FM (cutN 78 t_X8_putEnds) e_X8_putEnds xn0 0 sws0 false Q X) I) :
    ∀ m l (σ : Sg), root + m ≤ b → pel S b root m l = L → MS σ S → DW σ l → Fr wmP σ0 σ → I 0 4 [some (.ref 7), some (.int (nI root)), some (.int (nI b)), some (.int (nI (root + m) - 1))] [] σ := by
  have hz := hS.1
  intro m
  induction m with
  | zero =>
    intro l σ hm hL hM hw hF
    refine run_in (stop := fun pc => Nat.beq pc 4) hI 40 ?_
    refine And.intro (fun _ => h σ (by rw [← hL]; exact hw) hF) (fun z => absurd (lt_pred (by omega)) z)
  | succ m ih =>
    intro l σ hm hL hM hw hF
    have e1 : nI (root + (m + 1)) - 1 = nI (root + m) := by rw [← Nat.add_assoc]; exact nI_pred _
    rw [e1]
    have hk : root + m < S.1 := by omega
    have hek := (hW (root + m) hk).1.1
    obtain ⟨a1, a2⟩ := ldm (i := 0) hM hS (by omega) hk
    have a2 : el σ 21 (nI (root + m)) = S.2.1 0 (root + m) := a2
    obtain ⟨b1, b2⟩ := ldm (i := 3) hM hS (by omega) hk
    have b2 : el σ 25 (nI (root + m)) = nI (en S (root + m)) := by rw [show el σ 25 (nI (root + m)) = S.2.1 3 (root + m) from b2, hek.1]
    simp only [pel] at hL
    have hll : l.length < 1999000000 := by
      have h1 := pel_len (S := S) (b := b) (root := root) m (if (S.2.1 0 (root + m) = nI 6 ∨ S.2.1 0 (root + m) = nI 7) ∧ en S (root + m) = b then l ++ clg S (root + m) else l)
      rw [hL] at h1
      split at h1
      · rw [List.length_append] at h1; omega
      · omega
    have nxt : ∀ l' τ, pel S b root m l' = L → DW τ l' → Fr wmP σ τ → I 0 71 [some (.ref 7), some (.int (nI root)), some (.int (nI b)), some (.int (nI (root + m)))] [] τ := by
      intro l' τ q0 q1 q2
      refine run_in (stop := fun pc => Nat.beq pc 4) hI 20 ?_
      have := ih l' τ (by omega) q0 (hM.wm q2) q1 (hF.tr q2)
      rw [← m1_sub] at this
      exact this
    have cont : (S.2.1 0 (root + m) = nI 6 ∨ S.2.1 0 (root + m) = nI 7) → I 0 31 [some (.ref 7), some (.int (nI root)), some (.int (nI b)), some (.int (nI (root + m)))] [] σ := by
      intro hc
      refine run_in (stop := fun pc => Nat.beq pc 71) hI 60 ?_
      refine ⟨rfl, b1, ?_⟩
      rw [b2]
      refine kne (en S (root + m)) b (fun q => ?_) (fun q => ?_) rfl rfl
      · rw [if_neg (fun z => q z.2)] at hL
        exact nxt l σ hL hw Fr.rf
      · rw [if_pos ⟨hc, q⟩] at hL
        refine ⟨Nat.le_refl _, sp_X8_put1 (b := 32) hw (by omega) (fun τ q1 q2 => ?_)⟩
        obtain ⟨c1, c2⟩ := ldm (i := 0) (hM.wm q2) hS (by omega) hk
        have c2 : el τ 21 (nI (root + m)) = S.2.1 0 (root + m) := c2
        refine ⟨rfl, c1, ?_⟩
        rw [c2]
        refine And.intro (fun g => ?_) (fun g => ?_)
        · refine ⟨Nat.le_refl _, sp_X8_putWord (j := 71) (by omega) (by omega) q1 (by simp only [List.length_append, List.length_singleton]; omega) (fun υ r1 r2 => nxt (l ++ clg S (root + m)) υ hL ?_ (q2.tr r2))⟩
          rw [show clg S (root + m) = [32, 62, 62] from if_neg g]
          rw [List.append_assoc] at r1
          exact r1
        · refine ⟨Nat.le_refl _, sp_X8_putWord (j := 70) (by omega) (by omega) q1 (by simp only [List.length_append, List.length_singleton]; omega) (fun υ r1 r2 => nxt (l ++ clg S (root + m)) υ hL ?_ (q2.tr r2))⟩
          rw [show clg S (root + m) = [32, 93] from if_pos g]
          rw [List.append_assoc] at r1
          exact r1
    refine run_in (stop := fun pc => Nat.beq pc 31 || Nat.beq pc 71) hI 60 ?_
    refine pk_lt (root + m) root (fun g => by omega) (fun g => ?_) rfl rfl
    refine ⟨rfl, a1, ?_⟩
    rw [a2]
    refine And.intro (fun g => cont (Or.inl g)) (fun g6 => ?_)
    refine ⟨rfl, a1, ?_⟩
    rw [a2]
    refine And.intro (fun g => ?_) (fun g => cont (Or.inr g))
    rw [if_neg (fun z => z.1.elim g6 g)] at hL
    exact nxt l σ hL hw Fr.rf
theorem sp_X8_putEnds {b root m : Nat} (hS : SZ S) (hW : WF S) (hb : b ≤ S.1) (hm : b = root + m) (hM : MS σ S) (hw : DW σ l) (hLl : (pel S b root m l).length < 1999000000) (h : ∀ τ, DW τ (pel S b root m l) → Fr wmP σ τ → Q none τ) : P_X8_putEnds [.ref 7, .int (nI root), .int (nI b)] σ Q X := by
  refine ⟨rfl, fun I hI => run_in (stop := fun pc => Nat.beq pc 4) hI 20 ?_⟩
  have := lp_putEnds hS hW hb hLl h hI m l σ (by omega) rfl hM hw Fr.rf
  rw [← hm] at this
  exact this
end WM3
