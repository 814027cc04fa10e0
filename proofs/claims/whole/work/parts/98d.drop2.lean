/-! ===== PURE: drop in the model; rewind ===== -/
def dr (fi : Nat → Nat) (x : Int32) : Nat → Bool → Nat → Bool × Nat
  | 0, a, l => (a, l)
  | m + 1, a, l => dr fi x m (a || decide (nI (fi m) = x)) (if x ≤ nI (fi m) then m else l)
theorem dr_a (fi : Nat → Nat) (x : Int32) : ∀ m a l, (dr fi x m a l).1 = true ↔ (a = true ∨ ∃ i, i < m ∧ nI (fi i) = x) := by
  intro m
  induction m with
  | zero => intro a l; exact ⟨fun h => Or.inl h, fun h => h.elim id (fun ⟨i, hi, _⟩ => absurd hi (Nat.not_lt_zero i))⟩
  | succ m ih =>
    intro a l
    simp only [dr]
    rw [ih]
    simp only [Bool.or_eq_true, decide_eq_true_eq]
    constructor
    · rintro ((h | h) | ⟨i, hi, h⟩)
      · exact Or.inl h
      · exact Or.inr ⟨m, by omega, h⟩
      · exact Or.inr ⟨i, by omega, h⟩
    · rintro (h | ⟨i, hi, h⟩)
      · exact Or.inl (Or.inl h)
      · by_cases e : i = m
        · rw [e] at h; exact Or.inl (Or.inr h)
        · exact Or.inr ⟨i, by omega, h⟩
theorem dr_k (fi : Nat → Nat) (x : Int32) : ∀ m a l, (∀ i, i < m → ¬ x ≤ nI (fi i)) → (dr fi x m a l).2 = l := by
  intro m
  induction m with
  | zero => intro a l _; rfl
  | succ m ih =>
    intro a l h
    simp only [dr]
    rw [if_neg (h m (by omega))]
    exact ih _ _ (fun i hi => h i (by omega))
theorem dr_l (fi : Nat → Nat) {i : Nat} (hb : ∀ j, fi j < 2 ^ 31) : ∀ m a l, i < m → (∀ j, j < m → ∀ k, k < j → fi k < fi j) → (dr fi (nI (fi i)) m a l).2 = i := by
  intro m
  induction m with
  | zero => intro a l h; omega
  | succ m ih =>
    intro a l h hs
    simp only [dr]
    by_cases e : i = m
    · subst e
      rw [if_pos (Int32.le_refl _)]
      exact dr_k fi _ i _ _ (fun j hj => nI_ge (hs i (by omega) j hj) (hb i))
    · exact ih _ _ (by omega) (fun j hj => hs j (by omega))
def f0P (j k : Nat) : Prop := j = 7 ∧ k = 0
def dpM (j k : Nat) : Prop := j = 7 ∧ (k = 0 ∨ k = 3 ∨ k = 9 ∨ k = 11)
def OBM (σ : Sg) (S : St) (ob : Nat) (fi : Nat → Nat) : Prop := σ.1 7 11 = nI ob ∧ ob ≤ S.1 ∧ ∀ i, i < ob → (σ.1 27 i = nI (fi i) ∧ σ.1 28 i = nI (sr S (fi i))) ∧ fi i < S.1 ∧ (∀ j, j < i → fi j < fi i) ∧ ∀ k, k < fi i → en S k ≤ fi i
section DM
variable {σ : Sg} {Q : Po} {X : Xo} {n : Nat} {t : Nat → Nat} {wt : List Nat} {S : St} {ob : Nat} {fi : Nat → Nat}
theorem lp_drop {x : Int32} (h27 : ∀ i, i < ob → σ.1 27 i = nI (fi i)) (hob : ob ≤ 4000) {o : Bool × Nat} {I : Jt} (h : ∀ z, I 0 82 [some (.ref 7), some (.int x), some (.int (nI o.2)), some (.int (bI o.1)), some (.int z)] [] σ) (hI : Cl (FM (cutN 145 t_X8_drop) e_X8_drop xn0 0 sws0 false Q X) I) :
    ∀ m a l, m ≤ ob → dr fi x m a l = o → I 0 32 [some (.ref 7), some (.int x), some (.int (nI l)), some (.int (bI a)), some (.int (nI m - 1))] [] σ := by
  intro m
  induction m with
  | zero =>
    intro a l hm ho
    refine run_in (stop := fun pc => Nat.beq pc 32 || Nat.beq pc 82) hI 40 ?_
    have ho : o = (a, l) := ho.symm
    rw [ho] at h
    exact And.intro (fun _ => h _) (fun z => absurd (by decide) z)
  | succ m ih =>
    intro a l hm ho
    rw [nI_pred]
    have e27 : el σ 27 (nI m) = nI (fi m) := by rw [el_nI (by decide) (by omega)]; exact h27 m (by omega)
    have hin : vp_in (nI m) 4000 := nI_in (show m < 4000 by omega) (by decide)
    simp only [dr] at ho
    have m58 : ∀ a', a' = (a || decide (nI (fi m) = x)) → I 0 58 [some (.ref 7), some (.int x), some (.int (nI l)), some (.int (bI a')), some (.int (nI m))] [] σ := by
      intro a' ha
      rw [← ha] at ho
      refine run_in (stop := fun pc => Nat.beq pc 32) hI 40 ?_
      refine ⟨rfl, hin, ?_⟩
      rw [e27]
      refine And.intro (fun q => ?_) (fun q => ?_)
      · rw [if_neg (Int32.not_le.mpr q)] at ho
        have := ih a' l (by omega) ho
        rw [← m1_sub] at this
        exact this
      · rw [if_pos (Int32.not_lt.mp q)] at ho
        have := ih a' m (by omega) ho
        rw [← m1_sub] at this
        exact this
    refine run_in (stop := fun pc => Nat.beq pc 58) hI 40 ?_
    refine And.intro (fun z => absurd z (nI_pos (by omega))) (fun _ => ?_)
    refine And.intro (fun q => ?_) (fun q => ?_)
    · exact m58 true (by rw [bIt q]; rfl)
    · rw [bIf q] at m58
      refine ⟨rfl, hin, ?_⟩
      rw [e27]
      refine And.intro (fun q2 => ?_) (fun q2 => ?_)
      · exact m58 false (by rw [decide_eq_false q2]; rfl)
      · exact m58 true (by rw [decide_eq_true q2]; rfl)
theorem sp_X8_drop {x : Int32} (hO : OBM σ S ob fi) (hM : MS σ S) (hS : SZ S) (hW : WF S) (hA : (x < 0 ∨ ∃ p, p < S.1 ∧ x = nI p ∧ ∀ i, i < ob → fi i ≠ p) → ∀ τ, Fr f0P σ τ → τ.1 7 0 = 1 → Q (some (.int 0)) τ) (h0 : ¬ x < 0 → nI S.1 ≤ x → ∀ τ, Fr f0P σ τ → τ.1 7 0 = 0 → Q (some (.int 0)) τ) (h1 : ∀ i, i < ob → x = nI (fi i) → ∀ τ, MS τ (cutS S (fi i)) → Fr dpM σ τ → τ.1 7 0 = 0 → τ.1 7 11 = nI i → Q (some (.int (nI (S.1 - fi i)))) τ) : P_X8_drop [.ref 7, .int x] σ Q X := by
  have hz := hS.1
  obtain ⟨o2, o3, o4⟩ := hO
  have h27 : ∀ i, i < ob → (sM σ 7 0 0).1 27 i = nI (fi i) := fun i hi => (sM_o (by omega)).trans (o4 i hi).1.1
  have e11 : (sM σ 7 0 0).1 7 11 = nI ob := (sM_o (by omega)).trans o2
  have hM0 : MS (sM σ 7 0 0) S := hM.f0
  have hfb : ∀ i, i < ob → fi i < 2 ^ 31 := fun i hi => by have := (o4 i hi).2.1; omega
  refine ⟨rfl, fun I hI => run_in (stop := fun pc => Nat.beq pc 32) hI 40 ?_⟩
  -- behind the walk
  have m82 : ∀ (o : Bool × Nat), o = dr fi x ob (decide (nI S.1 ≤ x)) ob → ∀ z, I 0 82 [some (.ref 7), some (.int x), some (.int (nI o.2)), some (.int (bI o.1)), some (.int z)] [] (sM σ 7 0 0) := by
    intro o ho z
    have hoa := dr_a fi x ob (decide (nI S.1 ≤ x)) ob
    rw [← ho] at hoa
    have bad : (x < 0 ∨ ∃ p, p < S.1 ∧ x = nI p ∧ ∀ i, i < ob → fi i ≠ p) → I 0 96 [some (.ref 7), some (.int x), some (.int (nI o.2)), some (.int (bI o.1)), some (.int z)] [.int 1, .ref 7] (sM σ 7 0 0) := by
      intro g
      refine run_in (stop := fun _ => false) hI 40 ?_
      refine ⟨Nat.le_refl _, sp_X8_refused (b := true) (by decide) ?_⟩
      exact And.intro (fun g => absurd g (by decide)) (fun _ => hA g _ ((Fr.rf.s ⟨rfl, rfl⟩).s ⟨rfl, rfl⟩) sM_s)
    have good : ¬ x < 0 → o.1 = true → I 0 96 [some (.ref 7), some (.int x), some (.int (nI o.2)), some (.int (bI o.1)), some (.int z)] [.int 0, .ref 7] (sM σ 7 0 0) := by
      intro gn ga
      have hM1 : MS (sM (sM σ 7 0 0) 7 0 0) S := hM0.f0
      refine run_in (stop := fun _ => false) hI 60 ?_
      refine ⟨Nat.le_refl _, sp_X8_refused (b := false) (by decide) ?_⟩
      refine And.intro (fun _ => ?_) (fun g => absurd rfl g)
      obtain ⟨p, hp, rfl⟩ := nI_of gn
      refine pk_lt p S.1 (fun g => ?_) (fun g => ?_) rfl hM1.1
      · obtain ⟨i, hi, hfi⟩ : ∃ i, i < ob ∧ nI (fi i) = nI p := by
          rcases hoa.mp ga with q | q
          · have := of_decide_eq_true q
            exact absurd ((nI_leI (by omega) hp).mp this) (by omega)
          · exact q
        have hpf : fi i = p := (nI_eq (hfb i hi) hp).mp hfi
        subst hpf
        have hol : o.2 = i := by
          rw [ho]
          have key : ∀ m a l, m ≤ ob → i < m → (dr fi (nI (fi i)) m a l).2 = i := by
            intro m
            induction m with
            | zero => intro a l _ h; omega
            | succ m ih =>
              intro a l hm h
              simp only [dr]
              by_cases e : i = m
              · subst e
                rw [if_pos (Int32.le_refl _)]
                exact dr_k fi _ i _ _ (fun j hj => nI_ge ((o4 i hi).2.2.1 j hj) (hfb i hi))
              · exact ih _ _ (by omega) (by omega)
          exact key ob _ _ (Nat.le_refl _) hi
        rw [hol]
        obtain ⟨⟨f2, f3⟩, f4, f5, f6⟩ := o4 i hi
        have hsub : (sM (sM σ 7 0 0) 7 0 0).1 7 3 - nI (fi i) = nI (S.1 - fi i) := by rw [hM1.1]; exact nI_sub (by omega)
        have e28 : el (sM (sM (sM σ 7 0 0) 7 0 0) 7 3 (nI (fi i))) 28 (nI i) = nI (sr S (fi i)) := by
          rw [el_nI (by decide) (by omega), sM_o (by omega), sM_o (by omega), sM_o (by omega)]
          exact f3
        refine ⟨rfl, nI_in (show i < 4000 by omega) (by decide), ?_⟩
        rw [e28]
        have hq := h1 i hi rfl (sM (sM (sM (sM (sM σ 7 0 0) 7 0 0) 7 3 (nI (fi i))) 7 9 (nI (sr S (fi i)))) 7 11 (nI i)) (hM1.cut (cut_ex hW g) _ ?_ ?_ (fun j k h1 h2 => ?_)) (((((Fr.rf.s (by simp [dpM])).s (by simp [dpM])).s (by simp [dpM])).s (by simp [dpM])).s (by simp [dpM])) ?_ sM_s
        · rw [← hsub] at hq
          exact hq
        · rw [sM_o (by omega), sM_o (by omega), sM_s]; rfl
        · rw [sM_o (by omega), sM_s]; rfl
        · rw [sM_o (by omega), sM_o (by omega), sM_o (by omega)]
        · rw [sM_o (by omega), sM_o (by omega), sM_o (by omega), sM_s]
      · exact h0 gn (nI_le g hp) _ ((Fr.rf.s ⟨rfl, rfl⟩).s ⟨rfl, rfl⟩) sM_s
    refine run_in (stop := fun pc => Nat.beq pc 96) hI 40 ?_
    refine And.intro (fun g => bad (Or.inl g)) (fun g => ?_)
    refine And.intro (fun q => good g (bIt q)) (fun q => bad ?_)
    have q := bIf q
    obtain ⟨p, hp, rfl⟩ := nI_of g
    have hno : ¬ (decide (nI S.1 ≤ nI p) = true ∨ ∃ i, i < ob ∧ nI (fi i) = nI p) := fun y => by rw [hoa.mpr y] at q; cases q
    refine Or.inr ⟨p, ?_, rfl, fun i hi e => hno (Or.inr ⟨i, hi, by rw [e]⟩)⟩
    by_cases y : p < S.1
    · exact y
    · exact absurd (Or.inl (decide_eq_true (nI_le (by omega) hp))) hno
  have go : ∀ a : Bool, a = decide (nI S.1 ≤ x) → I 0 32 [some (.ref 7), some (.int x), some (.int (nI ob)), some (.int (bI a)), some (.int (nI ob - 1))] [] (sM σ 7 0 0) := by
    intro a ha
    exact lp_drop h27 (by omega) (m82 _ rfl) hI ob a ob (Nat.le_refl _) (by rw [ha])
  have g1 := go true
  have g2 := go false
  rw [← e11] at g1 g2
  show (x < (sM σ 7 0 0).1 7 3 → _) ∧ (¬ x < (sM σ 7 0 0).1 7 3 → _)
  rw [hM0.1]
  refine And.intro (fun q => g2 ?_) (fun q => g1 ?_)
  · exact (decide_eq_false (Int32.not_le.mpr q)).symm
  · exact (decide_eq_true (Int32.not_lt.mp q)).symm
theorem sp_X7_rewind (hw : WRC σ wt) (h : ∀ τ, TapeC τ wt.length (gD wt) → Fr tpC σ τ → Q (some (.int (nI wt.length))) τ) : P_X7_rewind [.ref 0] σ Q X := by
  obtain ⟨w1, w2, w3, w4⟩ := hw
  refine ⟨rfl, fun I hI => run_in (stop := fun _ => false) hI 30 ?_⟩
  refine ⟨Nat.le_refl _, ?_⟩
  show P_X5_become [.ref 1, .ref (σ.2.1 6 3), .int (σ.1 6 4)] σ _ _
  rw [w2]
  have key : ∀ pb, σ.2.1 6 3 = pb → (pb = 18 ∨ pb = 19) → ∀ Q' : Po, (∀ τ, TapeC τ wt.length (gD wt) → Fr tpC σ τ → Q' none τ) → ∀ X', P_X5_become [.ref 1, .ref pb, .int (nI wt.length)] σ Q' X' := by
    intro pb hpb hp Q' hq X'
    have ha : ak pb = (2, 65536) := by rcases hp with rfl | rfl <;> rfl
    have h50 : Nat.beq pb 50 = false := by rcases hp with rfl | rfl <;> rfl
    rw [hpb] at w4
    have hok : okv 4 4 3 [.ref 1, .ref pb, .int (nI wt.length)] = true := rfl
    refine ⟨hok, fun I hI => run_in (stop := fun pc => Nat.beq pc 15) hI 40 ?_⟩
    have m15 : ∀ v : Int32, v = nI wt.length → I 0 15 [some (.ref 1), some (.ref pb), some (.int (nI wt.length)), some (.int v)] [] σ := by
      intro v hv
      subst hv
      refine run_in (stop := fun _ => false) hI 40 ?_
      have hcl : (nI wt.length).toNatClampNeg = wt.length := nI_clamp (by omega)
      refine ⟨Nat.le_refl _, by rw [ha], rfl, by decide, by decide, nI_pos (by omega), ?_, ?_, fun i hi => ?_, ?_⟩
      · rw [ha, hcl]; show 0 + wt.length ≤ 65536; omega
      · rw [hcl]; show 0 + wt.length ≤ 65536; omega
      · rw [hcl] at hi
        show fits .byte (.int (σ.1 pb (0 + i))) = true
        rw [Nat.zero_add, (w4 i hi).1]
        exact pk_fb _
      · rw [hcl]
        refine hq _ ⟨sM_s, w3, fun k hk => ?_, fun k hk => (w4 k hk).2⟩ ?_
        · rw [sM_o (by omega)]
          show (if (8 : Nat) = 8 then va_cpy (σ.1 pb) (σ.1 8) 0 0 wt.length else σ.1 8) k &&& 255 = _
          rw [if_pos rfl, pk_cpy_in (Nat.zero_le _) (by omega), Nat.zero_add, Nat.sub_zero, (w4 k hk).1]
          exact byte_255 _ (w4 k hk).2
        · refine Fr.s ?_ (by simp [tpC])
          refine ⟨rfl, fun j k hj => ?_⟩
          show (if j = 8 then _ else σ.1 j) k = σ.1 j k
          rw [if_neg (fun e => hj (Or.inr e))]
    show (bif Nat.beq pb 50 then _ else _)
    rw [h50]
    refine ⟨by rw [ha]; exact (by decide : ¬ (2 : Nat) = 0), by decide, Nat.le_refl _, Nat.le_refl _, ?_⟩
    have hmin : (if (if (65536 : Int32) < Int32.ofNat (ak pb).2 then (65536 : Int32) else Int32.ofNat (ak pb).2) < nI wt.length then (if (65536 : Int32) < Int32.ofNat (ak pb).2 then (65536 : Int32) else Int32.ofNat (ak pb).2) else nI wt.length) = nI wt.length := by
      rw [ha]
      have e1 : (if (65536 : Int32) < Int32.ofNat (2, 65536).2 then (65536 : Int32) else Int32.ofNat (2, 65536).2) = nI 65536 := by decide
      rw [e1, if_neg (nI_nlt w3 (by omega))]
    exact m15 _ hmin
  refine key _ rfl ?_ _ (fun τ q1 q2 => ?_) _
  · rcases w1 with ⟨z, -⟩ | ⟨z, -⟩ <;> omega
  · have := h τ q1 q2
    rw [← q1.1] at this
    exact this
theorem lp_rewind {σ0 : Sg} (hl : wt.length ≤ 65536) (hb : ∀ i, i < wt.length → gD wt i < 256) (h : ∀ τ, TapeM τ wt.length (gD wt) → Fr tpM σ0 τ → τ.1 7 0 = 0 → Q (some (.int (nI wt.length))) τ) {I : Jt} (hI : Cl (FM (cutN 46 t_X8_rewind) e_X8_rewind xn0 0 sws0 false Q X) I) :
    ∀ m i (σ : Sg), i + m = wt.length → WRM σ wt → σ.1 7 1 = nI wt.length → (∀ j, j < i → σ.1 20 j = nI (gD wt j)) → Fr tpM σ0 σ → σ.1 7 0 = 0 → I 0 15 [some (.ref 7), some (.int (nI i))] [] σ := by
  intro m
  induction m with
  | zero =>
    intro i σ hi hw e1 h20 hF e0
    refine run_in (stop := fun pc => Nat.beq pc 15) hI 40 ?_
    refine pk_le wt.length i (fun g => ?_) (fun g => by omega) e1 rfl
    have := h σ ⟨e1, hl, fun k hk => h20 k (by omega), hb⟩ hF e0
    rw [← e1] at this
    exact this
  | succ m ih =>
    intro i σ hi hw e1 h20 hF e0
    refine run_in (stop := fun pc => Nat.beq pc 15) hI 40 ?_
    refine pk_le wt.length i (fun g => by omega) (fun g => ?_) e1 rfl
    refine ⟨rfl, nI_in (show i < 65536 by omega) (by decide), rfl, nI_in (show i < 65536 by omega) (by decide), ?_⟩
    rw [el_nI (by decide) (by omega), hw.2 i (by omega), nI_clamp (by omega)]
    have := ih (i + 1) (sM σ 20 i (nI (gD wt i))) (by omega) ⟨(sM_o (by omega)).trans hw.1, fun j hj => (sM_o (by omega)).trans (hw.2 j hj)⟩ ((sM_o (by omega)).trans e1) (fun j hj => ?_) (hF.s (by simp [tpM])) ((sM_o (by omega)).trans e0)
    · rw [nI_succ] at this
      exact this
    · by_cases e : j = i
      · rw [e, sM_s]
      · rw [sM_o (by omega)]
        exact h20 j (by omega)
theorem sp_X8_rewind (hw : WRM σ wt) (hl : wt.length ≤ 65536) (hb : ∀ i, i < wt.length → gD wt i < 256) (h : ∀ τ, TapeM τ wt.length (gD wt) → Fr tpM σ τ → τ.1 7 0 = 0 → Q (some (.int (nI wt.length))) τ) : P_X8_rewind [.ref 7] σ Q X := by
  refine ⟨rfl, fun I hI => run_in (stop := fun pc => Nat.beq pc 15) hI 30 ?_⟩
  have e18 : (sM σ 7 0 0).1 7 18 = nI wt.length := (sM_o (by omega)).trans hw.1
  have := lp_rewind (σ0 := σ) hl hb h hI wt.length 0 (sM (sM σ 7 0 0) 7 1 (nI wt.length)) (by omega) ⟨(sM_o (by omega)).trans e18, fun i hi => (sM_o (by omega)).trans ((sM_o (by omega)).trans (hw.2 i hi))⟩ sM_s (fun j hj => absurd hj (Nat.not_lt_zero j)) ((Fr.rf.s (by simp [tpM])).s (by simp [tpM])) ((sM_o (by omega)).trans sM_s)
  rw [← e18] at this
  exact this
end DM
