/-! ===== PURE: put, cut, last, count, written, rewind ===== -/
def WRC (σ : Sg) (wt : List Nat) : Prop := (σ.2.1 6 3 = 18 ∧ σ.2.1 6 5 = 19 ∨ σ.2.1 6 3 = 19 ∧ σ.2.1 6 5 = 18) ∧ σ.1 6 4 = nI wt.length ∧ wt.length ≤ 65536 ∧ ∀ i, i < wt.length → σ.1 (σ.2.1 6 3) i = (nI (gD wt i)).toInt8.toInt32 ∧ gD wt i < 256
def WRM (σ : Sg) (wt : List Nat) : Prop := σ.1 7 18 = nI wt.length ∧ ∀ i, i < wt.length → σ.1 29 i = nI (gD wt i)
section SM
variable {σ : Sg} {Q : Po} {X : Xo} {n : Nat} {t : Nat → Nat} {wt : List Nat}
theorem ext_C {i b : Nat} (hT : TapeC σ n t) (hb : b < 256) (hi : i < n) : TapeC (sM σ 8 i (vp_nar .byte (nI b).toInt8.toInt32)) n (ext t i b) := by
  obtain ⟨h1, h2, h3, h4⟩ := hT
  refine ⟨(sM_o (by omega)).trans h1, h2, fun k hk => ?_, fun k hk => ?_⟩
  · show _ = nI (if k = i then b else t k)
    by_cases e : k = i
    · rw [if_pos e, e, sM_s, nar_b, byte_255 b hb]
    · rw [if_neg e, sM_o (by omega)]
      exact h3 k hk
  · show (if k = i then b else t k) < 256
    split
    · exact hb
    · exact h4 k hk
theorem ext_M {i b : Nat} (hT : TapeM σ n t) (hb : b < 256) (hi : i < n) : TapeM (sM σ 20 i (nI b)) n (ext t i b) := by
  obtain ⟨h1, h2, h3, h4⟩ := hT
  refine ⟨(sM_o (by omega)).trans h1, h2, fun k hk => ?_, fun k hk => ?_⟩
  · show _ = nI (if k = i then b else t k)
    by_cases e : k = i
    · rw [if_pos e, e, sM_s]
    · rw [if_neg e, sM_o (by omega)]
      exact h3 k hk
  · show (if k = i then b else t k) < 256
    split
    · exact hb
    · exact h4 k hk
theorem sp_X7_put {x y : Int32} (hT : TapeC σ n t) (hX0 : (x < 0 ∨ nI n ≤ x) → X xI σ) (hA : ∀ i, i < n → x = nI i → (y < 0 ∨ 255 < y) → X xA σ) (h1 : ∀ i b, i < n → b < 256 → x = nI i → y = nI b → ∀ τ, TapeC τ n (ext t i b) → Fr tpC σ τ → Q (some (.int (nI (t i)))) τ) : P_X7_put [.ref 0, .int x, .int y] σ Q X := by
  have hn := hT.2.1
  refine ⟨rfl, fun I hI => run_in (stop := fun _ => false) hI 60 ?_⟩
  refine And.intro (fun g => ⟨Nat.le_refl _, hX0 (Or.inl g)⟩) (fun g => ?_)
  obtain ⟨i, hi, rfl⟩ := nI_of g
  refine pk_lt i n (fun g2 => ?_) (fun g2 => ⟨Nat.le_refl _, hX0 (Or.inr (nI_le g2 hi))⟩) rfl hT.1
  refine And.intro (fun g3 => ⟨Nat.le_refl _, hA i g2 rfl (Or.inl g3)⟩) (fun g3 => ?_)
  obtain ⟨b, hb, rfl⟩ := nI_of g3
  refine pk_le b 255 (fun g4 => ?_) (fun g4 => ⟨Nat.le_refl _, hA i g2 rfl (Or.inr (nI_lt (a := 255) g4 hb))⟩) rfl rfl
  refine ⟨by decide, rfl, fun I hI => run_in (stop := fun _ => false) hI 40 ?_⟩
  refine ⟨Nat.le_refl _, sp_X5_get hT (by omega) (fun r hr => ?_)⟩
  rw [tg_lt g2, vI_lt (hT.2.2.2 i g2)] at hr
  subst hr
  refine And.intro (fun z => absurd z (nIm1 (by have := hT.2.2.2 i g2; omega))) (fun _ => ?_)
  refine ⟨rfl, nI_in (show i < 65536 by omega) (by decide), ?_⟩
  rw [nI_clamp hi]
  exact h1 i b g2 (by omega) rfl rfl _ (ext_C hT (by omega) g2) (Fr.rf.s (by simp [tpC]))
theorem sp_X8_put {x y : Int32} (hT : TapeM σ n t) (hI : (x < 0 ∨ nI n ≤ x) → Q (some (.int 0)) (sM σ 7 0 1)) (hA : ∀ i, i < n → x = nI i → (y < 0 ∨ 255 < y) → Q (some (.int 0)) (sM σ 7 0 2)) (h1 : ∀ i b, i < n → b < 256 → x = nI i → y = nI b → ∀ τ, TapeM τ n (ext t i b) → Fr tpM σ τ → τ.1 7 0 = 0 → Q (some (.int (nI (t i)))) τ) : P_X8_put [.ref 7, .int x, .int y] σ Q X := by
  have hn := hT.2.1
  refine ⟨rfl, fun I hI' => run_in (stop := fun pc => Nat.beq pc 33) hI' 60 ?_⟩
  have bad : ∀ c : Int32, (true = true ↔ 0 < c) → Q (some (.int 0)) (sM σ 7 0 c) → I 0 33 [some (.ref 7), some (.int x), some (.int y), none] [.int c, .ref 7] σ := by
    intro c hc hq
    refine run_in (stop := fun _ => false) hI' 60 ?_
    refine ⟨Nat.le_refl _, sp_X8_refused (b := true) hc ?_⟩
    exact And.intro (fun g => absurd g (by decide)) (fun _ => hq)
  refine And.intro (fun g => bad 1 (by decide) (hI (Or.inl g))) (fun g => ?_)
  obtain ⟨i, hi, rfl⟩ := nI_of g
  refine pk_lt i n (fun g2 => ?_) (fun g2 => bad 1 (by decide) (hI (Or.inr (nI_le g2 hi)))) rfl hT.1
  refine And.intro (fun g3 => bad 2 (by decide) (hA i g2 rfl (Or.inl g3))) (fun g3 => ?_)
  obtain ⟨b, hb, rfl⟩ := nI_of g3
  refine pk_le b 255 (fun g4 => ?_) (fun g4 => bad 2 (by decide) (hA i g2 rfl (Or.inr (nI_lt (a := 255) g4 hb)))) rfl rfl
  show I 0 33 _ _ _
  have hT0 : TapeM (sM σ 7 0 0) n t := hT.m (by omega)
  refine run_in (stop := fun _ => false) hI' 60 ?_
  refine ⟨Nat.le_refl _, sp_X8_refused (b := false) (by decide) ?_⟩
  refine And.intro (fun _ => ?_) (fun z => absurd rfl z)
  refine ⟨rfl, nI_in (show i < 65536 by omega) (by decide), ?_⟩
  rw [el_nI (by decide) hi, hT0.2.2.1 i g2]
  refine ⟨rfl, nI_in (show i < 65536 by omega) (by decide), ?_⟩
  rw [nI_clamp hi]
  exact h1 i b g2 (by omega) rfl rfl _ (ext_M hT0 (by omega) g2) ((Fr.rf.s (by simp [tpM])).s (by simp [tpM])) ((sM_o (by omega)).trans sM_s)
def mnn (a b : Nat) : Nat := if a ≤ b then a else b
theorem sp_X7_cut {x : Int32} (hT : TapeC σ n t) (hA : x < 0 → X xA σ) (h1 : ∀ m, m < 2 ^ 31 → x = nI m → ∀ τ, TapeC τ (mnn m n) t → Fr tpC σ τ → Q (some (.int (nI (n - mnn m n)))) τ) : P_X7_cut [.ref 0, .int x] σ Q X := by
  have hn := hT.2.1
  refine ⟨rfl, fun I hI => run_in (stop := fun _ => false) hI 40 ?_⟩
  refine And.intro (fun g => ?_) (fun g => ⟨Nat.le_refl _, hA (Int32.not_le.mp g)⟩)
  obtain ⟨m, hm, rfl⟩ := nI_of (Int32.not_lt.mpr g)
  refine ⟨by decide, rfl, fun I hI => run_in (stop := fun _ => false) hI 40 ?_⟩
  refine ⟨Nat.le_refl _, ?_⟩
  have hmin : (if σ.1 1 1 < nI m then σ.1 1 1 else nI m) = nI (mnn m n) := by
    rw [hT.1]
    unfold mnn
    by_cases e : m ≤ n
    · rw [if_pos e, if_neg (nI_nlt e (by omega))]
    · rw [if_neg e, if_pos (nI_lt (by omega) hm)]
  have hb : mnn m n ≤ n := by unfold mnn; split <;> omega
  have hsub : σ.1 1 1 - nI (mnn m n) = nI (n - mnn m n) := by rw [hT.1]; exact nI_sub hb
  have hq := h1 m hm rfl (sM σ 1 1 (nI (mnn m n))) ⟨sM_s, by omega, fun k hk => by rw [sM_o (by omega)]; exact hT.2.2.1 k (by omega), fun k hk => hT.2.2.2 k (by omega)⟩ (Fr.rf.s (by simp [tpC]))
  rw [← hsub, ← hmin] at hq
  exact hq
theorem sp_X8_cut {x : Int32} (hT : TapeM σ n t) (hA : x < 0 → Q (some (.int 0)) (sM σ 7 0 1)) (h1 : ∀ m, m < 2 ^ 31 → x = nI m → ∀ τ, TapeM τ (mnn m n) t → Fr tpM σ τ → τ.1 7 0 = 0 → Q (some (.int (nI (n - mnn m n)))) τ) : P_X8_cut [.ref 7, .int x] σ Q X := by
  have hn := hT.2.1
  have hT0 : TapeM (sM σ 7 0 0) n t := hT.m (by omega)
  refine ⟨rfl, fun I hI => run_in (stop := fun pc => Nat.beq pc 36) hI 60 ?_⟩
  refine And.intro (fun g => ?_) (fun g => ?_)
  · obtain ⟨m, hm, rfl⟩ := nI_of (Int32.not_lt.mpr g)
    refine ⟨Nat.le_refl _, sp_X8_refused (b := false) (by decide) ?_⟩
    refine And.intro (fun _ => ?_) (fun z => absurd rfl z)
    have m36 : ∀ v : Int32, v = nI (n - mnn m n) → I 0 36 [some (.ref 7), some (.int (nI m)), none] [.int v] (sM σ 7 0 0) := by
      intro v hv
      subst hv
      refine run_in (stop := fun _ => false) hI 60 ?_
      have hb : mnn m n ≤ n := by unfold mnn; split <;> omega
      have hsub : (sM σ 7 0 0).1 7 1 - nI (n - mnn m n) = nI (mnn m n) := by
        rw [hT0.1, nI_sub (by omega)]
        congr 1
        omega
      have hq := h1 m hm rfl (sM (sM σ 7 0 0) 7 1 (nI (mnn m n))) ⟨sM_s, by omega, fun k hk => by rw [sM_o (by omega)]; exact hT0.2.2.1 k (by omega), fun k hk => hT.2.2.2 k (by omega)⟩ ((Fr.rf.s (by simp [tpM])).s (by simp [tpM])) ((sM_o (by omega)).trans sM_s)
      rw [← hsub] at hq
      exact hq
    refine pk_le n m (fun q => ?_) (fun q => ?_) hT0.1 rfl
    · refine m36 _ ?_
      unfold mnn
      by_cases e : m ≤ n
      · rw [if_pos e, show n - m = 0 by omega]; rfl
      · rw [if_neg e, Nat.sub_self]; rfl
    · refine m36 _ ?_
      rw [hT0.1, nI_sub (by omega)]
      unfold mnn
      rw [if_pos (by omega)]
  · refine ⟨Nat.le_refl _, sp_X8_refused (b := true) (by decide) ?_⟩
    exact And.intro (fun z => absurd z (by decide)) (fun _ => hA (Int32.not_le.mp g))
def lsA (b p u g x : Int32) : Int32 := if b = 0 then -1 else if x = 0 then p else if x = 1 then u else if x = 2 then g else -1
theorem sp_X7_last {x : Int32} (h : Q (some (.int (lsA (σ.1 3 9) (σ.1 3 10) (σ.1 3 11) (σ.1 3 12) x))) σ) : P_X7_last [.ref 0, .int x] σ Q X := by
  unfold lsA at h
  refine ⟨rfl, fun I hI => run_in (stop := fun _ => false) hI 40 ?_⟩
  refine And.intro (fun g => ?_) (fun g => ?_)
  · rw [if_neg g] at h
    refine And.intro (fun g0 => ?_) (fun g0 => And.intro (fun g1 => ?_) (fun g1 => And.intro (fun g2 => ?_) (fun g2 => ?_)))
    · rw [if_pos g0] at h; exact h
    · rw [if_neg g0, if_pos g1] at h; exact h
    · rw [if_neg g0, if_neg g1, if_pos g2] at h; exact h
    · rw [if_neg g0, if_neg g1, if_neg g2] at h; exact h
  · rw [if_pos g] at h
    exact h
theorem sp_X8_last {x : Int32} (h : Q (some (.int (lsA (σ.1 7 14) (σ.1 7 15) (σ.1 7 16) (σ.1 7 17) x))) (sM σ 7 0 0)) : P_X8_last [.ref 7, .int x] σ Q X := by
  unfold lsA at h
  have e : ∀ c, c ≠ 0 → (sM σ 7 0 0).1 7 c = σ.1 7 c := fun c hc => sM_o (by omega)
  rw [← e 14 (by decide), ← e 15 (by decide), ← e 16 (by decide), ← e 17 (by decide)] at h
  refine ⟨rfl, fun I hI => run_in (stop := fun _ => false) hI 40 ?_⟩
  refine And.intro (fun g => ?_) (fun g => ?_)
  · rw [if_neg g] at h
    refine And.intro (fun g0 => And.intro (fun g1 => And.intro (fun g2 => ?_) (fun g2 => ?_)) (fun g1 => ?_)) (fun g0 => ?_)
    · rw [if_neg g0, if_neg g1, if_neg g2] at h; exact h
    · rw [if_neg g0, if_neg g1, if_pos g2] at h; exact h
    · rw [if_neg g0, if_pos g1] at h; exact h
    · rw [if_pos g0] at h; exact h
  · rw [if_pos g] at h
    exact h
def coA (a b c d x : Int32) : Int32 := if x = 0 then a else if x = 1 then b else if x = 2 then c else if x = 3 then d else -1
theorem sp_X7_count {x : Int32} (h : Q (some (.int (coA (σ.1 1 1) (σ.1 2 7) (σ.1 2 8) (σ.1 2 9) x))) σ) : P_X7_count [.ref 0, .int x] σ Q X := by
  unfold coA at h
  refine ⟨rfl, fun I hI => run_in (stop := fun _ => false) hI 40 ?_⟩
  refine And.intro (fun g0 => ?_) (fun g0 => And.intro (fun g1 => ?_) (fun g1 => And.intro (fun g2 => ?_) (fun g2 => And.intro (fun g3 => ?_) (fun g3 => ?_))))
  · rw [if_pos g0] at h; exact h
  · rw [if_neg g0, if_pos g1] at h; exact h
  · rw [if_neg g0, if_neg g1, if_pos g2] at h; exact h
  · rw [if_neg g0, if_neg g1, if_neg g2, if_pos g3] at h; exact h
  · rw [if_neg g0, if_neg g1, if_neg g2, if_neg g3] at h; exact h
theorem sp_X8_count {x : Int32} (h : Q (some (.int (coA (σ.1 7 1) (σ.1 7 3) (σ.1 7 9) (σ.1 7 11) x))) (sM σ 7 0 0)) : P_X8_count [.ref 7, .int x] σ Q X := by
  unfold coA at h
  have e : ∀ c, c ≠ 0 → (sM σ 7 0 0).1 7 c = σ.1 7 c := fun c hc => sM_o (by omega)
  rw [← e 1 (by decide), ← e 3 (by decide), ← e 9 (by decide), ← e 11 (by decide)] at h
  refine ⟨rfl, fun I hI => run_in (stop := fun _ => false) hI 40 ?_⟩
  refine And.intro (fun g0 => And.intro (fun g1 => And.intro (fun g2 => And.intro (fun g3 => ?_) (fun g3 => ?_)) (fun g2 => ?_)) (fun g1 => ?_)) (fun g0 => ?_)
  · rw [if_neg g0, if_neg g1, if_neg g2, if_neg g3] at h; exact h
  · rw [if_neg g0, if_neg g1, if_neg g2, if_pos g3] at h; exact h
  · rw [if_neg g0, if_neg g1, if_pos g2] at h; exact h
  · rw [if_neg g0, if_pos g1] at h; exact h
  · rw [if_pos g0] at h; exact h
def wrA (wt : List Nat) (x : Int32) : Int32 := if x < 0 ∨ nI wt.length ≤ x then -1 else nI (gD wt x.toNatClampNeg)
theorem sp_X7_written {x : Int32} (hw : WRC σ wt) (h : Q (some (.int (wrA wt x))) σ) : P_X7_written [.ref 0, .int x] σ Q X := by
  obtain ⟨w1, w2, w3, w4⟩ := hw
  unfold wrA at h
  refine ⟨rfl, fun I hI => run_in (stop := fun _ => false) hI 20 ?_⟩
  refine ⟨Nat.le_refl _, rfl, fun I hI => run_in (stop := fun _ => false) hI 40 ?_⟩
  refine And.intro (fun g => ?_) (fun g => ?_)
  · rw [if_pos (Or.inl g)] at h; exact h
  · obtain ⟨i, hi, rfl⟩ := nI_of g
    refine pk_le wt.length i (fun g2 => ?_) (fun g2 => ?_) w2 rfl
    · rw [if_pos (Or.inr (nI_le g2 hi))] at h; exact h
    · rw [if_neg (fun z => z.elim g (fun y => absurd ((nI_leI (by omega) hi).mp y) (by omega))), nI_clamp hi] at h
      obtain ⟨e1, e2⟩ := w4 i g2
      have ha : ak (σ.2.1 6 3) = (2, 65536) ∧ σ.2.1 6 3 < 40 := by rcases w1 with ⟨z, -⟩ | ⟨z, -⟩ <;> (rw [z]; exact ⟨rfl, by decide⟩)
      have e3 : el σ (σ.2.1 6 3) (nI i) = (nI (gD wt i)).toInt8.toInt32 := by rw [el_nI ha.2 hi]; exact e1
      refine ⟨by rw [ha.1]; exact Or.inl rfl, by rw [ha.1]; exact nI_in (show i < 65536 by omega) (by decide), ?_⟩
      rw [e3]
      rw [← byte_255 _ e2] at h
      exact h
theorem sp_X8_written {x : Int32} (hw : WRM σ wt) (hl : wt.length ≤ 65536) (h : Q (some (.int (wrA wt x))) (sM σ 7 0 0)) : P_X8_written [.ref 7, .int x] σ Q X := by
  obtain ⟨w2, w4⟩ := hw
  have e18 : (sM σ 7 0 0).1 7 18 = nI wt.length := (sM_o (by omega)).trans w2
  unfold wrA at h
  refine ⟨rfl, fun I hI => run_in (stop := fun _ => false) hI 40 ?_⟩
  refine And.intro (fun g => ?_) (fun g => ?_)
  · rw [if_pos (Or.inl g)] at h; exact h
  · obtain ⟨i, hi, rfl⟩ := nI_of g
    refine pk_lt i wt.length (fun g2 => ?_) (fun g2 => ?_) rfl e18
    · rw [if_neg (fun z => z.elim g (fun y => absurd ((nI_leI (by omega) hi).mp y) (by omega))), nI_clamp hi] at h
      refine ⟨rfl, nI_in (show i < 65536 by omega) (by decide), ?_⟩
      rw [el_nI (by decide) hi, sM_o (by omega), w4 i g2]
      exact h
    · rw [if_pos (Or.inr (nI_le g2 hi))] at h; exact h
end SM
