/-! ===== PURE: feeding, changing, cutting the tape ===== -/
def ext (t : Nat → Nat) (n b : Nat) : Nat → Nat := fun k => if k = n then b else t k
def exl (t : Nat → Nat) (n : Nat) : List Nat → (Nat → Nat)
  | [] => t
  | b :: l => exl (ext t n b) (n + 1) l
theorem exl_app (b : List Nat) : ∀ (a : List Nat) (t : Nat → Nat) (n : Nat), exl t n (a ++ b) = exl (exl t n a) (n + a.length) b := by
  intro a
  induction a with
  | nil => intro t n; rfl
  | cons c a ih =>
    intro t n
    show exl (ext t n c) (n + 1) (a ++ b) = exl (exl (ext t n c) (n + 1) a) (n + (a.length + 1)) b
    rw [ih, show n + (a.length + 1) = n + 1 + a.length by omega]
def byw (w : Int32) (s : Nat) : Nat := w.toBitVec.toNat / 2 ^ s % 256
theorem byw_b (w : Int32) (s : Nat) : byw w s < 256 := Nat.mod_lt _ (by omega)
theorem i8_low (y : Int32) : y.toInt8.toInt32 = (nI (y.toBitVec.toNat % 256)).toInt8.toInt32 := by
  congr 1
  apply Int8.toBitVec_inj.mp
  rw [Int32.toBitVec_toInt8, Int32.toBitVec_toInt8, BitVec.signExtend_eq_setWidth_of_le _ (by omega), BitVec.signExtend_eq_setWidth_of_le _ (by omega)]
  apply BitVec.eq_of_toNat_eq
  rw [BitVec.toNat_setWidth, BitVec.toNat_setWidth, pk_tn (by omega)]
  omega
theorem i8_and (y : Int32) : y.toInt8.toInt32 &&& 255 = nI (y.toBitVec.toNat % 256) := by
  rw [i8_low]
  exact byte_255 _ (Nat.mod_lt _ (by omega))
theorem sar_low (w : Int32) (s : Int32) (k : Nat) (hk : k ≤ 24) (hs : (s.toBitVec.smod 32).toNat = k) : (w >>> s) &&& 255 = nI (byw w k) := by
  rw [pk_and (w >>> s) (m := 255) 8 (by decide)]
  congr 1
  unfold byw
  have h : (w >>> s).toBitVec = w.toBitVec.sshiftRight k := by rw [← hs]; rfl
  rw [h]
  have key : (w.toBitVec.sshiftRight k).setWidth 8 = (w.toBitVec >>> k).setWidth 8 := by
    apply BitVec.eq_of_getLsbD_eq
    intro i hi
    rw [BitVec.getLsbD_setWidth, BitVec.getLsbD_setWidth, BitVec.getLsbD_sshiftRight, BitVec.getLsbD_ushiftRight]
    simp only [hi, decide_true, Bool.true_and]
    rw [if_pos (by omega), decide_eq_false (by omega)]
    rfl
  have h2 := congrArg BitVec.toNat key
  simp only [BitVec.toNat_setWidth, BitVec.toNat_ushiftRight, Nat.shiftRight_eq_div_pow] at h2
  exact h2
def tpC (j k : Nat) : Prop := (j = 1 ∧ k = 1) ∨ j = 8
def tpM (j k : Nat) : Prop := (j = 7 ∧ (k = 0 ∨ k = 1)) ∨ j = 20
section TP
variable {σ : Sg} {Q : Po} {X : Xo} {n : Nat} {t : Nat → Nat}
theorem sp_X5_addOne {y : Int32} (hT : TapeC σ n t) (hn : n < 65536) (h : ∀ τ, TapeC τ (n + 1) (ext t n (y.toBitVec.toNat % 256)) → Fr tpC σ τ → Q none τ) : P_X5_addOne [.ref 1, .int y] σ Q X := by
  obtain ⟨h1, h2, h3, h4⟩ := hT
  refine ⟨rfl, fun I hI => run_in (stop := fun _ => false) hI 40 ?_⟩
  refine ⟨by decide, ?_⟩
  refine pk_le 65536 n (fun g => by omega) (fun g => ?_) rfl h1
  refine ⟨rfl, pk_in n 65536 hn h1, ?_⟩
  have hq := h (sM (sM σ 8 n (vp_nar .byte y.toInt8.toInt32)) 1 1 (nI (n + 1))) ⟨sM_s, by omega, fun k hk => ?_, fun k hk => ?_⟩ ((Fr.rf.s (by simp [tpC])).s (by simp [tpC]))
  · rw [show nI (n + 1) = σ.1 1 1 + 1 by rw [h1, nI_succ], ← pk_cl n h1] at hq
    exact hq
  · rw [sM_o (by omega)]
    show _ = nI (if k = n then _ else t k)
    by_cases e : k = n
    · rw [if_pos e, e, sM_s, pk_vb, i8_and]
    · rw [if_neg e, sM_o (by omega)]
      exact h3 k (by omega)
  · show (if k = n then _ else t k) < 256
    split
    · exact Nat.mod_lt _ (by omega)
    · exact h4 k (by omega)
theorem ushr_n (w s : Int32) (k : Nat) (hs : ((s.toUInt32 &&& Int32.toUInt32 31).toBitVec % 32).toNat = k) : (w.toUInt32 >>> (s.toUInt32 &&& Int32.toUInt32 31)).toInt32.toBitVec.toNat % 256 = byw w k := by
  rw [pk_ushr w s k hs]
  rfl
theorem sp_X5_addFour {w : Int32} (hT : TapeC σ n t) (hn : n + 4 ≤ 65536) (h : ∀ τ, TapeC τ (n + 4) (exl t n [byw w 24, byw w 16, byw w 8, byw w 0]) → Fr tpC σ τ → Q none τ) : P_X5_addFour [.ref 1, .int w] σ Q X := by
  refine ⟨rfl, fun I hI => run_in (stop := fun _ => false) hI 60 ?_⟩
  refine And.intro (fun g => absurd g (by decide)) (fun _ => ?_)
  refine ⟨Nat.le_refl _, sp_X5_addOne hT (by omega) (fun τ1 a1 a2 => ?_)⟩
  refine And.intro (fun g => absurd g (by decide)) (fun _ => ?_)
  refine ⟨Nat.le_refl _, sp_X5_addOne a1 (by omega) (fun τ2 b1 b2 => ?_)⟩
  refine And.intro (fun g => absurd g (by decide)) (fun _ => ?_)
  refine ⟨Nat.le_refl _, sp_X5_addOne b1 (by omega) (fun τ3 c1 c2 => ?_)⟩
  refine And.intro (fun g => absurd g (by decide)) (fun _ => ?_)
  refine ⟨Nat.le_refl _, sp_X5_addOne c1 (by omega) (fun τ4 d1 d2 => ?_)⟩
  refine And.intro (fun _ => ?_) (fun g => absurd (by decide) g)
  refine h τ4 ?_ (((a2.tr b2).tr c2).tr d2)
  rw [ushr_n w _ 24 (by decide), ushr_n w _ 16 (by decide), ushr_n w _ 8 (by decide), ushr_n w _ 0 (by decide)] at d1
  exact d1
def by4 (w : Int32) : List Nat := [byw w 24, byw w 16, byw w 8, byw w 0]
def by20 (a b c d e : Int32) : List Nat := by4 a ++ (by4 b ++ (by4 c ++ (by4 d ++ by4 e)))
theorem sp_X7_feed {a b c d e : Int32} (hT : TapeC σ n t) (h0 : 65536 < n + 20 → Q (some (.int (-1))) σ) (h1 : n + 20 ≤ 65536 → ∀ τ, TapeC τ (n + 20) (exl t n (by20 a b c d e)) → Fr tpC σ τ → Q (some (.int (nI (n + 20)))) τ) : P_X7_feed [.ref 0, .int a, .int b, .int c, .int d, .int e] σ Q X := by
  have hn := hT.2.1
  have hsum : σ.1 1 1 + 20 = nI (n + 20) := by rw [hT.1]; exact nI_add n 20
  refine ⟨rfl, fun I hI => run_in (stop := fun _ => false) hI 60 ?_⟩
  refine pk_le (n + 20) 65536 (fun g => ?_) (fun g => h0 g) hsum rfl
  refine ⟨Nat.le_refl _, sp_X5_addFour hT (by omega) (fun τ1 a1 a2 => ?_)⟩
  refine ⟨Nat.le_refl _, sp_X5_addFour a1 (by omega) (fun τ2 b1 b2 => ?_)⟩
  refine ⟨Nat.le_refl _, sp_X5_addFour b1 (by omega) (fun τ3 c1 c2 => ?_)⟩
  refine ⟨Nat.le_refl _, sp_X5_addFour c1 (by omega) (fun τ4 d1 d2 => ?_)⟩
  refine ⟨Nat.le_refl _, sp_X5_addFour d1 (by omega) (fun τ5 e1 e2 => ?_)⟩
  have := h1 g τ5 (by
    unfold by20
    rw [exl_app, exl_app, exl_app, exl_app]
    exact e1) ((((a2.tr b2).tr c2).tr d2).tr e2)
  rw [← e1.1] at this
  exact this
theorem byw_k (a b c d e : Int32) : ∀ k, k < 20 → gD (by20 a b c d e) k = byw (if k < 4 then a else if k < 8 then b else if k < 12 then c else if k < 16 then d else e) (24 - 8 * (k % 4)) := by
  intro k hk
  rcases k with _ | _ | _ | _ | _ | _ | _ | _ | _ | _ | _ | _ | _ | _ | _ | _ | _ | _ | _ | _ | k
  all_goals first | rfl | omega
theorem lp_feed {σ0 : Sg} {a b c d e : Int32} (hn : n + 20 ≤ 65536) (h : ∀ τ, TapeM τ (n + 20) (exl t n (by20 a b c d e)) → Fr tpM σ0 τ → τ.1 7 0 = 0 → Q (some (.int (nI (n + 20)))) τ) {I : Jt} (hI : Cl (FM (cutN 124 t_X8_feed) e_X8_feed xn0 0 sws0 false Q X) I) :
    ∀ m k (u : Nat → Nat) z (σ : Sg), k + m = 20 → exl u (n + k) ((by20 a b c d e).drop k) = exl t n (by20 a b c d e) → TapeM σ (n + k) u → Fr tpM σ0 σ → σ.1 7 0 = 0 → I 0 22 [some (.ref 7), some (.int a), some (.int b), some (.int c), some (.int d), some (.int e), some (.int (nI k)), z] [] σ := by
  intro m
  induction m with
  | zero =>
    intro k u z σ hk hu hT hF e0
    have hk20 : k = 20 := by omega
    subst hk20
    refine run_in (stop := fun pc => Nat.beq pc 22) hI 40 ?_
    refine pk_le 20 20 (fun _ => ?_) (fun g => by omega) rfl rfl
    have := h σ (by rw [← hu]; exact hT) hF e0
    rw [← hT.1] at this
    exact this
  | succ m ih =>
    intro k u z σ hk hu hT hF e0
    have hlen : k < (by20 a b c d e).length := by show k < 20; omega
    have tail : ∀ w : Int32, w = (if k < 4 then a else if k < 8 then b else if k < 12 then c else if k < 16 then d else e) → I 0 77 [some (.ref 7), some (.int a), some (.int b), some (.int c), some (.int d), some (.int e), some (.int (nI k)), some (.int w)] [] σ := by
      intro w hw
      have e1 : nI k - nI k / 4 * 4 = nI (k % 4) := pk_rem (a := k) (d := 4) (by omega) (by omega) (by omega)
      have hk4 : k % 4 < 4 := Nat.mod_lt _ (by omega)
      have e2 : (24 : Int32) - 8 * nI (k % 4) = nI (24 - 8 * (k % 4)) := by
        rw [show (8 : Int32) = nI 8 from rfl, nI_mul, show (24 : Int32) = nI 24 from rfl]
        exact nI_sub (by omega)
      have e2b : nI (24 - 8 * (k % 4)) &&& 31 = nI (24 - 8 * (k % 4)) := by
        have := pk_andN (n := 24 - 8 * (k % 4)) (by omega) (m := 31) 5 (by decide)
        rw [this]
        congr 1
        omega
      have e3 : (w >>> ((24 - 8 * (nI k - nI k / 4 * 4)) &&& 31)) &&& 255 = nI (gD (by20 a b c d e) k) := by
        rw [e1, e2, e2b, byw_k a b c d e k (by omega), ← hw]
        refine sar_low w _ _ (by omega) ?_
        have : ∀ r, r < 4 → ((nI (24 - 8 * r)).toBitVec.smod 32).toNat = 24 - 8 * r := by decide
        exact this _ hk4
      refine run_in (stop := fun pc => Nat.beq pc 22) hI 40 ?_
      refine ⟨by decide, rfl, pk_in (n + k) 65536 (by omega) hT.1, ?_⟩
      have hb : gD (by20 a b c d e) k < 256 := by rw [byw_k a b c d e k (by omega)]; exact byw_b _ _
      have := ih (k + 1) (ext u (n + k) (gD (by20 a b c d e) k)) (some (.int w)) (sM (sM σ 20 (n + k) (nI (gD (by20 a b c d e) k))) 7 1 (nI (n + k + 1))) (by omega) ?_ ⟨sM_s, by omega, fun j hj => ?_, fun j hj => ?_⟩ ((hF.s (by simp [tpM])).s (by simp [tpM])) ?_
      · rw [show nI (n + k + 1) = σ.1 7 1 + 1 by rw [hT.1, nI_succ], ← e3, ← pk_cl (n + k) hT.1, nI_succ k] at this
        exact this
      · rw [← hu, drop_at hlen]
        rfl
      · show _ = nI (if j = n + k then _ else u j)
        rw [sM_o (by omega)]
        by_cases q : j = n + k
        · rw [if_pos q, q, sM_s]
        · rw [if_neg q, sM_o (by omega)]
          exact hT.2.2.1 j (by omega)
      · show (if j = n + k then _ else u j) < 256
        split
        · exact hb
        · exact hT.2.2.2 j (by omega)
      · rw [sM_o (by omega), sM_o (by omega)]
        exact e0
    refine run_in (stop := fun pc => Nat.beq pc 77) hI 40 ?_
    refine pk_le 20 k (fun g => by omega) (fun g => ?_) rfl rfl
    refine pk_le 4 k (fun g1 => ?_) (fun g1 => tail a (by rw [if_pos g1])) rfl rfl
    refine pk_le 8 k (fun g2 => ?_) (fun g2 => tail b (by rw [if_neg (by omega), if_pos g2])) rfl rfl
    refine pk_le 12 k (fun g3 => ?_) (fun g3 => tail c (by rw [if_neg (by omega), if_neg (by omega), if_pos g3])) rfl rfl
    refine pk_le 16 k (fun g4 => ?_) (fun g4 => tail d (by rw [if_neg (by omega), if_neg (by omega), if_neg (by omega), if_pos g4])) rfl rfl
    exact tail e (by rw [if_neg (by omega), if_neg (by omega), if_neg (by omega), if_neg (by omega)])
theorem sp_X8_feed {a b c d e : Int32} (hT : TapeM σ n t) (h0 : 65536 < n + 20 → Q (some (.int (-1))) (sM σ 7 0 0)) (h1 : n + 20 ≤ 65536 → ∀ τ, TapeM τ (n + 20) (exl t n (by20 a b c d e)) → Fr tpM σ τ → τ.1 7 0 = 0 → Q (some (.int (nI (n + 20)))) τ) : P_X8_feed [.ref 7, .int a, .int b, .int c, .int d, .int e] σ Q X := by
  have hn := hT.2.1
  have hT0 : TapeM (sM σ 7 0 0) n t := hT.m (by omega)
  have hsum : (sM σ 7 0 0).1 7 1 + 20 = nI (n + 20) := by rw [hT0.1]; exact nI_add n 20
  refine ⟨rfl, fun I hI => run_in (stop := fun pc => Nat.beq pc 22) hI 60 ?_⟩
  refine pk_le (n + 20) 65536 (fun g => ?_) (fun g => h0 g) hsum rfl
  exact lp_feed (σ0 := σ) g (h1 g) hI 20 0 t none (sM σ 7 0 0) (by omega) rfl hT0 (Fr.rf.s (by simp [tpM])) sM_s
end TP
