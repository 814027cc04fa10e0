/-! ===== PURE: the class writes ===== -/
def mn6 (n : Nat) : Nat := if n ≤ 65536 then n else 65536
theorem mn6_b (n : Nat) : (n ≤ 65536 ∧ mn6 n = n) ∨ (65536 < n ∧ mn6 n = 65536) := by
  unfold mn6
  by_cases h : n ≤ 65536
  · exact Or.inl ⟨h, if_pos h⟩
  · exact Or.inr ⟨by omega, if_neg h⟩
def CW (σ : Sg) (pg : Nat) (l : List Nat) : Prop := σ.2.1 6 5 = pg ∧ (pg = 18 ∨ pg = 19) ∧ σ.1 6 6 = nI (mn6 l.length) ∧ σ.1 6 7 = bI (decide (65536 < l.length)) ∧ ∀ i, i < l.length → i < 65536 → σ.1 pg i = (nI (gD l i)).toInt8.toInt32 ∧ gD l i < 256
def wcP (pg j k : Nat) : Prop := (j = 6 ∧ (k = 6 ∨ k = 7)) ∨ j = pg
def bt (l : List Nat) : List Nat := if l = [] then l else l ++ [32]
section WC
variable {σ : Sg} {Q : Po} {X : Xo} {pg : Nat} {l : List Nat} {S : St}
theorem CS.wc {τ : Sg} (h : CS σ S) (hp : pg = 18 ∨ pg = 19) (hf : Fr (wcP pg) σ τ) : CS τ S := h.fr (hf.2 2 7 (by simp [wcP]; omega)) (hf.2 2 8 (by simp [wcP]; omega)) (fun j k h1 h2 => hf.2 j k (by simp [wcP]; omega)) (fun k _ => hf.2 15 k (by simp [wcP]; omega))
theorem sp_X2_add {b : Nat} (hw : CW σ pg l) (hb : b < 256) (h : ∀ τ, CW τ pg (l ++ [b]) → Fr (wcP pg) σ τ → Q none τ) : P_X2_add [.ref 6, .int (nI b)] σ Q X := by
  obtain ⟨w1, w2, w3, w4, w5⟩ := hw
  have hm := mn6_b l.length
  have ha : ak pg = (2, 65536) := by rcases w2 with rfl | rfl <;> rfl
  have h50 : Nat.beq pg 50 = false := by rcases w2 with rfl | rfl <;> rfl
  refine ⟨rfl, fun I hI => run_in (stop := fun _ => false) hI 60 ?_⟩
  show (bif Nat.beq (σ.2.1 6 5) 50 then _ else _)
  rw [w1, h50]
  refine ⟨by rw [ha]; exact (by decide : ¬ (2 : Nat) = 0), ?_⟩
  show (Int32.ofNat (ak pg).2 ≤ σ.1 6 6 → _) ∧ (¬ Int32.ofNat (ak pg).2 ≤ σ.1 6 6 → _)
  rw [ha]
  refine pk_le 65536 (mn6 l.length) (fun g => ?_) (fun g => ?_) rfl w3
  · refine ⟨Or.inr rfl, h _ ⟨w1, w2, ?_, ?_, fun i hi h6 => ?_⟩ (Fr.rf.s (by simp [wcP]))⟩
    · rw [sM_o (by omega), w3]
      have := mn6_b (l ++ [b]).length
      simp only [List.length_append, List.length_singleton] at this ⊢
      congr 1
      omega
    · rw [sM_s, decide_eq_true (by simp; omega)]
      rfl
    · rw [sM_o (by omega), gD_app, if_pos (by omega)]
      exact w5 i (by omega) h6
  · have hl : l.length < 65536 := by omega
    have hml : mn6 l.length = l.length := by omega
    rw [hml] at w3
    show (ak (σ.2.1 6 5)).1 = 2 ∧ vp_in (σ.1 6 6) (ak (σ.2.1 6 5)).2 ∧ _
    rw [w1, ha]
    refine ⟨rfl, pk_in l.length 65536 hl w3, ?_⟩
    have hq := h (sM (sM σ pg l.length (vp_nar .byte (nI b).toInt8.toInt32)) 6 6 (nI (l.length + 1))) ⟨w1, w2, ?_, ?_, fun i hi h6 => ?_⟩ ((Fr.rf.s (by simp [wcP])).s (by simp [wcP]))
    · rw [show nI (l.length + 1) = σ.1 6 6 + 1 by rw [w3, nI_succ], ← pk_cl l.length w3] at hq
      have e66 : (sM σ pg (σ.1 6 6).toNatClampNeg (vp_nar .byte (nI b).toInt8.toInt32)).1 6 6 = σ.1 6 6 := sM_o (by omega)
      rw [← e66] at hq
      have e2 : (sM σ pg ((sM σ pg (σ.1 6 6).toNatClampNeg (vp_nar .byte (nI b).toInt8.toInt32)).1 6 6).toNatClampNeg (vp_nar .byte (nI b).toInt8.toInt32)) = sM σ pg (σ.1 6 6).toNatClampNeg (vp_nar .byte (nI b).toInt8.toInt32) := by rw [e66]
      rw [e2] at hq
      exact hq
    · rw [sM_s]
      have := mn6_b (l ++ [b]).length
      simp only [List.length_append, List.length_singleton] at this ⊢
      congr 1
      omega
    · rw [sM_o (by omega), sM_o (by omega), w4, decide_eq_false (by omega), decide_eq_false (by simp; omega)]
    · rw [sM_o (by omega), gD_app]
      by_cases hi' : i < l.length
      · rw [if_pos hi', sM_o (by right; omega)]
        exact w5 i hi' h6
      · have : i = l.length := by simp at hi; omega
        subst this
        rw [if_neg hi', if_pos rfl, sM_s, nar_b]
        exact ⟨rfl, hb⟩
theorem sp_X2_beginToken (hw : CW σ pg l) (h : ∀ τ, CW τ pg (bt l) → Fr (wcP pg) σ τ → Q none τ) : P_X2_beginToken [.ref 6] σ Q X := by
  have hm := mn6_b l.length
  unfold bt at h
  refine ⟨rfl, fun I hI => run_in (stop := fun _ => false) hI 30 ?_⟩
  refine pk_le (mn6 l.length) 0 (fun g => ?_) (fun g => ?_) hw.2.2.1 rfl
  · rw [if_pos (List.eq_nil_of_length_eq_zero (by omega))] at h
    exact h σ hw Fr.rf
  · rw [if_neg (fun z => by rw [z] at g; simp [mn6] at g)] at h
    exact ⟨Nat.le_refl _, sp_X2_add (b := 32) hw (by omega) h⟩
theorem sp_X2_addSign {x : Int32} (hw : CW σ pg l) (h : ∀ τ, CW τ pg (l ++ sgl x) → Fr (wcP pg) σ τ → Q none τ) : P_X2_addSign [.ref 6, .int x] σ Q X := by
  unfold sgl at h
  refine ⟨rfl, fun I hI => run_in (stop := fun _ => false) hI 30 ?_⟩
  refine And.intro (fun g => ?_) (fun g => ?_)
  · rw [if_neg (Int32.not_lt.mpr g), List.append_nil] at h
    exact h σ hw Fr.rf
  · rw [if_pos (Int32.not_le.mp g)] at h
    exact ⟨Nat.le_refl _, sp_X2_add (b := 45) hw (by omega) h⟩
theorem lp_addDigits {σ0 : Sg} {v : Nat} {L : List Nat} (hv : v < 2 ^ 31) (h : ∀ τ, CW τ pg L → Fr (wcP pg) σ0 τ → Q none τ) {I : Jt} (hI : Cl (FM (cutN 39 t_X2_addDigits) e_X2_addDigits xn0 0 sws0 false Q X) I) :
    ∀ e l (σ : Sg), e ≤ 9 → l ++ dgl v e = L → CW σ pg l → Fr (wcP pg) σ0 σ → I 0 3 [some (.ref 6), some (.int (nI v)), some (.int (nI (10 ^ e)))] [] σ := by
  have pw : ∀ e, e ≤ 9 → 0 < 10 ^ e ∧ 10 ^ e ≤ 1000000000 := fun e he => ⟨Nat.pos_of_ne_zero (by simp), Nat.le_trans (Nat.pow_le_pow_right (by omega) he) (by decide)⟩
  have dig : ∀ e l (σ : Sg), e ≤ 9 → CW σ pg l → Fr (wcP pg) σ0 σ → (∀ τ, CW τ pg (l ++ [48 + v / 10 ^ e % 10]) → Fr (wcP pg) σ0 τ → I 0 30 [some (.ref 6), some (.int (nI v)), some (.int (nI (10 ^ e)))] [] τ) → I 0 17 [some (.ref 6), some (.int (nI v)), some (.int (nI (10 ^ e)))] [] σ := by
    intro e l σ he hw hF hq
    obtain ⟨p1, p2⟩ := pw e he
    refine run_in (stop := fun pc => Nat.beq pc 30) hI 40 ?_
    refine ⟨nI_ne0 p1 (by omega), by decide, Nat.le_refl _, ?_⟩
    show P_X2_add [.ref 6, .int (48 + (nI v / nI (10 ^ e) - nI v / nI (10 ^ e) / 10 * 10))] σ _ _
    have a1 : nI v / nI (10 ^ e) = nI (v / 10 ^ e) := pk_div hv p1 (by omega)
    have a3 : v / 10 ^ e < 2 ^ 31 := Nat.lt_of_le_of_lt (Nat.div_le_self _ _) hv
    have a2 : nI (v / 10 ^ e) - nI (v / 10 ^ e) / 10 * 10 = nI (v / 10 ^ e % 10) := pk_rem (a := v / 10 ^ e) (d := 10) a3 (by omega) (by omega)
    rw [a1, a2, show (48 : Int32) = nI 48 from rfl, nI_add]
    exact sp_X2_add hw (by omega) (fun τ q1 q2 => hq τ q1 (hF.tr q2))
  have nx30 : ∀ u (σ : Sg), u < 2 ^ 31 → I 0 3 [some (.ref 6), some (.int (nI v)), some (.int (nI (u / 10)))] [] σ → I 0 30 [some (.ref 6), some (.int (nI v)), some (.int (nI u))] [] σ := by
    intro u σ hu hq
    refine run_in (stop := fun pc => Nat.beq pc 3) hI 40 ?_
    rw [← pk_div (a := u) (d := 10) hu (by omega) (by omega)] at hq
    exact ⟨by decide, hq⟩
  intro e
  induction e with
  | zero =>
    intro l σ he hL hw hF
    refine run_in (stop := fun pc => Nat.beq pc 17 || Nat.beq pc 30) hI 40 ?_
    refine And.intro (fun z => absurd z (by decide)) (fun _ => ?_)
    have d17 := dig 0 l σ (by omega) hw hF (fun τ q1 q2 => nx30 1 τ (by omega) (by
      refine run_in (stop := fun _ => false) hI 40 ?_
      refine And.intro (fun _ => ?_) (fun z => absurd (by decide) z)
      refine h τ ?_ q2
      rw [Nat.pow_zero, Nat.div_one] at q1
      rw [← hL]
      exact q1))
    refine And.intro (fun _ => d17) (fun _ => ?_)
    exact And.intro (fun z => absurd rfl z) (fun _ => d17)
  | succ e ih =>
    intro l σ he hL hw hF
    obtain ⟨p1, p2⟩ := pw (e + 1) he
    have hdv : 10 ^ (e + 1) / 10 = 10 ^ e := by rw [Nat.pow_succ]; exact Nat.mul_div_cancel _ (by omega)
    have h10 : 10 ≤ 10 ^ (e + 1) := by rw [Nat.pow_succ]; have := (pw e (by omega)).1; omega
    refine run_in (stop := fun pc => Nat.beq pc 17 || Nat.beq pc 30) hI 40 ?_
    refine pk_le (10 ^ (e + 1)) 0 (fun z => by omega) (fun _ => ?_) rfl rfl
    refine pk_le (10 ^ (e + 1)) v (fun g => ?_) (fun g => ?_) rfl rfl
    · refine dig (e + 1) l σ he hw hF (fun τ q1 q2 => nx30 _ τ (by omega) ?_)
      rw [hdv]
      refine ih _ τ (by omega) ?_ q1 q2
      rw [← hL]
      simp only [dgl]
      rw [if_pos g, List.append_assoc]
      rfl
    · refine kne (10 ^ (e + 1)) 1 (fun _ => ?_) (fun z => by omega) rfl rfl
      refine nx30 _ σ (by omega) ?_
      rw [hdv]
      refine ih l σ (by omega) ?_ hw hF
      rw [← hL]
      simp only [dgl]
      rw [if_neg (by omega)]
theorem sp_X2_addDigits {v : Nat} (hv : v < 2 ^ 31) (hw : CW σ pg l) (h : ∀ τ, CW τ pg (l ++ dgl v 9) → Fr (wcP pg) σ τ → Q none τ) : P_X2_addDigits [.ref 6, .int (nI v)] σ Q X := by
  refine ⟨rfl, fun I hI => run_in (stop := fun pc => Nat.beq pc 3) hI 10 ?_⟩
  exact lp_addDigits hv h hI 9 l σ (by omega) rfl hw Fr.rf
/-- numbers -/
theorem neg_l {s : Nat} (hs : s ≤ 2147483647) : (- lN s).toInt32 = - nI s ∧ (- nI s).toInt = - (s : Int) := by
  have h1 : (- lN s).toInt32 = - nI s := by
    rw [Int64.toInt32_neg, lN_i]
  refine ⟨h1, ?_⟩
  have h2 : (nI s).toInt = (s : Int) := nI_toInt (by omega)
  rw [Int32.toInt_neg, h2]
  rw [Int.bmod_eq_of_le (by omega) (by omega)]
def numV (x : Int32) : Prop := ∃ s, s ≤ 2147483647 ∧ (x = nI s ∨ x = (- lN s).toInt32)
theorem abs_n {x : Int32} (h : numV x) : (if 0 ≤ x then x else 0 - x) = nI (mag x) ∧ mag x ≤ 2147483647 ∧ (if x < 0 then - x.toInt64 else x.toInt64) = lN (mag x) := by
  obtain ⟨s, hs, h⟩ := h
  rcases h with rfl | rfl
  · have hm : mag (nI s) = s := by unfold mag; rw [nI_toInt (by omega)]; rfl
    rw [hm, if_pos (nI_pos0 (by omega)), if_neg (nI_pos (by omega)), nI_l (by omega)]
    exact ⟨rfl, hs, rfl⟩
  · obtain ⟨e1, e2⟩ := neg_l hs
    rw [e1]
    have hm : mag (- nI s) = s := by unfold mag; rw [e2]; omega
    rw [hm]
    by_cases h0 : s = 0
    · subst h0
      exact ⟨rfl, hs, rfl⟩
    · have hlt : - nI s < 0 := by rw [Int32.lt_iff_toInt_lt, e2]; show - (s : Int) < 0; omega
      rw [if_neg (Int32.not_le.mpr hlt), if_pos hlt]
      refine ⟨by simp, hs, ?_⟩
      have : (- nI s).toInt64 = - lN s := by
        apply Int64.toInt_inj.mp
        rw [Int32.toInt_toInt64, e2, Int64.toInt_neg, pk_lT (by omega), Int.bmod_eq_of_le (by omega) (by omega)]
      rw [this]
      simp
theorem sp_X2_addInteger {x : Int32} (hx : numV x) (hw : CW σ pg l) (h : ∀ τ, CW τ pg (bt l ++ (sgl x ++ dgl (mag x) 9)) → Fr (wcP pg) σ τ → Q none τ) : P_X2_addInteger [.ref 6, .int x] σ Q X := by
  obtain ⟨a1, a2, -⟩ := abs_n hx
  refine ⟨rfl, fun I hI => run_in (stop := fun _ => false) hI 40 ?_⟩
  refine ⟨Nat.le_refl _, sp_X2_beginToken hw (fun τ1 q1 q2 => ?_)⟩
  refine ⟨Nat.le_refl _, sp_X2_addSign q1 (fun τ2 r1 r2 => ?_)⟩
  refine ⟨Nat.le_refl _, ?_⟩
  refine ⟨Nat.le_refl _, ?_⟩
  show P_X2_addDigits [.ref 6, .int (if 0 ≤ x then x else 0 - x)] τ2 _ _
  rw [a1]
  refine sp_X2_addDigits (by omega) r1 (fun τ3 s1 s2 => ?_)
  rw [List.append_assoc] at s1
  exact h τ3 s1 ((q2.tr r2).tr s2)
end WC
