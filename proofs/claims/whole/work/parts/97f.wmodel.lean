/-! ===== PURE: the model writes ===== -/
theorem klt {x y : Int64} {A B : Prop} (a b : Nat) (f : a < b → A) (g : b ≤ a → B) (hx : x = lN a := by rfl) (hy : y = lN b := by rfl) (ha : a < 2 ^ 63 := by omega) (hb : b < 2 ^ 63 := by omega) : (lg_cmp x y < 0 → A) ∧ (¬ lg_cmp x y < 0 → B) := by
  subst hx hy
  unfold lg_cmp
  by_cases h1 : b < a
  · rw [if_pos ((pk_lLT hb ha).mpr h1)]
    exact ⟨fun z => absurd z (by decide), fun _ => g (by omega)⟩
  · rw [if_neg (fun z => h1 ((pk_lLT hb ha).mp z))]
    by_cases h2 : a = b
    · rw [if_pos (by rw [h2])]
      exact ⟨fun z => absurd z (by decide), fun _ => g (by omega)⟩
    · rw [if_neg (fun z => h2 ((pk_lEQ ha hb).mp z))]
      exact ⟨fun _ => f (by omega), fun z => absurd (by decide) z⟩
theorem kl0 {x y : Int64} {A B : Prop} (a b : Nat) (f : a ≠ b → A) (g : a = b → B) (hx : x = lN a := by rfl) (hy : y = lN b := by rfl) (ha : a < 2 ^ 63 := by omega) (hb : b < 2 ^ 63 := by omega) : (¬ lg_cmp x y = 0 → A) ∧ (lg_cmp x y = 0 → B) := by
  subst hx hy
  unfold lg_cmp
  by_cases h1 : b < a
  · rw [if_pos ((pk_lLT hb ha).mpr h1)]
    exact ⟨fun _ => f (by omega), fun z => absurd z (by decide)⟩
  · rw [if_neg (fun z => h1 ((pk_lLT hb ha).mp z))]
    by_cases h2 : a = b
    · rw [if_pos (by rw [h2])]
      exact ⟨fun z => absurd rfl z, fun _ => g h2⟩
    · rw [if_neg (fun z => h2 ((pk_lEQ ha hb).mp z))]
      exact ⟨fun _ => f h2, fun z => absurd z (by decide)⟩
def DW (σ : Sg) (l : List Nat) : Prop := σ.1 7 20 = nI l.length ∧ ∀ i, i < l.length → i < 65536 → σ.1 30 i = nI (gD l i)
def wmP (j k : Nat) : Prop := (j = 7 ∧ k = 20) ∨ j = 30
section WM
variable {σ : Sg} {Q : Po} {X : Xo} {l : List Nat} {S : St}
theorem MS.wm {τ : Sg} (h : MS σ S) (hf : Fr wmP σ τ) : MS τ S := h.fr (hf.2 7 3 (by simp [wmP])) (hf.2 7 9 (by simp [wmP])) (fun j k h1 h2 => hf.2 j k (by simp [wmP]; omega))
theorem sp_X8_put1 {b : Nat} (hw : DW σ l) (hl : l.length < 2000000000) (h : ∀ τ, DW τ (l ++ [b]) → Fr wmP σ τ → Q none τ) : P_X8_put1 [.ref 7, .int (nI b)] σ Q X := by
  obtain ⟨w1, w2⟩ := hw
  refine ⟨rfl, fun I hI => run_in (stop := fun _ => false) hI 40 ?_⟩
  refine pk_le 65536 l.length (fun g => ?_) (fun g => ?_) rfl w1
  · refine h _ ⟨?_, fun i hi h6 => ?_⟩ (Fr.rf.s (by simp [wmP]))
    · rw [sM_s, w1, ← nI_succ]
      simp
    · rw [sM_o (by omega), gD_app, if_pos (by omega)]
      exact w2 i (by omega) h6
  · refine ⟨rfl, pk_in l.length 65536 g w1, ?_⟩
    refine h _ ⟨?_, fun i hi h6 => ?_⟩ ((Fr.rf.s (by simp [wmP])).s (by simp [wmP]))
    · rw [sM_s]
      show (sM σ 30 _ _).1 7 20 + 1 = _
      rw [sM_o (by omega), w1, ← nI_succ]
      simp
    · rw [sM_o (by omega), gD_app, pk_cl l.length w1]
      by_cases hi' : i < l.length
      · rw [if_pos hi', sM_o (by right; omega)]
        exact w2 i hi' h6
      · have : i = l.length := by simp at hi; omega
        subst this
        rw [if_neg hi', if_pos rfl, sM_s]
theorem lp_putWord {σ0 : Sg} {j : Nat} (h1 : 60 ≤ j) (h2 : j < 72) {l0 : List Nat} (hl : l0.length < 1999999000) (h : ∀ τ, DW τ (l0 ++ sl j) → Fr wmP σ0 τ → Q none τ) {I : Jt} (hI : Cl (FM (cutN 26 t_X8_putWord) e_X8_putWord xn0 0 sws0 false Q X) I) :
    ∀ m i (σ : Sg), i + m = (sl j).length → DW σ (l0 ++ (sl j).take i) → Fr wmP σ0 σ → I 0 2 [some (.ref 7), some (.ref j), some (.int (nI i))] [] σ := by
  have hk := sl_ok j h2 h1
  intro m
  induction m with
  | zero =>
    intro i σ hi hw hF
    refine run_in (stop := fun pc => Nat.beq pc 2) hI 40 ?_
    refine ⟨Nat.le_refl _, ⟨h1, h2⟩, ?_⟩
    rw [List.take_of_length_le (by omega)] at hw
    exact pk_le (sl j).length i (fun g => h σ hw hF) (fun g => by omega) (by rw [hk.1]; rfl) rfl
  | succ m ih =>
    intro i σ hi hw hF
    have e1 := (hk.2.1 i (by omega)).1
    refine run_in (stop := fun pc => Nat.beq pc 2) hI 40 ?_
    refine ⟨Nat.le_refl _, ⟨h1, h2⟩, ?_⟩
    refine pk_le (sl j).length i (fun g => by omega) (fun g => ?_) (by rw [hk.1]; rfl) rfl
    refine ⟨Nat.le_refl _, ⟨h1, h2⟩, by rw [hk.1]; exact nI_in (show i < (sl j).length by omega) (by omega), ?_⟩
    refine ⟨Nat.le_refl _, ?_⟩
    show P_X8_put1 [.ref 7, .int ((bytS.getD (j - 60) []).getD (nI i).toNatClampNeg 0)] σ _ _
    rw [nI_clamp (by omega), e1]
    refine sp_X8_put1 hw (by simp only [List.length_append, List.length_take]; omega) (fun τ q1 q2 => ?_)
    have ht : (sl j).take (i + 1) = (sl j).take i ++ [gD (sl j) i] := by
      rw [List.take_succ]
      congr 1
      unfold gD
      rw [List.getElem?_eq_getElem (by omega)]
      simp [List.getD_eq_getElem?_getD, List.getElem?_eq_getElem (show i < (sl j).length by omega)]
    have := ih (i + 1) τ (by omega) (by rw [ht, ← List.append_assoc]; exact q1) (hF.tr q2)
    rw [nI_succ] at this
    exact this
theorem sp_X8_putWord {j : Nat} (h1 : 60 ≤ j) (h2 : j < 72) (hw : DW σ l) (hl : l.length < 1999999000) (h : ∀ τ, DW τ (l ++ sl j) → Fr wmP σ τ → Q none τ) : P_X8_putWord [.ref 7, .ref j] σ Q X := by
  refine ⟨rfl, fun I hI => run_in (stop := fun pc => Nat.beq pc 2) hI 40 ?_⟩
  exact lp_putWord h1 h2 hl h hI (sl j).length 0 σ (by omega) (by rw [List.take_zero, List.append_nil]; exact hw) Fr.rf
theorem pw9 {e : Nat} (he : e ≤ 9) : 0 < 10 ^ e ∧ 10 ^ e ≤ 1000000000 := ⟨Nat.pos_of_ne_zero (by simp), Nat.le_trans (Nat.pow_le_pow_right (by omega) he) (by decide)⟩
theorem lp_pn2 {σ0 : Sg} {v : Nat} {L : List Nat} (hv : v ≤ 2147483647) (hLl : L.length < 1999999000) (h : ∀ τ, DW τ L → Fr wmP σ0 τ → Q none τ) {I : Jt} (hI : Cl (FM (cutN 53 t_X8_putNumber) e_X8_putNumber xn0 0 sws0 false Q X) I) :
    ∀ e l (σ : Sg), e ≤ 9 → l ++ dga v e = L → DW σ l → Fr wmP σ0 σ → I 0 21 [some (.ref 7), some (.long (lN v)), none, some (.long (lN (10 ^ e))), none] [] σ := by
  have step : ∀ e l (σ : Sg), e ≤ 9 → l.length < 1999999000 → DW σ l → Fr wmP σ0 σ → (∀ τ, DW τ (l ++ [48 + v / 10 ^ e % 10]) → Fr wmP σ0 τ → I 0 21 [some (.ref 7), some (.long (lN v)), none, some (.long (lN (10 ^ e / 10))), none] [] τ) → I 0 21 [some (.ref 7), some (.long (lN v)), none, some (.long (lN (10 ^ e))), none] [] σ := by
    intro e l σ he hl hw hF hq
    obtain ⟨p1, p2⟩ := pw9 he
    have a1 : lN v / lN (10 ^ e) = lN (v / 10 ^ e) := pk_lDiv (by omega) p1 (by omega)
    have a3 : v / 10 ^ e ≤ v := Nat.div_le_self _ _
    have a2 : lN (v / 10 ^ e) - lN (v / 10 ^ e) / 10 * 10 = lN (v / 10 ^ e % 10) := pk_lRem (a := v / 10 ^ e) (b := 10) (by omega) (by omega) (by omega)
    have a4 : lN (10 ^ e) / 10 = lN (10 ^ e / 10) := pk_lDiv (a := 10 ^ e) (b := 10) (by omega) (by omega) (by omega)
    refine run_in (stop := fun pc => Nat.beq pc 21) hI 40 ?_
    refine klc (10 ^ e) 0 (fun z => by omega) (fun _ => ?_) rfl rfl
    refine ⟨fun z => absurd ((pk_lEQ (b := 0) (by omega) (by omega)).mp z) (by omega), by decide, Nat.le_refl _, ?_⟩
    show P_X8_put1 [.ref 7, .int (48 + (lN v / lN (10 ^ e) - lN v / lN (10 ^ e) / 10 * 10)).toInt32] σ _ _
    rw [a1, a2, show (48 : Int64) = lN 48 from rfl, lN_add, lN_i]
    refine sp_X8_put1 hw (by omega) (fun τ q1 q2 => ?_)
    have := hq τ q1 (hF.tr q2)
    rw [← a4] at this
    exact ⟨by decide, this⟩
  intro e
  induction e with
  | zero =>
    intro l σ he hL hw hF
    refine step 0 l σ he (by rw [← hL] at hLl; simp at hLl; omega) hw hF (fun τ q1 q2 => ?_)
    refine run_in (stop := fun _ => false) hI 40 ?_
    refine klc 0 0 (fun _ => ?_) (fun z => by omega) rfl rfl
    rw [Nat.pow_zero, Nat.div_one] at q1
    exact h τ (by rw [← hL]; exact q1) q2
  | succ e ih =>
    intro l σ he hL hw hF
    refine step (e + 1) l σ he (by rw [← hL] at hLl; simp at hLl; omega) hw hF (fun τ q1 q2 => ?_)
    rw [show 10 ^ (e + 1) / 10 = 10 ^ e by rw [Nat.pow_succ]; exact Nat.mul_div_cancel _ (by omega)]
    refine ih _ τ (by omega) ?_ q1 q2
    rw [← hL, List.append_assoc]
    rfl
theorem lp_pn1 {σ0 : Sg} {v : Nat} {l : List Nat} (hv : v ≤ 2147483647) (hl : l.length < 1999998000) (h : ∀ τ, DW τ (l ++ dgl v 9) → Fr wmP σ0 τ → Q none τ) {I : Jt} (hI : Cl (FM (cutN 53 t_X8_putNumber) e_X8_putNumber xn0 0 sws0 false Q X) I) (hw : DW σ l) (hF : Fr wmP σ0 σ) :
    ∀ m e, e + m = 9 → (10 ^ e ≤ v ∨ e = 0) → I 0 2 [some (.ref 7), some (.long (lN v)), none, some (.long (lN (10 ^ e))), none] [] σ := by
  have done : ∀ e, e ≤ 9 → (10 ^ e ≤ v ∨ e = 0) → v < 10 ^ (e + 1) → I 0 21 [some (.ref 7), some (.long (lN v)), none, some (.long (lN (10 ^ e))), none] [] σ := by
    intro e he hc hlt
    have hd : dgl v 9 = dga v e := by
      have := dgl_skip (v := v) (e0 := e) hlt (9 - e)
      rw [show e + (9 - e) = 9 by omega] at this
      rw [this, dgl_all e hc]
    rw [hd] at h
    have hlen := dgl_len v 9
    rw [hd] at hlen
    exact lp_pn2 hv (by rw [List.length_append]; omega) h hI e l σ he rfl hw hF
  intro m
  induction m with
  | zero =>
    intro e he hc
    have : e = 9 := by omega
    subst this
    refine run_in (stop := fun pc => Nat.beq pc 2 || Nat.beq pc 21) hI 40 ?_
    refine ⟨by decide, ?_⟩
    have a1 : lN v / lN (10 ^ 9) = lN (v / 10 ^ 9) := pk_lDiv (by omega) (by decide) (by decide)
    refine klt (v / 10 ^ 9) 10 (fun g => done 9 (by omega) hc (by omega)) (fun g => by omega) a1 rfl
  | succ m ih =>
    intro e he hc
    obtain ⟨p1, p2⟩ := pw9 (show e ≤ 9 by omega)
    refine run_in (stop := fun pc => Nat.beq pc 2 || Nat.beq pc 21) hI 40 ?_
    refine ⟨fun z => absurd ((pk_lEQ (b := 0) (by omega) (by omega)).mp z) (by omega), ?_⟩
    have a1 : lN v / lN (10 ^ e) = lN (v / 10 ^ e) := pk_lDiv (by omega) p1 (by omega)
    have a3 : v / 10 ^ e ≤ v := Nat.div_le_self _ _
    have hp : 10 ^ (e + 1) = 10 ^ e * 10 := Nat.pow_succ ..
    refine klt (v / 10 ^ e) 10 (fun g => done e (by omega) hc ?_) (fun g => ?_) a1 rfl
    · rw [hp, Nat.mul_comm]
      exact (Nat.div_lt_iff_lt_mul p1).mp g
    · have := ih (e + 1) (by omega) (Or.inl (by rw [hp, Nat.mul_comm]; exact (Nat.le_div_iff_mul_le p1).mp g))
      rw [hp, Nat.mul_comm, ← lN_mul] at this
      exact this
theorem sp_X8_putNumber {v : Nat} (hv : v ≤ 2147483647) (hw : DW σ l) (hl : l.length < 1999998000) (h : ∀ τ, DW τ (l ++ dgl v 9) → Fr wmP σ τ → Q none τ) : P_X8_putNumber [.ref 7, .long (lN v)] σ Q X := by
  refine ⟨rfl, fun I hI => run_in (stop := fun pc => Nat.beq pc 2) hI 40 ?_⟩
  exact lp_pn1 hv hl h hI hw Fr.rf 9 0 (by omega) (Or.inr rfl)
theorem lp_putReal {σ0 : Sg} {x : Int64} {L : List Nat} (hLl : L.length < 1999999000) (h : ∀ τ, DW τ L → Fr wmP σ0 τ → Q none τ) {I : Jt} (hI : Cl (FM (cutN 69 t_X8_putReal) e_X8_putReal xn0 0 sws0 false Q X) I) :
    ∀ m i r l (σ : Sg), i + m = 16 → r < 65536 → 2 ^ i ∣ r → l ++ frc m r = L → DW σ l → Fr wmP σ0 σ → I 0 33 [some (.ref 7), some (.long x), none, some (.long (lN r)), none] [] σ := by
  intro m
  induction m with
  | zero =>
    intro i r l σ hi hr hdv hL hw hF
    have hi16 : i = 16 := by omega
    subst hi16
    have hr0 : r = 0 := by obtain ⟨c, hc⟩ := hdv; omega
    subst hr0
    refine run_in (stop := fun pc => Nat.beq pc 33) hI 40 ?_
    refine klc 0 0 (fun _ => ?_) (fun z => by omega) rfl rfl
    rw [show l ++ frc 0 0 = l from List.append_nil l] at hL
    exact h σ (by rw [← hL]; exact hw) hF
  | succ m ih =>
    intro i r l σ hi hr hdv hL hw hF
    simp only [frc] at hL
    refine run_in (stop := fun pc => Nat.beq pc 33) hI 40 ?_
    refine klc r 0 (fun g => ?_) (fun g => ?_) rfl rfl
    · rw [if_pos (by omega), List.append_nil] at hL
      exact h σ (by rw [← hL]; exact hw) hF
    · rw [if_neg (by omega)] at hL
      have e1 : (10 : Int64) * lN r = lN (10 * r) := lN_mul 10 r
      have e2 : lN (10 * r) / 65536 = lN (10 * r / 65536) := pk_lDiv (a := 10 * r) (b := 65536) (by omega) (by omega) (by omega)
      have e3 : lN (10 * r) - lN (10 * r) / 65536 * 65536 = lN (10 * r % 65536) := pk_lRem (a := 10 * r) (b := 65536) (by omega) (by omega) (by omega)
      refine ⟨by decide, Nat.le_refl _, ?_⟩
      show P_X8_put1 [.ref 7, .int (48 + (10 * lN r) / 65536).toInt32] σ _ _
      rw [e1, e2, show (48 : Int64) = lN 48 from rfl, lN_add, lN_i]
      refine sp_X8_put1 hw (by rw [← hL] at hLl; simp only [List.length_append, List.length_cons] at hLl; omega) (fun τ q1 q2 => ?_)
      have hd2 : 2 ^ (i + 1) ∣ 10 * r % 65536 := by
        have d1 : 2 ^ (i + 1) ∣ 10 * r := by
          obtain ⟨c, hc⟩ := hdv
          exact ⟨5 * c, by rw [hc, Nat.pow_succ, show 10 * (2 ^ i * c) = 2 ^ i * (2 * (5 * c)) by rw [← Nat.mul_assoc, Nat.mul_comm 10, Nat.mul_assoc]; congr 1; omega, Nat.mul_assoc]⟩
        have d2 : 2 ^ (i + 1) ∣ 65536 := by
          rw [show 65536 = 2 ^ 16 from rfl]
          exact Nat.pow_dvd_pow 2 (by omega)
        exact (Nat.dvd_mod_iff d2).mpr d1
      have := ih (i + 1) (10 * r % 65536) (l ++ [48 + 10 * r / 65536]) τ (by omega) (Nat.mod_lt _ (by omega)) hd2 (by rw [← hL, List.append_assoc]; rfl) q1 (hF.tr q2)
      rw [← e3] at this
      exact ⟨by decide, this⟩
theorem sp_X8_putReal {v : Nat} (hv : v ≤ 2147483647) (hw : DW σ l) (hl : l.length < 1999997000) (h : ∀ τ, DW τ (l ++ (dgl (v / 65536) 9 ++ ([46] ++ frl (v % 65536)))) → Fr wmP σ τ → Q none τ) : P_X8_putReal [.ref 7, .long (lN v)] σ Q X := by
  have e1 : lN v / 65536 = lN (v / 65536) := pk_lDiv (a := v) (b := 65536) (by omega) (by omega) (by omega)
  have e3 : lN v - lN v / 65536 * 65536 = lN (v % 65536) := pk_lRem (a := v) (b := 65536) (by omega) (by omega) (by omega)
  have d1 := dgl_len (v / 65536) 9
  have d2 := frc_len 16 (v % 65536)
  refine ⟨rfl, fun I hI => run_in (stop := fun pc => Nat.beq pc 21) hI 40 ?_⟩
  have m21 : ∀ τ, DW τ (l ++ dgl (v / 65536) 9 ++ [46]) → Fr wmP σ τ → I 0 21 [some (.ref 7), some (.long (lN v)), none, some (.long (lN (v % 65536))), none] [] τ := by
    intro τ q1 q2
    refine run_in (stop := fun pc => Nat.beq pc 33) hI 40 ?_
    refine kl0 (v % 65536) 0 (fun g => ?_) (fun g => ?_) rfl rfl
    · refine lp_putReal (L := l ++ (dgl (v / 65536) 9 ++ ([46] ++ frl (v % 65536)))) ?_ h hI 16 0 (v % 65536) _ τ (by omega) (Nat.mod_lt _ (by omega)) ⟨v % 65536, by omega⟩ (by unfold frl; rw [if_neg g]; simp only [List.append_assoc]) q1 q2
      unfold frl
      rw [if_neg g]
      simp only [List.length_append, List.length_singleton]
      omega
    · refine ⟨Nat.le_refl _, sp_X8_put1 (b := 48) q1 (by simp only [List.length_append, List.length_singleton]; omega) (fun υ r1 r2 => ?_)⟩
      show I 0 33 _ _ _
      rw [g]
      refine run_in (stop := fun _ => false) hI 40 ?_
      refine klc 0 0 (fun _ => ?_) (fun z => by omega) rfl rfl
      refine h υ ?_ (q2.tr r2)
      unfold frl
      rw [if_pos g]
      simp only [List.append_assoc] at r1 ⊢
      exact r1
  refine ⟨by decide, Nat.le_refl _, ?_⟩
  show P_X8_putNumber [.ref 7, .long (lN v / 65536)] σ _ _
  rw [e1]
  refine sp_X8_putNumber (by omega) hw (by omega) (fun τ q1 q2 => ?_)
  refine ⟨Nat.le_refl _, sp_X8_put1 (b := 46) q1 (by simp only [List.length_append]; omega) (fun υ r1 r2 => ?_)⟩
  have := m21 υ r1 (q2.tr r2)
  rw [← e3] at this
  exact ⟨by decide, this⟩
end WM
