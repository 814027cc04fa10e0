/-! ===== PURE: numbers, in the model ===== -/
theorem fA_len : ∀ l : List Nat, (fA l).length ≤ l.length ∧ (fB l = none → (fA l).length = l.length) ∧ (∀ B, fB l = some B → (fA l).length < l.length ∧ l.drop ((fA l).length + 1) = B) := by
  intro l
  induction l with
  | nil => simp [fA, fB]
  | cons c l ih =>
    by_cases h : c = 46
    · simp [fA, fB, h]
    · simp only [fA, fB, h, if_false, List.length_cons, List.drop_succ_cons]
      refine ⟨by omega, fun e => by rw [ih.2.1 e], fun B e => ⟨by have := (ih.2.2 B e).1; omega, (ih.2.2 B e).2⟩⟩
theorem fA_at {l : List Nat} {k : Nat} (hk : k < l.length) : fA (l.drop k) = if gD l k = 46 then [] else gD l k :: fA (l.drop (k + 1)) := by
  rw [drop_at hk, fA]
/-- where the point is -/
def pnt (l : List Nat) : Nat := (fA l).length
theorem pnt_sgn (l : List Nat) : pnt l = sgn l + (fA (bdy l)).length := by
  unfold pnt bdy
  cases l with
  | nil => simp [sgn, fA]
  | cons c l =>
    simp only [sgn]
    by_cases h : c = 43 ∨ c = 45
    · simp only [if_pos h, List.drop_succ_cons, List.drop_zero, fA]
      rw [if_neg (by omega)]
      simp only [List.length_cons]
      omega
    · simp only [if_neg h, List.drop_zero, Nat.zero_add]
section MN
variable {σ : Sg} {Q : Po} {X : Xo} {l : List Nat}
theorem ldx {i : Nat} (hx : TxM σ l) (hi : i < l.length) : vp_in (nI i) (ak 31).2 ∧ el σ 31 (nI i) = nI (gD l i) := by
  obtain ⟨x1, x2, x3, x4⟩ := hx
  exact ⟨nI_in (show i < 65536 by omega) (by decide), by rw [el_nI (by decide) (by omega), x3 i hi]⟩
theorem sgn_b (l : List Nat) : sgn l ≤ 1 ∧ sgn l ≤ l.length := by
  cases l with
  | nil => simp [sgn]
  | cons c l => simp only [sgn, List.length_cons]; split <;> omega
theorem sp_X8_signs (hx : TxM σ l) (h : ∀ r, r = nI (sgn l) → Q (some (.int r)) σ) : P_X8_signs [.ref 7] σ Q X := by
  have hl := hx.2.1
  refine ⟨rfl, fun I hI => run_in (stop := fun _ => false) hI 40 ?_⟩
  refine pk_le l.length 0 (fun g => ?_) (fun g => ?_) hx.1 rfl
  · have : l = [] := List.eq_nil_of_length_eq_zero (by omega)
    exact h _ (by rw [this]; rfl)
  · obtain ⟨l1, l2⟩ := ldx (i := 0) hx (by omega)
    have hs : sgn l = if gD l 0 = 43 ∨ gD l 0 = 45 then 1 else 0 := by
      cases l with
      | nil => simp at g
      | cons c l => rfl
    have h0 := hx.2.2.2 0 (by omega)
    refine ⟨rfl, l1, ?_⟩
    show (el σ 31 (nI 0) = 43 → _) ∧ (¬ el σ 31 (nI 0) = 43 → _)
    rw [l2]
    refine pk_eq (gD l 0) 43 (fun g1 => ?_) (fun g1 => ?_) rfl rfl
    · exact h _ (by rw [hs, if_pos (Or.inl g1)]; rfl)
    · refine ⟨rfl, l1, ?_⟩
      show (¬ el σ 31 (nI 0) = 45 → _) ∧ (el σ 31 (nI 0) = 45 → _)
      rw [l2]
      refine kne (gD l 0) 45 (fun g2 => ?_) (fun g2 => ?_) rfl rfl
      · exact h _ (by rw [hs, if_neg (by omega)]; rfl)
      · exact h _ (by rw [hs, if_pos (Or.inr g2)]; rfl)
theorem lp_point (hx : TxM σ l) {I : Jt} (hI : Cl (FM (cutN 29 t_X8_point) e_X8_point xn0 0 sws0 false Q X) I) :
    ∀ m k, k + m = l.length → (∀ r, r = nI (k + (fA (l.drop k)).length) → Q (some (.int r)) σ) → I 0 2 [some (.ref 7), some (.int (nI k))] [] σ := by
  have hl := hx.2.1
  intro m
  induction m with
  | zero =>
    intro k hk h
    refine run_in (stop := fun pc => Nat.beq pc 2) hI 40 ?_
    refine pk_le l.length k (fun g => h _ ?_) (fun g => by omega) hx.1 rfl
    rw [List.drop_eq_nil_of_le (by omega)]
    rfl
  | succ m ih =>
    intro k hk h
    obtain ⟨l1, l2⟩ := ldx (i := k) hx (by omega)
    have h0 := hx.2.2.2 k (by omega)
    have hf := fA_at (l := l) (k := k) (by omega)
    refine run_in (stop := fun pc => Nat.beq pc 2) hI 40 ?_
    refine pk_le l.length k (fun g => by omega) (fun g => ?_) hx.1 rfl
    refine ⟨rfl, l1, ?_⟩
    rw [l2]
    refine pk_eq (gD l k) 46 (fun g1 => ?_) (fun g1 => ?_) rfl rfl
    · exact h _ (by rw [hf, if_pos g1]; rfl)
    · have := ih (k + 1) (by omega) (fun r hr => h r (by rw [hr, hf, if_neg g1]; simp only [List.length_cons]; congr 1; omega))
      rw [nI_succ] at this
      exact this
theorem sp_X8_point (hx : TxM σ l) (h : ∀ r, r = nI (pnt l) → Q (some (.int r)) σ) : P_X8_point [.ref 7] σ Q X := by
  refine ⟨rfl, fun I hI => run_in (stop := fun pc => Nat.beq pc 2) hI 20 ?_⟩
  exact lp_point hx hI l.length 0 (by omega) (fun r hr => h r (by rw [hr, Nat.zero_add]; rfl))
theorem ex_isNumber {d p : Nat} {is : Bool} {k : Int32} (hd : d < 2 ^ 31) (hp : p < 2 ^ 31) {I : Jt} (hI : Cl (FM (cutN 135 t_X8_isNumber) e_X8_isNumber xn0 0 sws0 true Q X) I) (h : ∀ r, r = bI (is && decide (0 < d ∧ p ≤ 1)) → Q (some (.int r)) σ) :
    I 0 116 [some (.ref 7), some (.int (nI d)), some (.int (nI p)), some (.int (bI is)), some (.int k)] [] σ := by
  refine run_in (stop := fun _ => false) hI 40 ?_
  refine And.intro (fun g => ⟨bo0, h _ ?_⟩) (fun g => ?_)
  · rw [bIf g]; rfl
  · have g := bIt g
    refine pk_le d 0 (fun g1 => ⟨bo0, h _ ?_⟩) (fun g1 => ?_) rfl rfl
    · rw [g, decide_eq_false (by omega)]; rfl
    · refine pk_lt 1 p (fun g2 => ⟨bo0, h _ ?_⟩) (fun g2 => ⟨bo1, h _ ?_⟩) rfl rfl
      · rw [g, decide_eq_false (by omega)]; rfl
      · rw [g, decide_eq_true (by omega)]; rfl
theorem lp_isNumber (hx : TxM σ l) {I : Jt} (hI : Cl (FM (cutN 135 t_X8_isNumber) e_X8_isNumber xn0 0 sws0 true Q X) I) :
    ∀ m k d p is, k + m = l.length → d ≤ k → p ≤ k → (∀ r, r = bI (is && nok (l.drop k) d p) → Q (some (.int r)) σ) → I 0 25 [some (.ref 7), some (.int (nI d)), some (.int (nI p)), some (.int (bI is)), some (.int (nI k))] [] σ := by
  have hl := hx.2.1
  intro m
  induction m with
  | zero =>
    intro k d p is hk hd hp h
    refine run_in (stop := fun pc => Nat.beq pc 25 || Nat.beq pc 116) hI 40 ?_
    refine pk_le l.length k (fun g => ?_) (fun g => by omega) hx.1 rfl
    refine ex_isNumber (by omega) (by omega) hI (fun r hr => h r ?_)
    rw [hr, List.drop_eq_nil_of_le (by omega)]
    rfl
  | succ m ih =>
    intro k d p is hk hd hp h
    obtain ⟨l1, l2⟩ := ldx (i := k) hx (by omega)
    have h0 := hx.2.2.2 k (by omega)
    have hdr := drop_at (l := l) (i := k) (by omega)
    refine run_in (stop := fun pc => Nat.beq pc 25 || Nat.beq pc 116) hI 80 ?_
    refine pk_le l.length k (fun g => by omega) (fun g => ?_) hx.1 rfl
    refine And.intro (fun g => ?_) (fun g => ?_)
    · have g := bIf g
      refine ex_isNumber (by omega) (by omega) hI (fun r hr => h r ?_)
      rw [hr, g]
      rfl
    · have g := bIt g
      refine ⟨rfl, l1, ?_⟩
      rw [l2, ← vI_lt h0]
      refine ⟨Nat.le_refl _, sp_X8_isDigit (by omega) (fun r hr => ?_)⟩
      subst hr
      refine And.intro (fun g1 => ?_) (fun g1 => ?_)
      · have g1 := bIf g1
        refine ⟨rfl, l1, ?_⟩
        rw [l2]
        refine kne (gD l k) 46 (fun g2 => ?_) (fun g2 => ?_) rfl rfl
        · refine ⟨rfl, l1, ?_⟩
          rw [l2, ← vI_lt h0]
          refine ⟨Nat.le_refl _, sp_X8_isDigit (by omega) (fun r hr => ?_)⟩
          subst hr
          rw [g1]
          refine And.intro (fun g => absurd rfl g) (fun _ => ?_)
          refine ⟨rfl, l1, ?_⟩
          rw [l2]
          refine kne (gD l k) 46 (fun _ => ?_) (fun g => absurd g g2) rfl rfl
          have := ih (k + 1) d p false (by omega) (by omega) (by omega) (fun r hr => h r (by rw [hr, hdr]; simp [nok, g1, g2]))
          rw [nI_succ] at this
          exact this
        · refine ⟨rfl, l1, ?_⟩
          rw [l2, ← vI_lt h0]
          refine ⟨Nat.le_refl _, sp_X8_isDigit (by omega) (fun r hr => ?_)⟩
          subst hr
          rw [g1]
          refine And.intro (fun g => absurd rfl g) (fun _ => ?_)
          refine ⟨rfl, l1, ?_⟩
          rw [l2]
          refine kne (gD l k) 46 (fun g => absurd g2 g) (fun _ => ?_) rfl rfl
          have := ih (k + 1) d (p + 1) true (by omega) (by omega) (by omega) (fun r hr => h r (by rw [hr, hdr, g]; simp [nok, g2, dg46]))
          rw [nI_succ, nI_succ] at this
          exact this
      · have g1 := bIt g1
        have g2 : ¬ gD l k = 46 := fun z => by rw [z] at g1; cases g1
        refine ⟨rfl, l1, ?_⟩
        rw [l2]
        refine kne (gD l k) 46 (fun _ => ?_) (fun g => absurd g g2) rfl rfl
        refine ⟨rfl, l1, ?_⟩
        rw [l2, ← vI_lt h0]
        refine ⟨Nat.le_refl _, sp_X8_isDigit (by omega) (fun r hr => ?_)⟩
        subst hr
        rw [g1]
        refine And.intro (fun _ => ?_) (fun g => absurd g (by decide))
        have := ih (k + 1) (d + 1) p true (by omega) (by omega) (by omega) (fun r hr => h r (by rw [hr, hdr, g]; simp [nok, g1]))
        rw [nI_succ, nI_succ] at this
        exact this
theorem sp_X8_isNumber {s : Nat} (hs : σ.1 7 22 = nI s) (hs9 : s ≤ 8) (hx : TxM σ l) (h : ∀ r, r = bI (decide (s = 7) && isN l) → Q (some (.int r)) σ) : P_X8_isNumber [.ref 7] σ Q X := by
  have hl := hx.2.1
  have hsb := sgn_b l
  refine ⟨rfl, fun I hI => run_in (stop := fun pc => Nat.beq pc 25) hI 40 ?_⟩
  refine kne s 7 (fun g => ?_) (fun g => ?_) hs rfl
  · refine ⟨Nat.le_refl _, sp_X8_signs hx (fun r hr => ?_)⟩
    subst hr
    exact lp_isNumber hx hI (l.length - sgn l) (sgn l) 0 0 false (by omega) (by omega) (by omega) (fun r hr => h r (by rw [hr]; simp [g]))
  · refine ⟨Nat.le_refl _, sp_X8_signs hx (fun r hr => ?_)⟩
    subst hr
    exact lp_isNumber hx hI (l.length - sgn l) (sgn l) 0 0 true (by omega) (by omega) (by omega) (fun r hr => h r (by rw [hr]; simp [g, isN, bdy]))
theorem lp_whole (hx : TxM σ l) {I : Jt} (hI : Cl (FM (cutN 53 t_X8_whole) e_X8_whole xn0 0 sws0 false Q X) I) :
    ∀ A k v, fA (l.drop k) = A → k + A.length = pnt l → ad A = true → v ≤ 21474836479 → (∀ r, r = lN (mcap v A) → Q (some (.long r)) σ) → I 0 7 [some (.ref 7), some (.long (lN v)), none, some (.int (nI k))] [] σ := by
  have hl := hx.2.1
  have hp : pnt l ≤ l.length := (fA_len l).1
  intro A
  induction A with
  | nil =>
    intro k v hA hk hd hv h
    simp only [List.length_nil] at hk
    refine run_in (stop := fun pc => Nat.beq pc 7) hI 40 ?_
    refine ⟨Nat.le_refl _, sp_X8_point hx (fun r hr => ?_)⟩
    subst hr
    exact pk_le (pnt l) k (fun g => h _ rfl) (fun g => by omega) rfl rfl
  | cons c A ih =>
    intro k v hA hk hd hv h
    simp only [List.length_cons] at hk
    have hkl : k < l.length := by omega
    obtain ⟨l1, l2⟩ := ldx (i := k) hx hkl
    rw [fA_at hkl] at hA
    split at hA
    · cases hA
    · rename_i g46
      simp only [List.cons.injEq] at hA
      obtain ⟨hc, hA⟩ := hA
      simp only [ad] at hd
      split at hd
      · rename_i hdg
        have hcb := dg_b c hdg
        refine run_in (stop := fun pc => Nat.beq pc 7) hI 60 ?_
        refine ⟨Nat.le_refl _, sp_X8_point hx (fun r hr => ?_)⟩
        subst hr
        refine pk_le (pnt l) k (fun g => by omega) (fun g => ?_) rfl rfl
        refine klc v 2147483647 (fun g1 => ?_) (fun g1 => ?_) rfl rfl
        · refine ⟨rfl, l1, ?_⟩
          rw [l2, hc]
          have hE : (10 : Int64) * lN v + (nI c).toInt64 - 48 = lN (10 * v + (c - 48)) := by
            rw [nI_l (by omega), show (10 : Int64) = lN 10 from rfl, show (48 : Int64) = lN 48 from rfl, lN_mul, lN_add, lN_sub (by omega)]
            congr 1
            omega
          have := ih (k + 1) (10 * v + (c - 48)) hA (by omega) hd (by omega) (fun r hr => h r (by rw [hr, mcap, mxv, if_neg (by omega)]))
          rw [nI_succ, ← hE] at this
          exact this
        · have := ih (k + 1) v hA (by omega) hd hv (fun r hr => h r (by rw [hr, mcap, mxv, if_pos g1]))
          rw [nI_succ] at this
          exact this
      · cases hd
theorem sp_X8_whole (hx : TxM σ l) (hd : ad (fA (bdy l)) = true) (h : ∀ r, r = lN (whN l) → Q (some (.long r)) σ) : P_X8_whole [.ref 7] σ Q X := by
  refine ⟨rfl, fun I hI => run_in (stop := fun pc => Nat.beq pc 7) hI 40 ?_⟩
  refine ⟨Nat.le_refl _, sp_X8_signs hx (fun r hr => ?_)⟩
  subst hr
  exact lp_whole hx hI (fA (bdy l)) (sgn l) 0 rfl (pnt_sgn l).symm hd (by omega) h
theorem lp_parts (hx : TxM σ l) (hB : ad (l.drop (pnt l + 1)) = true) {I : Jt} (hI : Cl (FM (cutN 70 t_X8_parts) e_X8_parts xn0 0 sws0 false Q X) I) :
    ∀ m k v z, k + m = 10 → 1 ≤ k → ad (l.drop (pnt l + k)) = true → v < 10 ^ (k - 1) → (∀ r, r = lN ((131072 * pv m v (l.drop (pnt l + k)) + 1000000000) / 2000000000) → Q (some (.long r)) σ) → I 0 4 [some (.ref 7), some (.long (lN v)), none, some (.int (nI k)), z] [] σ := by
  have hl := hx.2.1
  have hp : pnt l ≤ l.length := (fA_len l).1
  intro m
  induction m with
  | zero =>
    intro k v z hk hk1 hd hv h
    have hk9 : k = 10 := by omega
    subst hk9
    refine run_in (stop := fun pc => Nat.beq pc 4) hI 60 ?_
    refine pk_lt 9 10 (fun g => ?_) (fun g => by omega) rfl rfl
    refine ⟨by decide, h _ ?_⟩
    show ((131072 : Int64) * lN v + 1000000000) / 2000000000 = _
    rw [show (131072 : Int64) = lN 131072 from rfl, show (1000000000 : Int64) = lN 1000000000 from rfl, show (2000000000 : Int64) = lN 2000000000 from rfl, lN_mul, lN_add, pk_lDiv (by omega) (by omega) (by omega)]
    rfl
  | succ m ih =>
    intro k v z hk hk1 hd hv h
    have hpow : 10 ^ (k - 1) * 10 = 10 ^ k := by rw [← Nat.pow_succ]; congr 1; omega
    refine run_in (stop := fun pc => Nat.beq pc 4) hI 60 ?_
    refine pk_lt 9 k (fun g => by omega) (fun g => ?_) rfl rfl
    refine ⟨Nat.le_refl _, sp_X8_point hx (fun r hr => ?_)⟩
    subst hr
    refine pk_le l.length (pnt l + k) (fun g => ?_) (fun g => ?_) hx.1 (nI_add _ _)
    · have hdr : l.drop (pnt l + k) = [] := List.drop_eq_nil_of_le (by omega)
      have hdr2 : l.drop (pnt l + (k + 1)) = [] := List.drop_eq_nil_of_le (by omega)
      have := ih (k + 1) (10 * v) (some (.int (nI (pnt l) + nI k))) (by omega) (by omega) (by rw [hdr2]; rfl) (by rw [Nat.add_sub_cancel]; omega) (fun r hr => h r (by rw [hr, hdr, hdr2]; rfl))
      have hE : (10 : Int64) * lN v + 0 = lN (10 * v) := by
        rw [show (10 : Int64) = lN 10 from rfl, show (0 : Int64) = lN 0 from rfl, lN_mul, lN_add, Nat.add_zero]
      rw [nI_succ, ← hE] at this
      exact this
    · obtain ⟨l1, l2⟩ := ldx (i := pnt l + k) hx g
      rw [← nI_add] at l1 l2
      refine ⟨rfl, l1, ?_⟩
      rw [l2]
      rw [drop_at g, Nat.add_assoc] at hd
      simp only [ad] at hd
      split at hd
      · rename_i hdg
        have hcb := dg_b _ hdg
        have hE : (10 : Int64) * lN v + ((nI (gD l (pnt l + k))).toInt64 - 48) = lN (10 * v + (gD l (pnt l + k) - 48)) := by
          rw [nI_l (by omega), show (10 : Int64) = lN 10 from rfl, show (48 : Int64) = lN 48 from rfl, lN_mul, lN_sub (by omega), lN_add]
        have := ih (k + 1) (10 * v + (gD l (pnt l + k) - 48)) (some (.int (nI (pnt l) + nI k))) (by omega) (by omega) hd (by rw [Nat.add_sub_cancel]; omega) (fun r hr => h r (by rw [hr, drop_at g, Nat.add_assoc]; rfl))
        rw [nI_succ, ← hE] at this
        exact this
      · cases hd
theorem isN_ok {l : List Nat} (h : isN l = true) : ad (fA (bdy l)) = true ∧ ad (l.drop (pnt l + 1)) = true ∧ (pnt l = l.length ↔ (fB (bdy l)).isSome = false) ∧ l.drop (pnt l + 1) = (fB (bdy l)).getD [] := by
  unfold isN at h
  rw [nok_0] at h
  have hp := pnt_sgn l
  have hs := sgn_b l
  have hf := fA_len (bdy l)
  have hbl : (bdy l).length = l.length - sgn l := by unfold bdy; simp
  simp only [Bool.and_eq_true] at h
  refine ⟨h.1, ?_⟩
  cases hB : fB (bdy l) with
  | none =>
    have := hf.2.1 hB
    have hd : l.drop (pnt l + 1) = [] := List.drop_eq_nil_of_le (by omega)
    rw [hd]
    refine ⟨rfl, ⟨fun _ => rfl, fun _ => by omega⟩, rfl⟩
  | some B =>
    have q := hf.2.2 B hB
    rw [hB] at h
    simp only [Bool.and_eq_true] at h
    have hd : l.drop (pnt l + 1) = B := by
      rw [← q.2, hp]
      show _ = (l.drop (sgn l)).drop _
      rw [List.drop_drop, Nat.add_assoc]
    rw [hd]
    refine ⟨h.2.1, ⟨fun e => by omega, fun e => by cases e⟩, rfl⟩
theorem rnd_eq (v : Nat) : (131072 * v + 1000000000) / 2000000000 = rnd v := by
  unfold rnd
  rw [show 131072 * v + 1000000000 = 2 * (v * 65536 + 500000000) by omega, show (2000000000 : Nat) = 2 * 1000000000 from rfl, Nat.mul_div_mul_left _ _ (by omega)]
theorem sp_X8_parts (hx : TxM σ l) (hN : isN l = true) (h : ∀ r, r = lN (rnd (ps 100000000 ((fB (bdy l)).getD []))) → Q (some (.long r)) σ) : P_X8_parts [.ref 7] σ Q X := by
  obtain ⟨q1, q2, q3, q4⟩ := isN_ok hN
  refine ⟨rfl, fun I hI => run_in (stop := fun pc => Nat.beq pc 4) hI 40 ?_⟩
  refine lp_parts hx q2 hI 9 1 0 none (by omega) (by omega) q2 (by decide) (fun r hr => h r ?_)
  rw [hr, rnd_eq, pv_ps, q4, Nat.zero_mul, Nat.zero_add]
  rfl
theorem whN_b (h : ad (fA (bdy l)) = true) : whN l ≤ 21474836479 := (cap_eq (fA (bdy l)) 0 0 (Or.inl rfl) (by omega) (by omega) h).2.2
theorem sp_X8_isInteger (hx : TxM σ l) (hN : isN l = true) (h : ∀ r, r = bI (!rlN l) → Q (some (.int r)) σ) : P_X8_isInteger [.ref 7] σ Q X := by
  obtain ⟨q1, q2, q3, q4⟩ := isN_ok hN
  have hl := hx.2.1
  have hp : pnt l ≤ l.length := (fA_len l).1
  have hw := whN_b q1
  refine ⟨rfl, fun I hI => run_in (stop := fun _ => false) hI 40 ?_⟩
  refine ⟨Nat.le_refl _, sp_X8_point hx (fun r hr => ?_)⟩
  subst hr
  refine kne (pnt l) l.length (fun g => ⟨bo0, h _ ?_⟩) (fun g => ?_) rfl hx.1
  · have : (fB (bdy l)).isSome = true := by
      cases hb : (fB (bdy l)).isSome with
      | true => rfl
      | false => exact absurd (q3.mpr hb) g
    rw [rlN, this]
    rfl
  · refine ⟨Nat.le_refl _, sp_X8_whole hx q1 (fun r hr => ?_)⟩
    subst hr
    refine klg (whN l) 2147483647 (fun g1 => ⟨bo0, h _ ?_⟩) (fun g1 => ⟨bo1, h _ ?_⟩) rfl rfl
    · rw [rlN, decide_eq_true g1, Bool.or_true]
      rfl
    · rw [rlN, q3.mp g, decide_eq_false (by omega)]
      rfl
theorem sp_X8_numberValue (hx : TxM σ l) (hN : isN l = true) (h : ∀ r, r = amN l → Q (some (.int r)) σ) : P_X8_numberValue [.ref 7] σ Q X := by
  obtain ⟨q1, q2, q3, q4⟩ := isN_ok hN
  have hl := hx.2.1
  have hw := whN_b q1
  have hl0 : 0 < l.length := by
    cases l with
    | nil => cases hN
    | cons c l => simp
  obtain ⟨l1, l2⟩ := ldx (i := 0) hx hl0
  have h0 := hx.2.2.2 0 hl0
  have fin : ∀ {I : Jt} (hI : Cl (FM (cutN 63 t_X8_numberValue) e_X8_numberValue xn0 0 sws0 false Q X) I) (v : Nat), v < 2 ^ 60 → szN l = (if 2147483647 < v then 2147483647 else v) → I 0 28 [some (.ref 7), some (.long (lN v)), none] [] σ := by
    intro I hI v hv hs
    have fin2 : I 0 44 [some (.ref 7), some (.long (lN (szN l))), none] [] σ := by
      refine run_in (stop := fun _ => false) hI 40 ?_
      refine ⟨rfl, l1, ?_⟩
      show (¬ el σ 31 (nI 0) = 45 → _) ∧ (el σ 31 (nI 0) = 45 → _)
      rw [l2]
      refine kne (gD l 0) 45 (fun g => h _ ?_) (fun g => h _ ?_) rfl rfl
      · rw [amN, if_neg g]
      · rw [amN, if_pos g]
    refine run_in (stop := fun pc => Nat.beq pc 44) hI 40 ?_
    refine klc v 2147483647 (fun g => ?_) (fun g => ?_) rfl rfl
    · rw [hs, if_neg (by omega)] at fin2
      exact fin2
    · rw [hs, if_pos g] at fin2
      exact fin2
  refine ⟨rfl, fun I hI => run_in (stop := fun pc => Nat.beq pc 28) hI 40 ?_⟩
  refine ⟨Nat.le_refl _, sp_X8_isInteger hx hN (fun r hr => ?_)⟩
  subst hr
  refine And.intro (fun g => ?_) (fun g => ?_)
  · have g : rlN l = true := by simpa using bIf g
    refine ⟨Nat.le_refl _, sp_X8_whole hx q1 (fun r hr => ?_)⟩
    subst hr
    refine ⟨Nat.le_refl _, sp_X8_parts hx hN (fun r hr => ?_)⟩
    subst hr
    have hr : rnd (ps 100000000 ((fB (bdy l)).getD [])) ≤ 65536 := by
      have := ps_b 9 ((fB (bdy l)).getD []) (by rw [← q4]; exact q2)
      rw [show U10 9 = 100000000 from rfl] at this
      unfold rnd
      omega
    have := fin hI (whN l * 65536 + rnd (ps 100000000 ((fB (bdy l)).getD []))) (by omega) (by rw [szN, if_pos g])
    rw [← lN_add, ← lN_mul] at this
    exact this
  · have g : rlN l = false := by simpa using bIt g
    refine ⟨Nat.le_refl _, sp_X8_whole hx q1 (fun r hr => ?_)⟩
    subst hr
    exact fin hI (whN l) (by omega) (by
      rw [szN, g, if_neg (by simp)]
      have : ¬ 2147483647 < whN l := fun z => by rw [rlN, decide_eq_true z, Bool.or_true] at g; cases g
      rw [if_neg this])
end MN
