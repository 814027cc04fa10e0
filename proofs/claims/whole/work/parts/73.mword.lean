/-! ===== PURE: the model's words ===== -/
theorem kne {x y : Int32} {A B : Prop} (a b : Nat) (f : a ≠ b → A) (g : a = b → B) (hx : x = nI a := by rfl) (hy : y = nI b := by rfl) (ha : a < 2 ^ 31 := by omega) (hb : b < 2 ^ 31 := by omega) : (¬ x = y → A) ∧ (x = y → B) := by
  subst hx hy
  rw [nI_eq ha hb]
  exact ⟨f, g⟩
theorem lc_le {a b : Nat} (ha : a < 2 ^ 63) (hb : b < 2 ^ 63) : lg_cmp (lN a) (lN b) ≤ 0 ↔ a ≤ b := by
  unfold lg_cmp
  by_cases h : b < a
  · rw [if_pos ((pk_lLT hb ha).mpr h)]
    exact ⟨fun g => absurd g (by decide), fun g => by omega⟩
  · rw [if_neg (fun g => h ((pk_lLT hb ha).mp g))]
    refine ⟨fun _ => by omega, fun _ => ?_⟩
    split <;> decide
theorem klc {x y : Int64} {A B : Prop} (a b : Nat) (f : a ≤ b → A) (g : b < a → B) (hx : x = lN a := by rfl) (hy : y = lN b := by rfl) (ha : a < 2 ^ 63 := by omega) (hb : b < 2 ^ 63 := by omega) : (lg_cmp x y ≤ 0 → A) ∧ (¬ lg_cmp x y ≤ 0 → B) := by
  subst hx hy
  rw [lc_le ha hb]
  exact ⟨f, fun z => g (by omega)⟩
theorem klg {x y : Int64} {A B : Prop} (a b : Nat) (f : b < a → A) (g : a ≤ b → B) (hx : x = lN a := by rfl) (hy : y = lN b := by rfl) (ha : a < 2 ^ 63 := by omega) (hb : b < 2 ^ 63 := by omega) : (0 < lg_cmp x y → A) ∧ (¬ 0 < lg_cmp x y → B) := by
  subst hx hy
  have := lc_le ha hb
  rw [Int32.not_lt, this]
  refine ⟨fun z => f ?_, g⟩
  have h2 : ¬ lg_cmp (lN a) (lN b) ≤ 0 := Int32.not_le.mpr z
  rw [this] at h2
  omega
def sl (j : Nat) : List Nat := match j with
  | 60 => [110, 117, 108, 108]
  | 61 => [116, 114, 117, 101]
  | 62 => [102, 97, 108, 115, 101]
  | 63 => [82]
  | 64 => [111, 98, 106]
  | 65 => [101, 110, 100, 111, 98, 106]
  | 66 => [115, 116, 114, 101, 97, 109]
  | 67 => [91]
  | 68 => [60, 60]
  | 69 => [32, 82]
  | 70 => [93]
  | 71 => [62, 62]
  | _ => []
theorem sl_ok : ∀ j, j < 72 → 60 ≤ j → lenS.getD (j - 60) 0 = (sl j).length ∧ (∀ i, i < (sl j).length → (bytS.getD (j - 60) []).getD i 0 = nI (gD (sl j) i) ∧ gD (sl j) i < 256) ∧ (sl j).length ≤ 6 := by decide +kernel
section PMW
variable {σ : Sg} {Q : Po} {X : Xo} {n : Nat} {t : Nat → Nat} {l : List Nat}
theorem lp_isWord {j : Nat} (h1 : 60 ≤ j) (h2 : j < 72) (hx : TxM σ l) {I : Jt} (hI : Cl (FM (cutN 68 t_X8_isWord) e_X8_isWord xn0 0 sws0 true Q X) I) :
    ∀ m i is, i + m = l.length → (is = true → l.length = (sl j).length) → (∀ r, r = bI (is && decide (l.drop i = (sl j).drop i)) → Q (some (.int r)) σ) → I 0 28 [some (.ref 7), some (.ref j), some (.int (bI is)), some (.int (nI i))] [] σ := by
  obtain ⟨x1, x2, x3, x4⟩ := hx
  have hk := sl_ok j h2 h1
  intro m
  induction m with
  | zero =>
    intro i is hi hs h
    refine run_in (stop := fun pc => Nat.beq pc 28) hI 40 ?_
    refine pk_le l.length i (fun g => ⟨?_, h _ ?_⟩) (fun g => by omega) x1 rfl
    · cases is <;> first | exact bo1 | exact bo0
    · cases his : is with
      | false => rfl
      | true =>
        rw [List.drop_eq_nil_of_le (by omega), List.drop_eq_nil_of_le (by have := hs his; omega)]
        rfl
  | succ m ih =>
    intro i is hi hs h
    refine run_in (stop := fun pc => Nat.beq pc 28) hI 60 ?_
    refine pk_le l.length i (fun g => by omega) (fun g => ?_) x1 rfl
    refine And.intro (fun g => ⟨?_, h _ ?_⟩) (fun g => ?_)
    · cases is <;> first | exact bo1 | exact bo0
    · rw [bIf g]
      rfl
    · have his := bIt g
      have hl := hs his
      refine ⟨rfl, nI_in (show i < 65536 by omega) (by decide), ?_⟩
      rw [el_nI (by decide) (by omega), x3 i (by omega)]
      refine ⟨Nat.le_refl _, ⟨h1, h2⟩, by rw [hk.1]; exact nI_in (show i < (sl j).length by omega) (by omega), ?_⟩
      have hlt := (hk.2.1 i (by omega)).2
      have ht := x4 i (by omega)
      have d1 := drop_at (l := l) (i := i) (by omega)
      have d2 := drop_at (l := sl j) (i := i) (by omega)
      refine kne (gD l i) (gD (sl j) i) (fun g' => ?_) (fun g' => ?_) rfl (by rw [nI_clamp (by omega)]; exact (hk.2.1 i (by omega)).1)
      · skip
        have := ih (i + 1) false (by omega) (fun h => by cases h) (fun r hr => h r (by rw [hr, d1, d2, his]; simp only [List.cons.injEq, g', false_and, decide_false]; rfl))
        rw [nI_succ] at this
        exact this
      · skip
        have := ih (i + 1) true (by omega) (fun _ => hl) (fun r hr => h r (by rw [hr, d1, d2, his]; simp only [List.cons.injEq, g', true_and]))
        rw [nI_succ] at this
        exact this
theorem sp_X8_isWord {j s : Nat} (h1 : 60 ≤ j) (h2 : j < 72) (hs : σ.1 7 22 = nI s) (hs9 : s ≤ 8) (hx : TxM σ l) (h : ∀ r, r = bI (decide (s = 7 ∧ l = sl j)) → Q (some (.int r)) σ) : P_X8_isWord [.ref 7, .ref j] σ Q X := by
  have x := hx
  obtain ⟨x1, x2, x3, x4⟩ := x
  have hk := sl_ok j h2 h1
  refine ⟨rfl, fun I hI => run_in (stop := fun pc => Nat.beq pc 28) hI 20 ?_⟩
  refine kne s 7 (fun g => ?_) (fun g => ?_) hs rfl
  · exact lp_isWord h1 h2 hx hI l.length 0 false (by omega) (fun h => by cases h) (fun r hr => h r (by rw [hr]; simp [g]))
  · refine ⟨Nat.le_refl _, ⟨h1, h2⟩, ?_⟩
    refine kne l.length (sl j).length (fun g2 => ?_) (fun g2 => ?_) x1 (by rw [hk.1]; rfl)
    · have : ¬ l = sl j := fun e => g2 (by rw [e])
      exact lp_isWord h1 h2 hx hI l.length 0 false (by omega) (fun h => by cases h) (fun r hr => h r (by rw [hr]; simp [this]))
    · exact lp_isWord h1 h2 hx hI l.length 0 true (by omega) (fun _ => g2) (fun r hr => h r (by rw [hr]; simp [g]))
/-- the model's isCount -/
def ixs (most w : Nat) (L : List Nat) : Option Nat := if w ≤ most then ixl most w L else none
theorem ex_isCount {most : Nat} (hm : most ≤ 8388607) {z : Int32} {I : Jt} (hI : Cl (FM (cutN 118 t_X8_isCount) e_X8_isCount xn0 0 sws0 true Q X) I) (is : Bool) (v : Int64) (w : Nat) (hv : is = true → v = lN w ∧ w ≤ 10 * most + 9)
    (h : ∀ o, o = (if is = true then ixs most w [] else none) → Q (some (.int (bI o.isSome))) (sM σ 7 28 (nI (o.getD 0)))) : I 0 80 [some (.ref 7), some (.int (nI most)), some (.int (bI is)), some (.long v), none, some (.int z)] [] σ := by
  refine run_in (stop := fun _ => false) hI 60 ?_
  cases is with
  | false =>
    refine And.intro (fun _ => ?_) (fun g => absurd rfl g)
    refine And.intro (fun _ => ⟨bo0, ?_⟩) (fun g => absurd rfl g)
    exact h none (by simp)
  | true =>
    obtain ⟨rfl, hw⟩ := hv rfl
    refine And.intro (fun g => absurd g (by decide)) (fun _ => ?_)
    refine klg w most (fun g => ?_) (fun g => ?_) rfl (nI_l (by omega))
    · refine And.intro (fun g => absurd g (by decide)) (fun _ => ?_)
      refine klg w most (fun g => ⟨bo0, ?_⟩) (fun g2 => by omega) rfl (nI_l (by omega))
      exact h none (by simp [ixs, Nat.not_le.mpr g])
    · refine And.intro (fun g => absurd g (by decide)) (fun _ => ?_)
      refine klg w most (fun g2 => by omega) (fun g2 => ⟨bo1, ?_⟩) rfl (nI_l (by omega))
      have := h (some w) (by simp [ixs, g, ixl])
      rw [← lN_i] at this
      exact this
theorem lp_isCount {most : Nat} (hm : most ≤ 8388607) (hx : TxM σ l) {I : Jt} (hI : Cl (FM (cutN 118 t_X8_isCount) e_X8_isCount xn0 0 sws0 true Q X) I) :
    ∀ m i is v w, i + m = l.length → (is = true → v = lN w ∧ w ≤ 10 * most + 9) → (∀ o, o = (if is = true then ixs most w (l.drop i) else none) → Q (some (.int (bI o.isSome))) (sM σ 7 28 (nI (o.getD 0)))) → I 0 20 [some (.ref 7), some (.int (nI most)), some (.int (bI is)), some (.long v), none, some (.int (nI i))] [] σ := by
  obtain ⟨x1, x2, x3, x4⟩ := hx
  intro m
  induction m with
  | zero =>
    intro i is v w hi hv h
    refine run_in (stop := fun pc => Nat.beq pc 20 || Nat.beq pc 80) hI 60 ?_
    refine pk_le l.length i (fun g => ?_) (fun g => by omega) x1 rfl
    refine ex_isCount hm hI is v w hv (fun o ho => h o ?_)
    rw [ho, List.drop_eq_nil_of_le (by omega)]
  | succ m ih =>
    intro i is v w hi hv h
    refine run_in (stop := fun pc => Nat.beq pc 20 || Nat.beq pc 80) hI 60 ?_
    refine pk_le l.length i (fun g => by omega) (fun g => ?_) x1 rfl
    refine And.intro (fun g => ?_) (fun g => ?_)
    · have his := bIf g
      refine ex_isCount hm hI is v w hv (fun o ho => h o ?_)
      rw [ho, his]
      rfl
    · have his := bIt g
      obtain ⟨rfl, hw⟩ := hv his
      have ht := x4 i (by omega)
      have d1 := drop_at (l := l) (i := i) (by omega)
      refine ⟨rfl, nI_in (show i < 65536 by omega) (by decide), ?_⟩
      rw [el_nI (by decide) (by omega), x3 i (by omega), ← vI_lt ht]
      refine ⟨Nat.le_refl _, sp_X8_isDigit (by omega) (fun r hr => ?_)⟩
      subst hr
      refine klc w most (fun g1 => ?_) (fun g1 => ?_) rfl (nI_l (by omega))
      · refine ⟨rfl, nI_in (show i < 65536 by omega) (by decide), ?_⟩
        rw [el_nI (by decide) (by omega), x3 i (by omega)]
        cases hd : dg (gD l i) with
        | true =>
          obtain ⟨-, -, e3, e4⟩ := (dv_dg (gD l i) (by omega)).1 hd
          have hE : (10 : Int64) * lN w + (nI (gD l i)).toInt64 - 48 = lN (10 * w + (gD l i - 48)) := by
            rw [nI_l (by omega), show (10 : Int64) = lN 10 from rfl, show (48 : Int64) = lN 48 from rfl, lN_mul, lN_add, lN_sub (by omega)]
            congr 1
            omega
          have := ih (i + 1) true _ (10 * w + (gD l i - 48)) (by omega) (fun _ => ⟨hE, by omega⟩) (fun o ho => h o (by rw [ho, his, d1]; simp [ixs, ixl, g1, hd]))
          rw [nI_succ] at this
          exact this
        | false =>
          have := ih (i + 1) false ((10 : Int64) * lN w + (nI (gD l i)).toInt64 - 48) 0 (by omega) (fun h => by cases h) (fun o ho => h o (by rw [ho, his, d1]; simp [ixs, ixl, hd]))
          rw [nI_succ] at this
          exact this
      · have := ih (i + 1) (dg (gD l i)) (lN w) w (by omega) (fun _ => ⟨rfl, hw⟩) (fun o ho => h o (by rw [ho, his, d1]; simp [ixs, Nat.not_le.mpr g1]))
        rw [nI_succ] at this
        exact this
theorem sp_X8_isCount {most s : Nat} (hm : most ≤ 8388607) (hs : σ.1 7 22 = nI s) (hs9 : s ≤ 8) (hx : TxM σ l) (h : ∀ o, o = (if s = 7 then ixl most 0 l else none) → Q (some (.int (bI o.isSome))) (sM σ 7 28 (nI (o.getD 0)))) : P_X8_isCount [.ref 7, .int (nI most)] σ Q X := by
  refine ⟨rfl, fun I hI => run_in (stop := fun pc => Nat.beq pc 20) hI 20 ?_⟩
  refine kne s 7 (fun g => ?_) (fun g => ?_) hs rfl
  · exact lp_isCount hm hx hI l.length 0 false 0 0 (by omega) (fun h => by cases h) (fun o ho => h o (by rw [ho]; simp [g]))
  · exact lp_isCount hm hx hI l.length 0 true 0 0 (by omega) (fun _ => ⟨rfl, by omega⟩) (fun o ho => h o (by rw [ho]; simp [g, ixs]))
end PMW
