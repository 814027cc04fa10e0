/-! ===== PURE: numbers ===== -/
def mnP (x : Nat) : Nat := if 1099511627776 < x then 1099511627776 else x
def mxv (v c : Nat) : Nat := if 2147483647 < v then v else 10 * v + (c - 48)
theorem mnP_b (x : Nat) : (1099511627776 < x ∧ mnP x = 1099511627776) ∨ (x ≤ 1099511627776 ∧ mnP x = x) := by
  unfold mnP
  by_cases q : 1099511627776 < x
  · exact Or.inl ⟨q, if_pos q⟩
  · exact Or.inr ⟨Nat.le_of_not_lt q, if_neg q⟩
theorem mxv_b (v c : Nat) : (2147483647 < v ∧ mxv v c = v) ∨ (v ≤ 2147483647 ∧ mxv v c = 10 * v + (c - 48)) := by
  unfold mxv
  by_cases q : 2147483647 < v
  · exact Or.inl ⟨q, if_pos q⟩
  · exact Or.inr ⟨Nat.le_of_not_lt q, if_neg q⟩
def fA : List Nat → List Nat
  | [] => []
  | c :: l => if c = 46 then [] else c :: fA l
def fB : List Nat → Option (List Nat)
  | [] => none
  | c :: l => if c = 46 then some l else fB l
def ad : List Nat → Bool
  | [] => true
  | c :: l => if dg c = true then ad l else false
/-- the class's way: (point, digits, whole, part) -/
def nu : List Nat → Bool → Nat → Nat → Nat → Nat → Option (Bool × Nat × Nat × Nat)
  | [], pt, d, w, p, _ => some (pt, d, w, p)
  | c :: l, pt, d, w, p, u => if c = 46 ∧ pt = false then nu l true d w p u else if dg c = true then (if pt = true then nu l pt (d + 1) w (p + u * (c - 48)) (u / 10) else nu l pt (d + 1) (mnP (w * 10 + (c - 48))) p u) else none
/-- the model's way -/
def nok : List Nat → Nat → Nat → Bool
  | [], d, p => decide (0 < d ∧ p ≤ 1)
  | c :: l, d, p => if dg c = true then nok l (d + 1) p else if c = 46 then nok l d (p + 1) else false
def mcap : Nat → List Nat → Nat
  | v, [] => v
  | v, c :: l => mcap (mxv v c) l
def ccap : Nat → List Nat → Nat
  | w, [] => w
  | w, c :: l => ccap (mnP (w * 10 + (c - 48))) l
def ps : Nat → List Nat → Nat
  | _, [] => 0
  | u, c :: l => u * (c - 48) + ps (u / 10) l
def pv : Nat → Nat → List Nat → Nat
  | 0, v, _ => v
  | m + 1, v, [] => pv m (10 * v) []
  | m + 1, v, c :: l => pv m (10 * v + (c - 48)) l
theorem dg46 : dg 46 = false := rfl
theorem dg_b : ∀ c, dg c = true → 48 ≤ c ∧ c ≤ 57 := by
  intro c h
  simp [dg] at h
  exact h
theorem ad_c {c : Nat} {l : List Nat} (h : dg c = true) : ad (c :: l) = ad l := if_pos h
theorem ad_n {c : Nat} {l : List Nat} (h : ¬ dg c = true) : ad (c :: l) = false := if_neg h
theorem fA_46 (l : List Nat) : fA (46 :: l) = [] := if_pos rfl
theorem fB_46 (l : List Nat) : fB (46 :: l) = some l := if_pos rfl
theorem fA_n {c : Nat} {l : List Nat} (h : ¬ c = 46) : fA (c :: l) = c :: fA l := if_neg h
theorem fB_n {c : Nat} {l : List Nat} (h : ¬ c = 46) : fB (c :: l) = fB l := if_neg h
theorem nu_t : ∀ l d w p u, nu l true d w p u = if ad l = true then some (true, d + l.length, w, p + ps u l) else none := by
  intro l
  induction l with
  | nil => intro d w p u; rfl
  | cons c l ih =>
    intro d w p u
    rw [nu, if_neg (by simp)]
    by_cases hd : dg c = true
    · rw [if_pos hd, if_pos rfl, ih, ad_c hd, List.length_cons, show d + 1 + l.length = d + (l.length + 1) by omega, Nat.add_assoc]
      rfl
    · rw [if_neg hd, ad_n hd, if_neg (by simp)]
theorem nu_f : ∀ l d w p u, nu l false d w p u = if ad (fA l) = true then (match fB l with
    | none => some (false, d + (fA l).length, ccap w (fA l), p)
    | some B => if ad B = true then some (true, d + (fA l).length + B.length, ccap w (fA l), p + ps u B) else none) else none := by
  intro l
  induction l with
  | nil => intro d w p u; rfl
  | cons c l ih =>
    intro d w p u
    by_cases hc : c = 46
    · subst hc
      rw [nu, if_pos ⟨rfl, rfl⟩, nu_t, fA_46, fB_46]
      rfl
    · rw [nu, if_neg (fun z => hc z.1), fA_n hc, fB_n hc]
      by_cases hd : dg c = true
      · rw [if_pos hd, if_neg (by simp), ih, ad_c hd, List.length_cons, show d + 1 + (fA l).length = d + ((fA l).length + 1) by omega]
        rfl
      · rw [if_neg hd, ad_n hd, if_neg (by simp)]
theorem nok_2 : ∀ l d p, 2 ≤ p → nok l d p = false := by
  intro l
  induction l with
  | nil => intro d p h; simp [nok]; omega
  | cons c l ih =>
    intro d p h
    simp only [nok]
    split
    · exact ih _ _ h
    · split
      · exact ih _ _ (by omega)
      · rfl
theorem nok_1 : ∀ l d, nok l d 1 = (ad l && decide (0 < d + l.length)) := by
  intro l
  induction l with
  | nil => intro d; simp [nok, ad]
  | cons c l ih =>
    intro d
    simp only [nok, ad]
    split
    · rw [ih]
      simp only [List.length_cons]
      congr 2
      simp
      omega
    · split
      · rw [nok_2 _ _ _ (by omega)]
        rfl
      · rfl
theorem nok_0 : ∀ l d, nok l d 0 = (ad (fA l) && (match fB l with
    | none => decide (0 < d + (fA l).length)
    | some B => ad B && decide (0 < d + (fA l).length + B.length))) := by
  intro l
  induction l with
  | nil =>
    intro d
    show decide (0 < d ∧ 0 ≤ 1) = (true && decide (0 < d + 0))
    rw [Bool.true_and, decide_eq_decide]
    omega
  | cons c l ih =>
    intro d
    by_cases hc : c = 46
    · subst hc
      simp only [nok, fA, fB, if_true, dg46, ad]
      rw [if_neg (by simp), nok_1]
      simp
    · simp only [nok, fA, fB, hc, if_false, ad]
      split
      · rw [ih]
        simp only [List.length_cons]
        cases fB l with
        | none => simp only; congr 2; simp; omega
        | some B => simp only; congr 3; simp; omega
      · rfl
theorem cap_eq : ∀ l w v, (w = v ∨ (2147483647 < w ∧ 2147483647 < v)) → w ≤ 1099511627776 → v ≤ 21474836479 → ad l = true → (ccap w l = mcap v l ∨ (2147483647 < ccap w l ∧ 2147483647 < mcap v l)) ∧ ccap w l ≤ 1099511627776 ∧ mcap v l ≤ 21474836479 := by
  intro l
  induction l with
  | nil => intro w v h h1 h2 h3; exact ⟨h, h1, h2⟩
  | cons c l ih =>
    intro w v h h1 h2 h3
    by_cases hd : dg c = true
    · rw [ad_c hd] at h3
      have := dg_b c hd
      have A := mnP_b (w * 10 + (c - 48))
      have B := mxv_b v c
      exact ih (mnP (w * 10 + (c - 48))) (mxv v c) (by omega) (by omega) (by omega) h3
    · rw [ad_n hd] at h3
      cases h3
theorem ps_0 : ∀ l, ps 0 l = 0 := by
  intro l
  induction l with
  | nil => rfl
  | cons c l ih => simp [ps, ih]
def U10 (m : Nat) : Nat := 10 ^ m / 10
theorem U10_s (m : Nat) : U10 (m + 1) = 10 ^ m := by
  unfold U10
  rw [Nat.pow_succ]
  exact Nat.mul_div_cancel _ (by omega)
theorem pv_ps : ∀ m v l, pv m v l = v * 10 ^ m + ps (U10 m) l := by
  intro m
  induction m with
  | zero => intro v l; simp [pv, U10, ps_0]
  | succ m ih =>
    intro v l
    cases l with
    | nil => simp only [pv, ih, ps]; rw [Nat.pow_succ, Nat.add_zero, Nat.add_zero, Nat.mul_comm 10 v, Nat.mul_assoc, Nat.mul_comm 10 (10 ^ m)]
    | cons c l =>
      simp only [pv, ih, ps]
      rw [U10_s, show (10 ^ m) / 10 = U10 m from rfl, Nat.add_mul, Nat.pow_succ, Nat.mul_comm 10 v, Nat.mul_assoc, Nat.mul_comm 10 (10 ^ m), Nat.mul_comm (c - 48) (10 ^ m), Nat.add_assoc]
theorem ps_b : ∀ m l, ad l = true → ps (U10 m) l < 10 ^ m := by
  intro m
  induction m with
  | zero => intro l h; simp [U10, ps_0]
  | succ m ih =>
    intro l h
    cases l with
    | nil => simp only [ps]; exact Nat.pos_of_ne_zero (by simp)
    | cons c l =>
      simp only [ad] at h
      split at h
      · rename_i g
        have hc := dg_b c g
        simp only [ps]
        rw [U10_s, show (10 ^ m) / 10 = U10 m from rfl]
        have h1 := ih l h
        have h2 : 10 ^ m * (c - 48) ≤ 10 ^ m * 9 := Nat.mul_le_mul_left _ (by omega)
        rw [Nat.pow_succ]
        omega
      · cases h
/-- a word as a number: whether it is one; real; its size; sign -/
def sgn (w : List Nat) : Nat := match w with
  | [] => 0
  | c :: _ => if c = 43 ∨ c = 45 then 1 else 0
def bdy (w : List Nat) : List Nat := w.drop (sgn w)
def isN (w : List Nat) : Bool := nok (bdy w) 0 0
def whN (w : List Nat) : Nat := mcap 0 (fA (bdy w))
def rlN (w : List Nat) : Bool := (fB (bdy w)).isSome || decide (2147483647 < whN w)
def rnd (p : Nat) : Nat := (p * 65536 + 500000000) / 1000000000
def szN (w : List Nat) : Nat := if rlN w = true then (if 2147483647 < whN w * 65536 + rnd (ps 100000000 ((fB (bdy w)).getD [])) then 2147483647 else whN w * 65536 + rnd (ps 100000000 ((fB (bdy w)).getD []))) else whN w
def amN (w : List Nat) : Int32 := (if gD w 0 = 45 then - lN (szN w) else lN (szN w)).toInt32
theorem szN_b (w : List Nat) : szN w ≤ 2147483647 := by
  unfold szN
  split
  · split <;> omega
  · rename_i h
    simp [rlN] at h
    omega
/-- what the class finds -/
theorem nu_isN (w : List Nat) : (isN w = false → nu (bdy w) false 0 0 0 100000000 = none ∨ ∃ pt v p, nu (bdy w) false 0 0 0 100000000 = some (pt, 0, v, p)) ∧
    (isN w = true → ∃ d v p, nu (bdy w) false 0 0 0 100000000 = some ((fB (bdy w)).isSome, d, v, p) ∧ 0 < d ∧ (v = whN w ∨ (2147483647 < v ∧ 2147483647 < whN w)) ∧ v ≤ 1099511627776 ∧ p = ps 100000000 ((fB (bdy w)).getD []) ∧ p < 1000000000) := by
  unfold isN whN
  rw [nok_0, nu_f]
  generalize bdy w = b
  cases hA : ad (fA b) with
  | false => simp
  | true =>
    have hc := cap_eq (fA b) 0 0 (Or.inl rfl) (by omega) (by omega) hA
    cases hB : fB b with
    | none =>
      dsimp only
      simp only [if_true, Bool.true_and, Nat.zero_add]
      refine ⟨fun h => Or.inr ?_, fun h => ?_⟩
      · simp at h
        rw [h]
        exact ⟨_, _, _, rfl⟩
      · simp only [decide_eq_true_eq] at h
        exact ⟨_, _, _, rfl, h, hc.1, hc.2.1, by simp [ps], by omega⟩
    | some B =>
      dsimp only
      cases hb : ad B with
      | false => simp
      | true =>
        simp only [if_true, Bool.true_and, Nat.zero_add]
        refine ⟨fun h => Or.inr ?_, fun h => ?_⟩
        · simp only [decide_eq_false_iff_not] at h
          rw [show (fA b).length + B.length = 0 by omega]
          exact ⟨_, _, _, rfl⟩
        · simp only [decide_eq_true_eq] at h
          exact ⟨_, _, _, rfl, h, hc.1, hc.2.1, by simp, ps_b 9 B hb⟩
