/-! ===== PURE: words ===== -/
def sb (t : Nat → Nat) : Nat → Nat → List Nat
  | 0, _ => []
  | m + 1, k => t k :: sb t m (k + 1)
def gD (l : List Nat) (i : Nat) : Nat := l.getD i 0
theorem sb_len (t : Nat → Nat) : ∀ m k, (sb t m k).length = m := by
  intro m
  induction m with
  | zero => intro k; rfl
  | succ m ih => intro k; simp [sb, ih]
theorem sb_get (t : Nat → Nat) : ∀ m k i, i < m → gD (sb t m k) i = t (k + i) := by
  intro m
  induction m with
  | zero => intro k i h; omega
  | succ m ih =>
    intro k i h
    cases i with
    | zero => simp [sb, gD]
    | succ i =>
      simp only [sb, gD, List.getD_cons_succ]
      have := ih (k + 1) i (by omega)
      simp only [gD] at this
      rw [this]
      congr 1
      omega
theorem nI_mul (a b : Nat) : nI a * nI b = nI (a * b) := (Int32.ofNat_mul a b).symm
theorem nI_sub {a b : Nat} (h : a ≤ b) : nI b - nI a = nI (b - a) := by
  have : nI b = nI (b - a) + nI a := by rw [nI_add, Nat.sub_add_cancel h]
  rw [this, Int32.add_sub_cancel]
theorem drop_at {l : List Nat} {i : Nat} (h : i < l.length) : l.drop i = gD l i :: l.drop (i + 1) := by
  rw [List.drop_eq_getElem_cons h]
  simp [gD, h]
/-- the letters of the class's words, of the model's -/
def wl (w : Nat) : List Nat := match w with
  | 40 => [110, 117, 108, 108]
  | 41 => [116, 114, 117, 101]
  | 42 => [102, 97, 108, 115, 101]
  | 43 => [82]
  | 44 => [111, 98, 106]
  | 45 => [101, 110, 100, 111, 98, 106]
  | 46 => [115, 116, 114, 101, 97, 109]
  | _ => []
theorem sp_smax {σ : Sg} {Q : Po} {X : Xo} {x y : Int32} (h : Q (some (.int (if x < y then y else x))) σ) : P_smax [.int x, .int y] σ Q X := h
theorem sp_smin {σ : Sg} {Q : Po} {X : Xo} {x y : Int32} (h : Q (some (.int (if y < x then y else x))) σ) : P_smin [.int x, .int y] σ Q X := h
theorem sp_sabs {σ : Sg} {Q : Po} {X : Xo} {x : Int32} (h : Q (some (.int (if 0 ≤ x then x else 0 - x))) σ) : P_sabs [.int x] σ Q X := h
theorem sp_sminl {σ : Sg} {Q : Po} {X : Xo} {x y : Int64} (h : Q (some (.long (if y < x then y else x))) σ) : P_sminl [.long x, .long y] σ Q X := h
def TxM (σ : Sg) (l : List Nat) : Prop := σ.1 7 26 = nI l.length ∧ l.length ≤ 65536 ∧ (∀ i, i < l.length → σ.1 31 i = nI (gD l i)) ∧ ∀ i, i < l.length → gD l i < 256
section PW
variable {σ : Sg} {Q : Po} {X : Xo} {n : Nat} {t : Nat → Nat}
theorem wl_el : ∀ w, w < 47 → ∀ i, i < (wl w).length → el (fun _ _ => 0, fun _ _ => 0, fun _ => 0) w (nI i) = nI (gD (wl w) i) ∧ gD (wl w) i < 256 := by decide +kernel
theorem lp_isText {w : Nat} (hw : w = 40 ∨ w = 41 ∨ w = 42 ∨ w = 43 ∨ w = 44 ∨ w = 45 ∨ w = 46) {a b : Nat} (hT : TapeC σ n t) (hab : a + (wl w).length ≤ n) {I : Jt} (hI : Cl (FM (cutN 45 t_X5_isText) e_X5_isText xn0 0 sws0 true Q X) I) :
    ∀ m i, i + m = (wl w).length → (∀ r, r = bI (decide (sb t m (a + i) = (wl w).drop i)) → Q (some (.int r)) σ) → I 0 13 [some (.ref 1), some (.int (nI a)), some (.int (nI b)), some (.ref w), some (.int (nI i))] [] σ := by
  have h2 := hT.2.1
  have h4 := hT.2.2.2
  have hL : (wl w).length ≤ 6 := by rcases hw with rfl | rfl | rfl | rfl | rfl | rfl | rfl <;> decide
  have ha : ak w = (4, (wl w).length) := by rcases hw with rfl | rfl | rfl | rfl | rfl | rfl | rfl <;> rfl
  have h50 : Nat.beq w 50 = false := by rcases hw with rfl | rfl | rfl | rfl | rfl | rfl | rfl <;> rfl
  have hel : ∀ i, i < (wl w).length → el σ w (nI i) = nI (gD (wl w) i) ∧ gD (wl w) i < 256 := by
    intro i hi
    have h := wl_el w (by omega) i hi
    unfold el at h ⊢
    rw [if_neg (by omega)] at h ⊢
    exact h
  intro m
  induction m with
  | zero =>
    intro i hi h
    refine run_in (stop := fun pc => Nat.beq pc 13) hI 40 ?_
    show (bif Nat.beq w 50 then _ else _)
    rw [h50]
    refine ⟨by rw [ha]; exact (by decide : ¬ (4 : Nat) = 0), ?_⟩
    show (Int32.ofNat (ak w).2 ≤ nI i → _) ∧ (¬ Int32.ofNat (ak w).2 ≤ nI i → _)
    rw [ha]
    refine And.intro (fun g => ⟨bo1, h _ ?_⟩) (fun g => absurd (nI_le (show (wl w).length ≤ i by omega) (by omega)) g)
    rw [List.drop_eq_nil_of_le (by omega)]
    rfl
  | succ m ih =>
    intro i hi h
    refine run_in (stop := fun pc => Nat.beq pc 13) hI 40 ?_
    show (bif Nat.beq w 50 then _ else _)
    rw [h50]
    refine ⟨by rw [ha]; exact (by decide : ¬ (4 : Nat) = 0), ?_⟩
    show (Int32.ofNat (ak w).2 ≤ nI i → _) ∧ (¬ Int32.ofNat (ak w).2 ≤ nI i → _)
    rw [ha]
    refine And.intro (fun g => absurd ((nI_leI (show (wl w).length < 2 ^ 31 by omega) (show i < 2 ^ 31 by omega)).mp g) (by omega)) (fun g => ?_)
    refine ⟨Nat.le_refl _, ?_⟩
    show P_X5_get [.ref 1, .int (nI a + nI i)] _ _ _
    rw [nI_add]
    refine sp_X5_get hT (by omega) (fun r hr => ?_)
    subst hr
    rw [tg_lt (by omega), vI_lt (h4 _ (by omega))]
    refine ⟨by rw [ha]; exact Or.inr rfl, by rw [ha]; exact nI_in (show i < (wl w).length by omega) (by omega), ?_⟩
    rw [(hel i (by omega)).1]
    have hlt := (hel i (by omega)).2
    have ht := h4 (a + i) (by omega)
    have hd := drop_at (l := wl w) (i := i) (by omega)
    refine And.intro (fun g => ?_) (fun g => ?_)
    · have g' : t (a + i) = gD (wl w) i := (nI_eq (by omega) (by omega)).mp g
      have := ih (i + 1) (by omega) (fun r hr => h r (by rw [hr, hd]; simp only [sb, g']; simp [Nat.add_assoc]))
      rw [nI_succ] at this
      exact this
    · have g' : ¬ t (a + i) = gD (wl w) i := fun e => g (by rw [e])
      refine ⟨bo0, h _ ?_⟩
      rw [hd]
      simp only [sb]
      simp only [List.cons.injEq, g', false_and, decide_false]
      rfl
theorem sp_X5_isText {w : Nat} (hw : w = 40 ∨ w = 41 ∨ w = 42 ∨ w = 43 ∨ w = 44 ∨ w = 45 ∨ w = 46) {a b : Nat} (hT : TapeC σ n t) (hab : a ≤ b) (hb : b ≤ n) (h : ∀ r, r = bI (decide (sb t (b - a) a = wl w)) → Q (some (.int r)) σ) : P_X5_isText [.ref 1, .int (nI a), .int (nI b), .ref w] σ Q X := by
  have h2 := hT.2.1
  have hL : (wl w).length ≤ 6 := by rcases hw with rfl | rfl | rfl | rfl | rfl | rfl | rfl <;> decide
  have ha : ak w = (4, (wl w).length) := by rcases hw with rfl | rfl | rfl | rfl | rfl | rfl | rfl <;> rfl
  have h50 : Nat.beq w 50 = false := by rcases hw with rfl | rfl | rfl | rfl | rfl | rfl | rfl <;> rfl
  have hok : okv 4 5 4 [.ref 1, .int (nI a), .int (nI b), .ref w] = true := rfl
  refine ⟨hok, fun I hI => run_in (stop := fun pc => Nat.beq pc 13) hI 20 ?_⟩
  show (bif Nat.beq w 50 then _ else _)
  rw [h50]
  refine ⟨by rw [ha]; exact (by decide : ¬ (4 : Nat) = 0), ?_⟩
  show (nI b - nI a = Int32.ofNat (ak w).2 → _) ∧ (¬ nI b - nI a = Int32.ofNat (ak w).2 → _)
  rw [ha, nI_sub hab]
  refine And.intro (fun g => ?_) (fun g => ?_)
  · have g' : b - a = (wl w).length := (nI_eq (by omega) (by omega)).mp g
    exact lp_isText hw hT (by omega) hI (wl w).length 0 (by omega) (fun r hr => h r (by rw [hr, g']; rfl))
  · refine ⟨bo0, h _ ?_⟩
    have : ¬ sb t (b - a) a = wl w := by
      intro e
      have := congrArg List.length e
      rw [sb_len] at this
      exact g (by rw [this]; rfl)
    simp [this]
/-- what digits are worth, not above most -/
def ixl (most : Nat) : Nat → List Nat → Option Nat
  | v, [] => some v
  | v, c :: l => if dg c = true then (if 10 * v + (c - 48) ≤ most then ixl most (10 * v + (c - 48)) l else none) else none
def IX (most : Nat) (l : List Nat) : Option Nat := match l with
  | [] => none
  | c :: l => ixl most 0 (c :: l)
def oI (o : Option Nat) : Int32 := match o with
  | some v => nI v
  | none => -1
theorem dv_dg : ∀ b, b < 257 → (dg b = true → wI (dv b) = nI (b - 48) ∧ ¬ wI (dv b) = -1 ∧ b - 48 ≤ 9 ∧ 48 ≤ b) ∧ (dg b = false → wI (dv b) = -1) := by decide +kernel
theorem lp_indexIn {a b most : Nat} (hT : TapeC σ n t) (hb : b ≤ n) (hm : most ≤ 8388607) {I : Jt} (hI : Cl (FM (cutN 62 t_X5_indexIn) e_X5_indexIn xn0 0 sws0 false Q X) I) :
    ∀ m k v s z, k + m = b → (s = nI v ∨ (s = -1 ∧ v = 0 ∧ 0 < m)) → v ≤ most → (∀ r, r = oI (ixl most v (sb t m k)) → Q (some (.int r)) σ) → I 0 6 [some (.ref 1), some (.int (nI a)), some (.int (nI b)), some (.int (nI most)), some (.int s), some (.int (nI k)), z] [] σ := by
  have h2 := hT.2.1
  have h4 := hT.2.2.2
  intro m
  induction m with
  | zero =>
    intro k v s z hk hs hv h
    refine run_in (stop := fun pc => Nat.beq pc 6) hI 40 ?_
    refine And.intro (fun g => h _ ?_) (fun g => absurd (nI_le (show b ≤ k by omega) (by omega)) g)
    rcases hs with rfl | ⟨-, -, h0⟩
    · rfl
    · omega
  | succ m ih =>
    intro k v s z hk hs hv h
    refine run_in (stop := fun pc => Nat.beq pc 6) hI 40 ?_
    refine And.intro (fun g => absurd ((nI_leI (show b < 2 ^ 31 by omega) (show k < 2 ^ 31 by omega)).mp g) (by omega)) (fun g => ?_)
    refine ⟨Nat.le_refl _, sp_X5_get hT (by omega) (fun r hr => ?_)⟩
    subst hr
    rw [tg_lt (by omega)]
    have ht := h4 k (by omega)
    refine ⟨Nat.le_refl _, sp_X0_digitOf (by omega) (fun r hr => ?_)⟩
    subst hr
    obtain ⟨d1, d2⟩ := dv_dg (t k) (by omega)
    refine And.intro (fun g => ?_) (fun g => ?_)
    · have e : dg (t k) = true := by
        cases he : dg (t k) with
        | true => rfl
        | false => exact absurd (d2 he) g
      obtain ⟨e1, -, e3, e4⟩ := d1 e
      rw [e1]
      have hs' : (if s < 0 then 0 else s) = nI v := by
        rcases hs with rfl | ⟨rfl, rfl, -⟩
        · rw [if_neg (nI_pos (by omega))]
        · rfl
      have hE : (if s < 0 then 0 else s) * 10 + nI (t k - 48) = nI (10 * v + (t k - 48)) := by
        rw [hs', show (10 : Int32) = nI 10 from rfl, nI_mul, nI_add, Nat.mul_comm]
      refine ⟨Nat.le_refl _, ?_⟩
      refine And.intro (fun g => ?_) (fun g => ?_)
      · replace g : (if s < 0 then 0 else s) * 10 + nI (t k - 48) ≤ nI most := g
        rw [hE] at g
        have g' := (nI_leI (show 10 * v + (t k - 48) < 2 ^ 31 by omega) (show most < 2 ^ 31 by omega)).mp g
        have := ih (k + 1) _ _ (some (.int (nI (t k - 48)))) (by omega) (Or.inl rfl) g' (fun r hr => h r (by rw [hr]; simp [sb, ixl, e, g']))
        rw [nI_succ, ← hE] at this
        exact this
      · replace g : ¬ (if s < 0 then 0 else s) * 10 + nI (t k - 48) ≤ nI most := g
        rw [hE] at g
        have g' : ¬ 10 * v + (t k - 48) ≤ most := fun h9 => g (nI_le h9 (by omega))
        refine h _ ?_
        simp only [sb, ixl, e, g', if_true, if_false, oI]
    · have e : dg (t k) = false := by
        cases he : dg (t k) with
        | false => rfl
        | true => exact absurd g (d1 he).2.1
      refine h _ ?_
      simp [sb, ixl, e, oI]
theorem sp_X5_indexIn {a b most : Nat} (hT : TapeC σ n t) (hab : a ≤ b) (hb : b ≤ n) (hm : most ≤ 8388607) (h : ∀ r, r = oI (IX most (sb t (b - a) a)) → Q (some (.int r)) σ) : P_X5_indexIn [.ref 1, .int (nI a), .int (nI b), .int (nI most)] σ Q X := by
  have h2 := hT.2.1
  by_cases h0 : a = b
  · subst h0
    refine ⟨rfl, fun I hI => run_in (stop := fun _ => false) hI 20 ?_⟩
    refine And.intro (fun g => h _ ?_) (fun g => absurd (Int32.le_refl _) g)
    rw [Nat.sub_self]
    rfl
  · refine ⟨rfl, fun I hI => run_in (stop := fun pc => Nat.beq pc 6) hI 20 ?_⟩
    refine lp_indexIn hT hb hm hI (b - a) a 0 (-1) none (by omega) (Or.inr ⟨rfl, rfl, by omega⟩) (by omega) (fun r hr => h r ?_)
    rw [hr]
    obtain ⟨d, hd⟩ : ∃ d, b - a = d + 1 := ⟨b - a - 1, by omega⟩
    rw [hd]
    rfl
end PW
