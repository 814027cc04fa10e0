/-! ===== PURE: what is written ===== -/
/-- digits of v from the power e down -/
def dgl (v : Nat) : Nat → List Nat
  | 0 => [48 + v % 10]
  | e + 1 => if 10 ^ (e + 1) ≤ v then (48 + v / 10 ^ (e + 1) % 10) :: dgl v e else dgl v e
/-- .. all of them -/
def dga (v : Nat) : Nat → List Nat
  | 0 => [48 + v % 10]
  | e + 1 => (48 + v / 10 ^ (e + 1) % 10) :: dga v e
theorem dgl_all {v : Nat} : ∀ e, 10 ^ e ≤ v ∨ e = 0 → dgl v e = dga v e := by
  intro e
  induction e with
  | zero => intro h; rfl
  | succ e ih =>
    intro h
    have h : 10 ^ (e + 1) ≤ v := by omega
    simp only [dgl, dga]
    rw [if_pos h, ih (Or.inl (Nat.le_trans (Nat.pow_le_pow_right (by omega) (by omega)) h))]
theorem dgl_skip {v e0 : Nat} (h : v < 10 ^ (e0 + 1)) : ∀ m, dgl v (e0 + m) = dgl v e0 := by
  intro m
  induction m with
  | zero => rfl
  | succ m ih =>
    have : ¬ 10 ^ (e0 + m + 1) ≤ v := by
      have := Nat.pow_le_pow_right (show 10 > 0 by omega) (show e0 + 1 ≤ e0 + m + 1 by omega)
      omega
    show (if 10 ^ (e0 + m + 1) ≤ v then _ else dgl v (e0 + m)) = _
    rw [if_neg this, ih]
theorem dgl_len (v : Nat) : ∀ e, (dgl v e).length ≤ e + 1 := by
  intro e
  induction e with
  | zero => exact Nat.le_refl _
  | succ e ih =>
    simp only [dgl]
    split
    · simp only [List.length_cons]; omega
    · omega
theorem dgl_b (v : Nat) : ∀ e i, i < (dgl v e).length → gD (dgl v e) i < 256 := by
  intro e
  induction e with
  | zero =>
    intro i hi
    have : i = 0 := by simp only [dgl, List.length_singleton] at hi; omega
    subst this
    show 48 + v % 10 < 256
    omega
  | succ e ih =>
    intro i hi
    simp only [dgl] at hi ⊢
    split at hi
    · rename_i g
      rw [if_pos g]
      cases i with
      | zero => show 48 + v / 10 ^ (e + 1) % 10 < 256; omega
      | succ i => exact ih i (by simp only [List.length_cons] at hi; omega)
    · rename_i g
      rw [if_neg g]
      exact ih i hi
/-- a part's digits -/
def frc : Nat → Nat → List Nat
  | 0, _ => []
  | m + 1, r => if r = 0 then [] else (48 + 10 * r / 65536) :: frc m (10 * r % 65536)
def frl (r : Nat) : List Nat := if r = 0 then [48] else frc 16 r
theorem frc_len : ∀ m r, (frc m r).length ≤ m := by
  intro m
  induction m with
  | zero => intro r; exact Nat.le_refl _
  | succ m ih =>
    intro r
    simp only [frc]
    split
    · simp
    · have := ih (10 * r % 65536)
      simp only [List.length_cons]
      omega
/-- hex digits of bytes; a name's bytes -/
def hx2 (b : Nat) : List Nat := [hxd (b / 16), hxd (b % 16)]
def pln1 (b : Nat) : Prop := 33 ≤ b ∧ b ≤ 126 ∧ b ≠ 35 ∧ rg b = true
def nm1 (b : Nat) : List Nat := if 33 ≤ b ∧ b ≤ 126 ∧ b ≠ 35 ∧ rg b = true then [b] else 35 :: hx2 b
/-- the byte at i, as a number below 256 -/
def bt1 (S : St) (i : Nat) : Nat := S.2.2.2 i % 4294967296
theorem nI_mod (b : Nat) : nI b = nI (b % 4294967296) := by
  apply Int32.toBitVec_inj.mp
  show BitVec.ofNat 32 b = BitVec.ofNat 32 (b % 4294967296)
  apply BitVec.eq_of_toNat_eq
  simp
theorem bt1_b {σ : Sg} {S : St} {i : Nat} (hC : CS σ S) (hi : i < S.2.2.1) : bt1 S i < 256 ∧ nI (S.2.2.2 i) = nI (bt1 S i) := by
  refine ⟨?_, nI_mod _⟩
  have h := hC.2.2.2 i hi
  obtain ⟨j, hj, hj2⟩ := pk_andE (σ.1 15 i) (m := 255) 8 (by decide)
  rw [h, nI_mod] at hj2
  have h1 : (nI (bt1 S i)).toBitVec.toNat = bt1 S i := pk_tn (Nat.mod_lt _ (by omega))
  have h2 : (nI j).toBitVec.toNat = j := pk_tn (by omega)
  have : bt1 S i = j := by rw [← h1, ← h2]; exact congrArg (fun z => z.toBitVec.toNat) hj2
  omega
def hxl (S : St) : Nat → Nat → List Nat
  | 0, _ => []
  | m + 1, i => hx2 (bt1 S i) ++ hxl S m (i + 1)
def nml (S : St) : Nat → Nat → List Nat
  | 0, _ => []
  | m + 1, i => nm1 (bt1 S i) ++ nml S m (i + 1)
/-- how big a number is, whether it is below zero -/
def mag (x : Int32) : Nat := x.toInt.natAbs
def sgl (x : Int32) : List Nat := if x < 0 then [45] else []
/-- what a node is written as -/
def pn (S : St) (k : Nat) : List Nat :=
  if S.2.1 0 k = nI 0 then [110, 117, 108, 108] else if S.2.1 0 k = nI 1 then (if S.2.1 1 k = 1 then [116, 114, 117, 101] else [102, 97, 108, 115, 101]) else
  if S.2.1 0 k = nI 2 then sgl (S.2.1 1 k) ++ dgl (mag (S.2.1 1 k)) 9 else
  if S.2.1 0 k = nI 3 then sgl (S.2.1 1 k) ++ (dgl (mag (S.2.1 1 k) / 65536) 9 ++ ([46] ++ frl (mag (S.2.1 1 k) % 65536))) else
  if S.2.1 0 k = nI 4 then [60] ++ (hxl S (S.2.1 1 k).toNatClampNeg (sr S k) ++ [62]) else
  if S.2.1 0 k = nI 5 then [47] ++ nml S (S.2.1 1 k).toNatClampNeg (sr S k) else
  if S.2.1 0 k = nI 6 then [91] else if S.2.1 0 k = nI 7 then [60, 60] else
  dgl (S.2.1 1 k).toNatClampNeg 9 ++ ([32] ++ (dgl (S.2.1 2 k).toNatClampNeg 9 ++ [32, 82]))
def clg (S : St) (c : Nat) : List Nat := if S.2.1 0 c = nI 6 then [32, 93] else [32, 62, 62]
/-- what is closed behind the nodes before b -/
def pel (S : St) (b root : Nat) : Nat → List Nat → List Nat
  | 0, l => l
  | m + 1, l => pel S b root m (if (S.2.1 0 (root + m) = nI 6 ∨ S.2.1 0 (root + m) = nI 7) ∧ en S (root + m) = b then l ++ clg S (root + m) else l)
/-- the class's way: what is open -/
def clo (S : St) (b : Nat) (st : Nat → Nat) : Nat → List Nat → Nat × List Nat
  | 0, l => (0, l)
  | d + 1, l => if b < en S (st d) then (d + 1, l) else clo S b st d (l ++ clg S (st d))
def STK (S : St) (root b m d : Nat) (st : Nat → Nat) : Prop := (∀ i, i < d → root ≤ st i ∧ st i < root + m ∧ cn S (st i) ∧ b ≤ en S (st i) ∧ ∀ j, j < i → st j < st i) ∧ (∀ k, root ≤ k → k < root + m → cn S k → b ≤ en S k → ∃ i, i < d ∧ st i = k)
theorem pel_none {S : St} {b root : Nat} : ∀ m l, (∀ k, root ≤ k → k < root + m → cn S k → en S k ≠ b) → pel S b root m l = l := by
  intro m
  induction m with
  | zero => intro l h; rfl
  | succ m ih =>
    intro l h
    simp only [pel]
    rw [if_neg (fun z => h (root + m) (by omega) (by omega) z.1 z.2)]
    exact ih l (fun k h1 h2 => h k h1 (by omega))
/-- both ways close the same -/
theorem clo_pel {S : St} {b root : Nat} {st : Nat → Nat} (hW : WF S) (hb : b ≤ S.1) : ∀ m d l, root + m ≤ b → STK S root b m d st → (clo S b st d l).2 = pel S b root m l := by
  intro m
  induction m with
  | zero =>
    intro d l hm hs
    cases d with
    | zero => rfl
    | succ d => have := hs.1 d (by omega); omega
  | succ m ih =>
    intro d l hm hs
    obtain ⟨s1, s2⟩ := hs
    have nt : (cn S (root + m) → ¬ b ≤ en S (root + m)) → STK S root b m d st := by
      intro hn
      refine ⟨fun i hi => ?_, fun k h1 h2 h3 h4 => s2 k h1 (by omega) h3 h4⟩
      obtain ⟨a1, a2, a3, a4, a5⟩ := s1 i hi
      refine ⟨a1, ?_, a3, a4, a5⟩
      by_cases e : st i = root + m
      · rw [e] at a3 a4
        exact absurd a4 (hn a3)
      · omega
    by_cases hc : cn S (root + m) ∧ b ≤ en S (root + m)
    · obtain ⟨i, hi, hik⟩ := s2 (root + m) (by omega) (by omega) hc.1 hc.2
      have hid : i = d - 1 := by
        by_cases e : i = d - 1
        · exact e
        · have h1 := (s1 (d - 1) (by omega)).2.1
          have h2 := (s1 (d - 1) (by omega)).2.2.2.2 i (by omega)
          omega
      obtain ⟨d', rfl⟩ : ∃ d', d = d' + 1 := ⟨d - 1, by omega⟩
      have hid : i = d' := by omega
      subst hid
      by_cases e : en S (root + m) = b
      · simp only [clo, pel]
        rw [hik, if_neg (by omega), if_pos ⟨hc.1, e⟩]
        refine ih i _ (by omega) ⟨fun j hj => ?_, fun k h1 h2 h3 h4 => ?_⟩
        · obtain ⟨a1, a2, a3, a4, a5⟩ := s1 j (by omega)
          have := (s1 i (by omega)).2.2.2.2 j hj
          exact ⟨a1, by omega, a3, a4, a5⟩
        · obtain ⟨j, hj, hjk⟩ := s2 k h1 (by omega) h3 h4
          refine ⟨j, ?_, hjk⟩
          by_cases q : j = i
          · rw [q, hik] at hjk; omega
          · omega
      · simp only [clo, pel]
        rw [hik, if_pos (by omega), if_neg (fun z => e z.2)]
        refine (pel_none m l (fun k h1 h2 h3 h4 => ?_)).symm
        have := ((hW (root + m) (by omega)).2.2.1 k (by omega) (by omega)).2.1
        omega
    · have hn : ¬ ((S.2.1 0 (root + m) = nI 6 ∨ S.2.1 0 (root + m) = nI 7) ∧ en S (root + m) = b) := fun z => hc ⟨z.1, by omega⟩
      simp only [pel]
      rw [if_neg hn]
      exact ih d l (by omega) (nt (fun z1 z2 => hc ⟨z1, z2⟩))
/-- what stays open -/
theorem clo_stk {S : St} {b root : Nat} {st : Nat → Nat} (hW : WF S) : ∀ d l, (∀ i, i < d → root ≤ st i ∧ st i < b ∧ b ≤ S.1 ∧ b ≤ en S (st i) ∧ ∀ j, j < i → st j < st i) → (∀ i, i < (clo S b st d l).1 → b < en S (st i)) ∧ (clo S b st d l).1 ≤ d ∧ (∀ i, (clo S b st d l).1 ≤ i → i < d → en S (st i) ≤ b) := by
  intro d
  induction d with
  | zero => intro l h; exact ⟨fun i hi => absurd hi (Nat.not_lt_zero i), Nat.le_refl _, fun i h1 h2 => absurd h2 (Nat.not_lt_zero i)⟩
  | succ d ih =>
    intro l h
    simp only [clo]
    split
    · rename_i g
      refine ⟨fun i hi => ?_, Nat.le_refl _, fun i h1 h2 => absurd h1 (by simp only; omega)⟩
      have hi' : i < d + 1 := hi
      by_cases e : i = d
      · rw [e]; exact g
      · obtain ⟨a1, a2, a3, a6, a4⟩ := h i hi'
        obtain ⟨b1, b2, b3, b6, b4⟩ := h d (by omega)
        have hlt := b4 i (by omega)
        by_cases q : st d < en S (st i)
        · have := ((hW (st d) (by omega)).2.2.1 (st i) hlt q).2.1
          omega
        · omega
    · rename_i g
      have := ih (l ++ clg S (st d)) (fun i hi => h i (by omega))
      refine ⟨this.1, by omega, fun i h1 h2 => ?_⟩
      by_cases e : i = d
      · rw [e]; omega
      · exact this.2.2 i h1 (by omega)
/-- the whole text: nodes from root on -/
def wrl (S : St) (root : Nat) : Nat → List Nat → List Nat
  | 0, l => l
  | m + 1, l => pel S (root + m + 1) root (m + 1) ((if m = 0 then wrl S root m l else wrl S root m l ++ [32]) ++ pn S (root + m))
def WL (S : St) (root : Nat) : List Nat := wrl S root (en S root - root) []
