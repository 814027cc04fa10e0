/-! ===== PURE: the class writes nodes ===== -/
def cfr : Nat → Bool → Nat → List Nat
  | 0, _, _ => []
  | m + 1, f, r => if f = true ∨ 0 < r then (48 + r * 10 / 65536) :: cfr m false (r * 10 % 65536) else []
theorem cfr_f : ∀ m r, cfr m false r = frc m r := by
  intro m
  induction m with
  | zero => intro r; rfl
  | succ m ih =>
    intro r
    simp only [cfr, frc]
    by_cases h : r = 0
    · rw [if_neg (by simp; omega), if_pos h]
    · rw [if_pos (Or.inr (by omega)), if_neg h, ih, Nat.mul_comm]
theorem cfr_t (m r : Nat) (h : ¬ r = 0) : cfr (m + 1) true r = frc (m + 1) r := by
  rw [cfr, frc, if_pos (Or.inl rfl), if_neg h, cfr_f, Nat.mul_comm]
theorem cfr_l (r : Nat) : cfr 16 true r = frl r := by
  unfold frl
  by_cases h : r = 0
  · subst h; rfl
  · rw [if_neg h]
    exact cfr_t 15 r h
theorem hxd_b : ∀ d, d < 16 → hxd d < 256 := by decide
section WC2
variable {σ : Sg} {Q : Po} {X : Xo} {pg : Nat} {l : List Nat} {S : St}
theorem lp_addReal {σ0 : Sg} {x am : Int32} {L : List Nat} (h : ∀ τ, CW τ pg L → Fr (wcP pg) σ0 τ → Q none τ) {I : Jt} (hI : Cl (FM (cutN 80 t_X2_addReal) e_X2_addReal xn0 0 sws0 false Q X) I) :
    ∀ m i r l (σ : Sg), i + m = 16 → r < 65536 → l ++ cfr m (decide (i = 0)) r = L → CW σ pg l → Fr (wcP pg) σ0 σ → I 0 36 [some (.ref 6), some (.int x), some (.int am), some (.int (nI r)), some (.int (nI i))] [] σ := by
  intro m
  induction m with
  | zero =>
    intro i r l σ hi hr hL hw hF
    refine run_in (stop := fun pc => Nat.beq pc 36) hI 40 ?_
    refine pk_le 16 i (fun g => ?_) (fun g => by omega) rfl rfl
    rw [show l ++ cfr 0 (decide (i = 0)) r = l from List.append_nil l] at hL
    exact h σ (by rw [← hL]; exact hw) hF
  | succ m ih =>
    intro i r l σ hi hr hL hw hF
    simp only [cfr, decide_eq_true_eq] at hL
    have go : (i = 0 ∨ 0 < r) → I 0 52 [some (.ref 6), some (.int x), some (.int am), some (.int (nI r)), some (.int (nI i))] [] σ := by
      intro hc
      rw [if_pos hc] at hL
      have e1 : nI r * 10 = nI (r * 10) := nI_mul r 10
      have e2 : nI (r * 10) >>> (16 : Int32) = nI (r * 10 / 65536) := pk_shrN (by omega) 16 16 (by decide)
      have e3 : nI (r * 10) &&& 65535 = nI (r * 10 % 65536) := pk_andN (by omega) 16 (by decide)
      refine run_in (stop := fun pc => Nat.beq pc 36) hI 40 ?_
      refine ⟨Nat.le_refl _, ?_⟩
      show P_X2_add [.ref 6, .int (48 + (nI r * 10) >>> (16 : Int32))] σ _ _
      rw [e1, e2, show (48 : Int32) = nI 48 from rfl, nI_add]
      refine sp_X2_add hw (by omega) (fun τ q1 q2 => ?_)
      have := ih (i + 1) (r * 10 % 65536) (l ++ [48 + r * 10 / 65536]) τ (by omega) (Nat.mod_lt _ (by omega)) (by rw [← hL, decide_eq_false (by omega), List.append_assoc]; rfl) q1 (hF.tr q2)
      rw [← e3, nI_succ] at this
      exact this
    refine run_in (stop := fun pc => Nat.beq pc 52) hI 40 ?_
    refine pk_le 16 i (fun g => by omega) (fun g => ?_) rfl rfl
    refine pk_eq i 0 (fun g => go (Or.inl g)) (fun g => ?_) rfl rfl
    refine pk_le r 0 (fun g2 => ?_) (fun g2 => go (Or.inr g2)) rfl rfl
    rw [if_neg (by omega), List.append_nil] at hL
    exact h σ (by rw [← hL]; exact hw) hF
theorem sp_X2_addReal {x : Int32} (hx : numV x) (hw : CW σ pg l) (h : ∀ τ, CW τ pg (bt l ++ (sgl x ++ (dgl (mag x / 65536) 9 ++ ([46] ++ frl (mag x % 65536))))) → Fr (wcP pg) σ τ → Q none τ) : P_X2_addReal [.ref 6, .int x] σ Q X := by
  obtain ⟨a1, a2, -⟩ := abs_n hx
  refine ⟨rfl, fun I hI => run_in (stop := fun pc => Nat.beq pc 5) hI 40 ?_⟩
  have m5 : I 0 5 [some (.ref 6), some (.int x), some (.int (nI (mag x))), none, none] [] σ := by
    have e3 : nI (mag x) &&& 65535 = nI (mag x % 65536) := pk_andN (by omega) 16 (by decide)
    have e2 : nI (mag x) >>> (16 : Int32) = nI (mag x / 65536) := pk_shrN (by omega) 16 16 (by decide)
    refine run_in (stop := fun pc => Nat.beq pc 10) hI 40 ?_
    have m10 : I 0 10 [some (.ref 6), some (.int x), some (.int (nI (mag x))), some (.int (nI (mag x % 65536))), none] [] σ := by
      refine run_in (stop := fun pc => Nat.beq pc 36) hI 40 ?_
      refine ⟨Nat.le_refl _, sp_X2_beginToken hw (fun τ1 q1 q2 => ?_)⟩
      refine ⟨Nat.le_refl _, sp_X2_addSign q1 (fun τ2 r1 r2 => ?_)⟩
      refine ⟨Nat.le_refl _, ?_⟩
      show P_X2_addDigits [.ref 6, .int (nI (mag x) >>> (16 : Int32))] τ2 _ _
      rw [e2]
      refine sp_X2_addDigits (by omega) r1 (fun τ3 s1 s2 => ?_)
      refine ⟨Nat.le_refl _, sp_X2_add (b := 46) s1 (by omega) (fun τ4 t1 t2 => ?_)⟩
      exact lp_addReal (σ0 := σ) h hI 16 0 (mag x % 65536) _ τ4 (by omega) (Nat.mod_lt _ (by omega)) (by rw [decide_eq_true rfl, cfr_l]; simp only [List.append_assoc]) t1 (((q2.tr r2).tr s2).tr t2)
    rw [← e3] at m10
    exact m10
  rw [← a1] at m5
  exact ⟨Nat.le_refl _, m5⟩
theorem lp_addWord {σ0 : Sg} {w : Nat} (hw0 : w = 40 ∨ w = 41 ∨ w = 42 ∨ w = 43) {l0 : List Nat} (h : ∀ τ, CW τ pg (l0 ++ wl w) → Fr (wcP pg) σ0 τ → Q none τ) {I : Jt} (hI : Cl (FM (cutN 26 t_X2_addWord) e_X2_addWord xn0 0 sws0 false Q X) I) :
    ∀ m i (σ : Sg), i + m = (wl w).length → CW σ pg (l0 ++ (wl w).take i) → Fr (wcP pg) σ0 σ → I 0 6 [some (.ref 6), some (.ref w), some (.int (nI i))] [] σ := by
  have hL : (wl w).length ≤ 6 := by rcases hw0 with rfl | rfl | rfl | rfl <;> decide
  have ha : ak w = (4, (wl w).length) := by rcases hw0 with rfl | rfl | rfl | rfl <;> rfl
  have h50 : Nat.beq w 50 = false := by rcases hw0 with rfl | rfl | rfl | rfl <;> rfl
  have hel : ∀ (σ : Sg) i, i < (wl w).length → el σ w (nI i) = nI (gD (wl w) i) ∧ gD (wl w) i < 256 := by
    intro σ i hi
    have h := wl_el w (by omega) i hi
    unfold el at h ⊢
    rw [if_neg (by omega)] at h ⊢
    exact h
  intro m
  induction m with
  | zero =>
    intro i σ hi hw hF
    refine run_in (stop := fun pc => Nat.beq pc 6) hI 40 ?_
    show (bif Nat.beq w 50 then _ else _)
    rw [h50]
    refine ⟨by rw [ha]; exact (by decide : ¬ (4 : Nat) = 0), ?_⟩
    show (Int32.ofNat (ak w).2 ≤ nI i → _) ∧ (¬ Int32.ofNat (ak w).2 ≤ nI i → _)
    rw [ha]
    rw [List.take_of_length_le (by omega)] at hw
    exact And.intro (fun g => h σ hw hF) (fun g => absurd (nI_le (show (wl w).length ≤ i by omega) (by omega)) g)
  | succ m ih =>
    intro i σ hi hw hF
    obtain ⟨e1, e2⟩ := hel σ i (by omega)
    refine run_in (stop := fun pc => Nat.beq pc 6) hI 40 ?_
    show (bif Nat.beq w 50 then _ else _)
    rw [h50]
    refine ⟨by rw [ha]; exact (by decide : ¬ (4 : Nat) = 0), ?_⟩
    show (Int32.ofNat (ak w).2 ≤ nI i → _) ∧ (¬ Int32.ofNat (ak w).2 ≤ nI i → _)
    rw [ha]
    refine And.intro (fun g => absurd ((nI_leI (show (wl w).length < 2 ^ 31 by omega) (show i < 2 ^ 31 by omega)).mp g) (by omega)) (fun g => ?_)
    refine ⟨by rw [ha]; exact Or.inr rfl, by rw [ha]; exact nI_in (show i < (wl w).length by omega) (by omega), ?_⟩
    rw [e1]
    refine ⟨Nat.le_refl _, sp_X2_add hw e2 (fun τ q1 q2 => ?_)⟩
    have ht : (wl w).take (i + 1) = (wl w).take i ++ [gD (wl w) i] := by
      rw [List.take_succ]
      congr 1
      unfold gD
      rw [List.getElem?_eq_getElem (by omega)]
      simp [List.getD_eq_getElem?_getD, List.getElem?_eq_getElem (show i < (wl w).length by omega)]
    have := ih (i + 1) τ (by omega) (by rw [ht, ← List.append_assoc]; exact q1) (hF.tr q2)
    rw [nI_succ] at this
    exact this
theorem sp_X2_addWord {w : Nat} (hw0 : w = 40 ∨ w = 41 ∨ w = 42 ∨ w = 43) (hw : CW σ pg l) (h : ∀ τ, CW τ pg (bt l ++ wl w) → Fr (wcP pg) σ τ → Q none τ) : P_X2_addWord [.ref 6, .ref w] σ Q X := by
  refine ⟨rfl, fun I hI => run_in (stop := fun pc => Nat.beq pc 6) hI 40 ?_⟩
  refine ⟨Nat.le_refl _, sp_X2_beginToken hw (fun τ q1 q2 => ?_)⟩
  exact lp_addWord hw0 h hI (wl w).length 0 τ (by omega) (by rw [List.take_zero, List.append_nil]; exact q1) q2
theorem sp_X2_addHex {b : Nat} (hb : b < 256) (hw : CW σ pg l) (h : ∀ τ, CW τ pg (l ++ hx2 b) → Fr (wcP pg) σ τ → Q none τ) : P_X2_addHex [.ref 6, .int (nI b)] σ Q X := by
  have e1 : nI b >>> (4 : Int32) = nI (b / 16) := pk_shrN (by omega) 4 4 (by decide)
  have e2 : nI (b / 16) &&& 15 = nI (b / 16) := by
    have := pk_andN (n := b / 16) (by omega) (m := 15) 4 (by decide)
    rw [this]
    congr 1
    omega
  have e3 : nI b &&& 15 = nI (b % 16) := pk_andN (by omega) 4 (by decide)
  refine ⟨rfl, fun I hI => run_in (stop := fun _ => false) hI 40 ?_⟩
  refine ⟨Nat.le_refl _, ?_⟩
  show P_X2_hexDigit [.int (nI b >>> (4 : Int32) &&& 15)] σ _ _
  rw [e1, e2]
  refine sp_X2_hexDigit (by omega) (fun r hr => ?_)
  subst hr
  refine ⟨Nat.le_refl _, sp_X2_add hw (hxd_b _ (by omega)) (fun τ q1 q2 => ?_)⟩
  refine ⟨Nat.le_refl _, ?_⟩
  show P_X2_hexDigit [.int (nI b &&& 15)] τ _ _
  rw [e3]
  refine sp_X2_hexDigit (by omega) (fun r hr => ?_)
  subst hr
  refine ⟨Nat.le_refl _, sp_X2_add q1 (hxd_b _ (by omega)) (fun υ r1 r2 => ?_)⟩
  rw [List.append_assoc] at r1
  exact h υ r1 (q2.tr r2)
theorem lp_addString {σ0 : Sg} {k n0 : Nat} {L : List Nat} (hS : SZ S) (hW : WF S) (hk : k < S.1) (tk : tx S k) (ln : S.2.1 1 k = nI n0) (hln : sr S k + n0 ≤ S.2.2.1) (h : ∀ τ, CW τ pg L → Fr (wcP pg) σ0 τ → Q none τ) {I : Jt} (hI : Cl (FM (cutN 50 t_X2_addString) e_X2_addString xn0 0 sws0 false Q X) I) :
    ∀ m i l (σ : Sg), i + m = n0 → l ++ (hxl S m (sr S k + i) ++ [62]) = L → CS σ S → CW σ pg l → Fr (wcP pg) σ0 σ → I 0 12 [some (.ref 6), some (.int (nI k)), some (.int (nI i))] [] σ := by
  have hz := hS.2
  intro m
  induction m with
  | zero =>
    intro i l σ hi hL hC hw hF
    refine run_in (stop := fun pc => Nat.beq pc 12) hI 40 ?_
    refine ⟨Nat.le_refl _, sp_X4_valueOf hC hS hk (fun r hr => ?_)⟩
    subst hr
    refine pk_le n0 i (fun g => ?_) (fun g => by omega) ln rfl
    exact ⟨Nat.le_refl _, sp_X2_add (b := 62) hw (by omega) (fun τ q1 q2 => h τ (by rw [← hL]; exact q1) (hF.tr q2))⟩
  | succ m ih =>
    intro i l σ hi hL hC hw hF
    obtain ⟨b1, b2⟩ := bt1_b (i := sr S k + i) hC (by omega)
    refine run_in (stop := fun pc => Nat.beq pc 12) hI 40 ?_
    refine ⟨Nat.le_refl _, sp_X4_valueOf hC hS hk (fun r hr => ?_)⟩
    subst hr
    refine pk_le n0 i (fun g => by omega) (fun g => ?_) ln rfl
    refine ⟨Nat.le_refl _, sp_X4_byteOf hC hS hW hk (fun r hr => ?_)⟩
    rw [byA_in tk ln (by omega) (by omega), b2] at hr
    subst hr
    refine ⟨Nat.le_refl _, sp_X2_addHex b1 hw (fun τ q1 q2 => ?_)⟩
    have := ih (i + 1) _ τ (by omega) (by rw [← hL]; simp only [hxl, List.append_assoc]; rfl) (hC.wc hw.2.1 q2) q1 (hF.tr q2)
    rw [nI_succ] at this
    exact this
theorem sp_X2_addString {k n0 : Nat} (hC : CS σ S) (hS : SZ S) (hW : WF S) (hk : k < S.1) (tk : tx S k) (ln : S.2.1 1 k = nI n0) (hln : sr S k + n0 ≤ S.2.2.1) (hw : CW σ pg l) (h : ∀ τ, CW τ pg (bt l ++ ([60] ++ (hxl S n0 (sr S k) ++ [62]))) → Fr (wcP pg) σ τ → Q none τ) : P_X2_addString [.ref 6, .int (nI k)] σ Q X := by
  refine ⟨rfl, fun I hI => run_in (stop := fun pc => Nat.beq pc 12) hI 40 ?_⟩
  refine ⟨Nat.le_refl _, sp_X2_beginToken hw (fun τ1 q1 q2 => ?_)⟩
  refine ⟨Nat.le_refl _, sp_X2_add (b := 60) q1 (by omega) (fun τ2 r1 r2 => ?_)⟩
  exact lp_addString hS hW hk tk ln hln h hI n0 0 _ τ2 (by omega) (by simp only [List.append_assoc]; rfl) ((hC.wc hw.2.1 q2).wc hw.2.1 r2) r1 (q2.tr r2)
theorem lp_addName {σ0 : Sg} {k n0 : Nat} {L : List Nat} (hS : SZ S) (hW : WF S) (hk : k < S.1) (tk : tx S k) (ln : S.2.1 1 k = nI n0) (hln : sr S k + n0 ≤ S.2.2.1) (h : ∀ τ, CW τ pg L → Fr (wcP pg) σ0 τ → Q none τ) {I : Jt} (hI : Cl (FM (cutN 85 t_X2_addName) e_X2_addName xn0 0 sws0 false Q X) I) :
    ∀ m i l z (σ : Sg), i + m = n0 → l ++ nml S m (sr S k + i) = L → CS σ S → CW σ pg l → Fr (wcP pg) σ0 σ → I 0 12 [some (.ref 6), some (.int (nI k)), some (.int (nI i)), z] [] σ := by
  have hz := hS.2
  intro m
  induction m with
  | zero =>
    intro i l z σ hi hL hC hw hF
    refine run_in (stop := fun pc => Nat.beq pc 12) hI 40 ?_
    refine ⟨Nat.le_refl _, sp_X4_valueOf hC hS hk (fun r hr => ?_)⟩
    subst hr
    refine pk_le n0 i (fun g => ?_) (fun g => by omega) ln rfl
    rw [show l ++ nml S 0 (sr S k + i) = l from List.append_nil l] at hL
    exact h σ (by rw [← hL]; exact hw) hF
  | succ m ih =>
    intro i l z σ hi hL hC hw hF
    obtain ⟨b1, b2⟩ := bt1_b (i := sr S k + i) hC (by omega)
    generalize hb : bt1 S (sr S k + i) = b at b1 b2
    simp only [nml] at hL
    rw [hb] at hL
    have nxt : ∀ τ, CW τ pg (l ++ nm1 b) → Fr (wcP pg) σ τ → I 0 78 [some (.ref 6), some (.int (nI k)), some (.int (nI i)), some (.int (nI b))] [] τ := by
      intro τ q1 q2
      refine run_in (stop := fun pc => Nat.beq pc 12) hI 40 ?_
      have := ih (i + 1) _ (some (.int (nI b))) τ (by omega) (by rw [← hL]; simp only [List.append_assoc]; rfl) (hC.wc hw.2.1 q2) q1 (hF.tr q2)
      rw [nI_succ] at this
      exact this
    have hexy : ¬ (33 ≤ b ∧ b ≤ 126 ∧ b ≠ 35 ∧ rg b = true) → I 0 67 [some (.ref 6), some (.int (nI k)), some (.int (nI i)), some (.int (nI b))] [] σ := by
      intro hc
      have hn : nm1 b = 35 :: hx2 b := if_neg hc
      rw [hn] at nxt
      refine run_in (stop := fun pc => Nat.beq pc 78) hI 40 ?_
      refine ⟨Nat.le_refl _, sp_X2_add (b := 35) hw (by omega) (fun τ q1 q2 => ?_)⟩
      refine ⟨Nat.le_refl _, sp_X2_addHex b1 q1 (fun υ r1 r2 => ?_)⟩
      rw [List.append_assoc] at r1
      exact nxt υ r1 (q2.tr r2)
    refine run_in (stop := fun pc => Nat.beq pc 67 || Nat.beq pc 78) hI 60 ?_
    refine ⟨Nat.le_refl _, sp_X4_valueOf hC hS hk (fun r hr => ?_)⟩
    subst hr
    refine pk_le n0 i (fun g => by omega) (fun g => ?_) ln rfl
    refine ⟨Nat.le_refl _, sp_X4_byteOf hC hS hW hk (fun r hr => ?_)⟩
    rw [byA_in tk ln (by omega) (by omega), b2] at hr
    subst hr
    refine pk_lt b 33 (fun g1 => hexy (by omega)) (fun g1 => ?_) rfl rfl
    refine pk_lt 126 b (fun g2 => hexy (by omega)) (fun g2 => ?_) rfl rfl
    refine pk_eq b 35 (fun g3 => hexy (by omega)) (fun g3 => ?_) rfl rfl
    refine ⟨Nat.le_refl _, ?_⟩
    show P_X0_isRegular [.int (nI b)] σ _ _
    rw [← vI_lt b1]
    refine sp_X0_isRegular (by omega) (fun r hr => ?_)
    subst hr
    refine And.intro (fun g4 => ?_) (fun g4 => ?_)
    · rw [vI_lt b1]
      exact hexy (fun y => by rw [bIf g4] at y; cases y.2.2.2)
    · have hn : nm1 b = [b] := if_pos ⟨g1, g2, g3, bIt g4⟩
      rw [hn] at nxt
      rw [vI_lt b1]
      exact ⟨Nat.le_refl _, sp_X2_add hw b1 (fun τ q1 q2 => nxt τ q1 q2)⟩
theorem sp_X2_addName {k n0 : Nat} (hC : CS σ S) (hS : SZ S) (hW : WF S) (hk : k < S.1) (tk : tx S k) (ln : S.2.1 1 k = nI n0) (hln : sr S k + n0 ≤ S.2.2.1) (hw : CW σ pg l) (h : ∀ τ, CW τ pg (bt l ++ ([47] ++ nml S n0 (sr S k))) → Fr (wcP pg) σ τ → Q none τ) : P_X2_addName [.ref 6, .int (nI k)] σ Q X := by
  refine ⟨rfl, fun I hI => run_in (stop := fun pc => Nat.beq pc 12) hI 40 ?_⟩
  refine ⟨Nat.le_refl _, sp_X2_beginToken hw (fun τ1 q1 q2 => ?_)⟩
  refine ⟨Nat.le_refl _, sp_X2_add (b := 47) q1 (by omega) (fun τ2 r1 r2 => ?_)⟩
  exact lp_addName hS hW hk tk ln hln h hI n0 0 _ none τ2 (by omega) (by simp only [List.append_assoc]; rfl) ((hC.wc hw.2.1 q2).wc hw.2.1 r2) r1 (q2.tr r2)
theorem sp_X2_addBracket {b : Nat} (hb : b < 256) (hw : CW σ pg l) (h : ∀ τ, CW τ pg (bt l ++ (if b = 60 ∨ b = 62 then [b, b] else [b])) → Fr (wcP pg) σ τ → Q none τ) : P_X2_addBracket [.ref 6, .int (nI b)] σ Q X := by
  refine ⟨rfl, fun I hI => run_in (stop := fun _ => false) hI 40 ?_⟩
  refine ⟨Nat.le_refl _, sp_X2_beginToken hw (fun τ1 q1 q2 => ?_)⟩
  refine ⟨Nat.le_refl _, sp_X2_add q1 hb (fun τ2 r1 r2 => ?_)⟩
  have two : (b = 60 ∨ b = 62) → ∀ υ, CW υ pg (bt l ++ [b] ++ [b]) → Fr (wcP pg) τ2 υ → Q none υ := by
    intro e υ s1 s2
    rw [if_pos e] at h
    rw [List.append_assoc] at s1
    exact h υ s1 ((q2.tr r2).tr s2)
  refine pk_eq b 60 (fun g => ⟨Nat.le_refl _, sp_X2_add r1 hb (two (Or.inl g))⟩) (fun g => ?_) rfl rfl
  refine kne b 62 (fun g2 => ?_) (fun g2 => ⟨Nat.le_refl _, sp_X2_add r1 hb (two (Or.inr g2))⟩) rfl rfl
  rw [if_neg (by omega)] at h
  exact h τ2 r1 (q2.tr r2)
end WC2
