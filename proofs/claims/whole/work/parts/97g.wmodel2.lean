/-! ===== PURE: the model writes nodes ===== -/
def tx1 (nm : Bool) (b : Nat) : List Nat := if nm = true then nm1 b else hx2 b
def txl (nm : Bool) (S : St) : Nat → Nat → List Nat
  | 0, _ => []
  | m + 1, i => tx1 nm (bt1 S i) ++ txl nm S m (i + 1)
theorem txl_t (S : St) : ∀ m i, txl true S m i = nml S m i := by
  intro m
  induction m with
  | zero => intro i; rfl
  | succ m ih => intro i; simp only [txl, nml, tx1, if_true, ih]
theorem txl_f (S : St) : ∀ m i, txl false S m i = hxl S m i := by
  intro m
  induction m with
  | zero => intro i; rfl
  | succ m ih =>
    intro i
    simp only [txl, hxl, ih]
    rfl
theorem tx1_len (nm : Bool) (b : Nat) : (tx1 nm b).length ≤ 3 := by
  unfold tx1 nm1 hx2
  split
  · split <;> simp
  · simp
theorem txl_len (nm : Bool) (S : St) : ∀ m i, (txl nm S m i).length ≤ 3 * m := by
  intro m
  induction m with
  | zero => intro i; simp [txl]
  | succ m ih =>
    intro i
    have h1 := ih (i + 1)
    have h2 := tx1_len nm (bt1 S i)
    simp only [txl, List.length_append]
    omega
theorem m1_sub (x : Int32) : x + (-1) = x - 1 := by rw [Int32.sub_eq_add_neg]
section WM2
variable {σ : Sg} {Q : Po} {X : Xo} {l : List Nat} {S : St}
theorem hx_val {d : Nat} (hd : d < 16) : (¬ 10 ≤ d → hxd d = 48 + d) ∧ (10 ≤ d → hxd d = 55 + d) := by
  unfold hxd
  constructor
  · intro h
    rw [show Nat.ble d 9 = true from Nat.ble_eq.mpr (by omega)]
    rfl
  · intro h
    rw [show Nat.ble d 9 = false by rw [← Bool.not_eq_true, Nat.ble_eq]; omega]
    rfl
theorem sp_X8_putHex {b : Nat} (hb : b < 256) (hw : DW σ l) (hl : l.length < 1999997000) (h : ∀ τ, DW τ (l ++ hx2 b) → Fr wmP σ τ → Q none τ) : P_X8_putHex [.ref 7, .int (nI b)] σ Q X := by
  have e1 : nI b / 16 = nI (b / 16) := pk_div (a := b) (d := 16) (by omega) (by omega) (by omega)
  have e2 : nI b - nI b / 16 * 16 = nI (b % 16) := pk_rem (a := b) (d := 16) (by omega) (by omega) (by omega)
  have v1 := hx_val (d := b / 16) (by omega)
  have v2 := hx_val (d := b % 16) (by omega)
  refine ⟨rfl, fun I hI => run_in (stop := fun pc => Nat.beq pc 10) hI 40 ?_⟩
  have m10 : I 0 10 [some (.ref 7), some (.int (nI b)), some (.int (nI (b / 16))), some (.int (nI (b % 16)))] [] σ := by
    have two : ∀ τ, DW τ (l ++ [hxd (b / 16)]) → Fr wmP σ τ → I 0 31 [some (.ref 7), some (.int (nI b)), some (.int (nI (b / 16))), some (.int (nI (b % 16)))] [] τ := by
      intro τ q1 q2
      have fin : ∀ υ, DW υ (l ++ [hxd (b / 16)] ++ [hxd (b % 16)]) → Fr wmP τ υ → Q none υ := by
        intro υ r1 r2
        rw [List.append_assoc] at r1
        exact h υ r1 (q2.tr r2)
      refine run_in (stop := fun _ => false) hI 40 ?_
      refine pk_le 10 (b % 16) (fun g => ?_) (fun g => ?_) rfl rfl
      · refine ⟨Nat.le_refl _, ?_⟩
        show P_X8_put1 [.ref 7, .int (55 + nI (b % 16))] τ _ _
        rw [show (55 : Int32) = nI 55 from rfl, nI_add, ← v2.2 g]
        exact sp_X8_put1 q1 (by simp only [List.length_append, List.length_singleton]; omega) fin
      · refine ⟨Nat.le_refl _, ?_⟩
        show P_X8_put1 [.ref 7, .int (48 + nI (b % 16))] τ _ _
        rw [show (48 : Int32) = nI 48 from rfl, nI_add, ← v2.1 (by omega)]
        exact sp_X8_put1 q1 (by simp only [List.length_append, List.length_singleton]; omega) fin
    refine run_in (stop := fun pc => Nat.beq pc 31) hI 40 ?_
    refine pk_le 10 (b / 16) (fun g => ?_) (fun g => ?_) rfl rfl
    · refine ⟨Nat.le_refl _, ?_⟩
      show P_X8_put1 [.ref 7, .int (55 + nI (b / 16))] σ _ _
      rw [show (55 : Int32) = nI 55 from rfl, nI_add, ← v1.2 g]
      exact sp_X8_put1 hw (by omega) two
    · refine ⟨Nat.le_refl _, ?_⟩
      show P_X8_put1 [.ref 7, .int (48 + nI (b / 16))] σ _ _
      rw [show (48 : Int32) = nI 48 from rfl, nI_add, ← v1.1 (by omega)]
      exact sp_X8_put1 hw (by omega) two
  rw [← e2, ← e1] at m10
  exact ⟨by decide, by decide, m10⟩
theorem lp_putText {σ0 : Sg} {k n0 : Nat} {nm : Bool} {L : List Nat} (hB : ∀ i, i < S.2.2.1 → bt1 S i < 256) (hS : SZ S) (hk : k < S.1) (l4 : S.2.1 4 k = nI (sr S k)) (ln : S.2.1 1 k = nI n0) (hln : sr S k + n0 ≤ S.2.2.1) (hLl : L.length < 1999990000) (h : ∀ τ, DW τ L → Fr wmP σ0 τ → Q none τ) {I : Jt} (hI : Cl (FM (cutN 145 t_X8_putText) e_X8_putText xn0 0 sws0 false Q X) I) :
    ∀ m i l z4 z5 (σ : Sg), i + m = n0 → l ++ (txl nm S m (sr S k + i) ++ (if nm = true then [] else [62])) = L → MS σ S → DW σ l → Fr wmP σ0 σ → I 0 33 [some (.ref 7), some (.int (nI k)), some (.int (bI nm)), some (.int (nI i)), z4, z5] [] σ := by
  have hz := hS.2
  intro m
  induction m with
  | zero =>
    intro i l z4 z5 σ hi hL hM hw hF
    obtain ⟨v1, v2⟩ := ldm (i := 1) hM hS (by omega) hk
    have v2 : el σ 22 (nI k) = nI n0 := by rw [show el σ 22 (nI k) = S.2.1 1 k from v2, ln]
    refine run_in (stop := fun pc => Nat.beq pc 33) hI 40 ?_
    refine ⟨rfl, v1, ?_⟩
    rw [v2]
    refine pk_le n0 i (fun g => ?_) (fun g => by omega) rfl rfl
    have hll : l.length < 1999990000 := by rw [← hL, List.length_append] at hLl; omega
    refine And.intro (fun q => ?_) (fun q => ?_)
    · rw [bIt q, if_pos rfl] at hL
      rw [show l ++ (txl true S 0 (sr S k + i) ++ []) = l by simp [txl]] at hL
      exact h σ (by rw [← hL]; exact hw) hF
    · rw [bIf q, if_neg (by simp)] at hL
      exact ⟨Nat.le_refl _, sp_X8_put1 (b := 62) hw (by omega) (fun τ q1 q2 => h τ (by rw [← hL]; exact q1) (hF.tr q2))⟩
  | succ m ih =>
    intro i l z4 z5 σ hi hL hM hw hF
    obtain ⟨v1, v2⟩ := ldm (i := 1) hM hS (by omega) hk
    have v2 : el σ 22 (nI k) = nI n0 := by rw [show el σ 22 (nI k) = S.2.1 1 k from v2, ln]
    obtain ⟨⟨s1, s2⟩, s3, s4⟩ := ldb (i := i) hM hS hk l4 (show i < n0 by omega) hln
    have b1 := hB (sr S k + i) (by omega)
    have b2 : nI (S.2.2.2 (sr S k + i)) = nI (bt1 S (sr S k + i)) := nI_mod _
    simp only [txl] at hL
    generalize hb : bt1 S (sr S k + i) = b at b1 b2 hL
    have hll : l.length < 1999990000 := by rw [← hL, List.length_append] at hLl; omega
    have nxt : ∀ τ z5, DW τ (l ++ tx1 nm b) → Fr wmP σ τ → I 0 128 [some (.ref 7), some (.int (nI k)), some (.int (bI nm)), some (.int (nI i)), some (.int (nI b)), z5] [] τ := by
      intro τ z5 q1 q2
      refine run_in (stop := fun pc => Nat.beq pc 33) hI 40 ?_
      have := ih (i + 1) _ (some (.int (nI b))) z5 τ (by omega) (by rw [← hL]; simp only [List.append_assoc]; rfl) (hM.wm q2) q1 (hF.tr q2)
      rw [nI_succ] at this
      exact this
    have hexy : tx1 nm b = (if nm = true then [35] else []) ++ hx2 b → I 0 96 [some (.ref 7), some (.int (nI k)), some (.int (bI nm)), some (.int (nI i)), some (.int (nI b)), z5] [.int 0] σ := by
      intro hc
      rw [hc] at nxt
      refine run_in (stop := fun pc => Nat.beq pc 128) hI 40 ?_
      refine And.intro (fun _ => ?_) (fun y => absurd rfl y)
      refine And.intro (fun q => ?_) (fun q => ?_)
      · rw [bIf q, if_neg (by simp), List.nil_append] at nxt
        rw [bIf q]
        exact ⟨Nat.le_refl _, sp_X8_putHex b1 hw (by omega) (fun τ q1 q2 => nxt τ _ q1 q2)⟩
      · rw [bIt q, if_pos rfl] at nxt
        rw [bIt q]
        refine ⟨Nat.le_refl _, sp_X8_put1 (b := 35) hw (by omega) (fun τ q1 q2 => ?_)⟩
        refine ⟨Nat.le_refl _, sp_X8_putHex b1 q1 (by simp only [List.length_append, List.length_singleton]; omega) (fun υ r1 r2 => ?_)⟩
        rw [List.append_assoc] at r1
        exact nxt υ _ r1 (q2.tr r2)
    have hex2 : nm = true → ¬ (33 ≤ b ∧ b ≤ 126 ∧ b ≠ 35 ∧ rg b = true) → I 0 96 [some (.ref 7), some (.int (nI k)), some (.int (bI nm)), some (.int (nI i)), some (.int (nI b)), z5] [.int 0] σ := by
      intro e hc
      refine hexy ?_
      rw [e]
      simp only [tx1, if_true]
      exact if_neg hc
    refine run_in (stop := fun pc => Nat.beq pc 96 || Nat.beq pc 33) hI 60 ?_
    refine ⟨rfl, v1, ?_⟩
    rw [v2]
    refine pk_le n0 i (fun g => by omega) (fun g => ?_) rfl rfl
    refine ⟨rfl, s1, ?_⟩
    rw [s2]
    refine ⟨rfl, s3, ?_⟩
    rw [s4, b2]
    refine And.intro (fun q => ?_) (fun q => ?_)
    · exact hexy (by rw [bIf q]; rfl)
    have q := bIt q
    refine pk_eq b 35 (fun g3 => hex2 q (by omega)) (fun g3 => ?_) rfl rfl
    refine ⟨Nat.le_refl _, ?_⟩
    show P_X8_isRegular [.int (nI b)] σ _ _
    rw [← vI_lt b1]
    refine sp_X8_isRegular (by omega) (fun r hr => ?_)
    subst hr
    rw [vI_lt b1]
    refine And.intro (fun g4 => ?_) (fun g4 => ?_)
    · exact hex2 q (fun y => by rw [bIf g4] at y; cases y.2.2.2)
    refine pk_lt b 33 (fun g1 => hex2 q (by omega)) (fun g1 => ?_) rfl rfl
    refine pk_lt 126 b (fun g2 => hex2 q (by omega)) (fun g2 => ?_) rfl rfl
    have hn : tx1 nm b = [b] := by
      rw [q]
      simp only [tx1, if_true]
      exact if_pos ⟨g1, g2, g3, bIt g4⟩
    rw [hn] at nxt
    show I 0 96 _ _ _
    refine run_in (stop := fun pc => Nat.beq pc 128) hI 40 ?_
    refine And.intro (fun y => absurd y (by decide)) (fun _ => ?_)
    exact ⟨Nat.le_refl _, sp_X8_put1 hw (by omega) (fun τ q1 q2 => nxt τ _ q1 q2)⟩
theorem sp_X8_putText {k n0 : Nat} (hB : ∀ i, i < S.2.2.1 → bt1 S i < 256) (hM : MS σ S) (hS : SZ S) (hk : k < S.1) (l4 : S.2.1 4 k = nI (sr S k)) (ln : S.2.1 1 k = nI n0) (hln : sr S k + n0 ≤ S.2.2.1) (hw : DW σ l) (hl : l.length < 1999000000) (nm : Bool) (hnm : nm = decide (S.2.1 0 k = nI 5)) (h : ∀ τ, DW τ (l ++ ([if nm = true then 47 else 60] ++ (txl nm S n0 (sr S k) ++ (if nm = true then [] else [62])))) → Fr wmP σ τ → Q none τ) : P_X8_putText [.ref 7, .int (nI k)] σ Q X := by
  obtain ⟨a1, a2⟩ := ldm (i := 0) hM hS (by omega) hk
  have a2 : el σ 21 (nI k) = S.2.1 0 k := a2
  have hz := hS.2
  have ht := txl_len nm S n0 (sr S k)
  refine ⟨rfl, fun I hI => run_in (stop := fun pc => Nat.beq pc 16) hI 40 ?_⟩
  have m16 : I 0 16 [some (.ref 7), some (.int (nI k)), some (.int (bI nm)), none, none, none] [] σ := by
    have fin : ∀ c τ, c = (if nm = true then 47 else 60) → DW τ (l ++ [c]) → Fr wmP σ τ → I 0 33 [some (.ref 7), some (.int (nI k)), some (.int (bI nm)), some (.int (nI 0)), none, none] [] τ := by
      intro c τ hc q1 q2
      refine lp_putText hB hS hk l4 ln hln (L := l ++ ([if nm = true then 47 else 60] ++ (txl nm S n0 (sr S k) ++ (if nm = true then [] else [62])))) ?_ h hI n0 0 (l ++ [c]) none none τ (by omega) (by rw [hc, Nat.add_zero]; simp only [List.append_assoc]) (hM.wm q2) q1 q2
      simp only [List.length_append, List.length_singleton]
      split <;> simp <;> omega
    refine run_in (stop := fun pc => Nat.beq pc 33) hI 40 ?_
    refine And.intro (fun q => ?_) (fun q => ?_)
    · exact ⟨Nat.le_refl _, sp_X8_put1 (b := 60) hw (by omega) (fun τ q1 q2 => fin 60 τ (by rw [bIf q]; rfl) q1 q2)⟩
    · exact ⟨Nat.le_refl _, sp_X8_put1 (b := 47) hw (by omega) (fun τ q1 q2 => fin 47 τ (by rw [bIt q]; rfl) q1 q2)⟩
  refine ⟨rfl, a1, ?_⟩
  rw [a2]
  refine And.intro (fun g => ?_) (fun g => ?_)
  · rw [hnm, decide_eq_false (show ¬ S.2.1 0 k = nI 5 from g)] at m16
    exact m16
  · rw [hnm, decide_eq_true (show S.2.1 0 k = nI 5 from g)] at m16
    exact m16
theorem pn_len {k : Nat} (hW : WF S) (hS : SZ S) (hk : k < S.1) : (pn S k).length ≤ 100000 := by
  have hz := hS.2
  have hd := dgl_len
  have hf : ∀ r, (frl r).length ≤ 16 := by
    intro r
    unfold frl
    split
    · simp
    · exact frc_len 16 r
  have hs : ∀ x, (sgl x).length ≤ 1 := by
    intro x
    unfold sgl
    split <;> simp
  unfold pn
  split
  · simp
  · split
    · split <;> simp
    · split
      · have h1 := hd (mag (S.2.1 1 k)) 9
        have h2 := hs (S.2.1 1 k)
        rw [List.length_append]
        omega
      · split
        · have h1 := hd (mag (S.2.1 1 k) / 65536) 9
          have h2 := hs (S.2.1 1 k)
          have h3 := hf (mag (S.2.1 1 k) % 65536)
          simp only [List.length_append, List.length_singleton]
          omega
        · split
          · rename_i g
            obtain ⟨n0, l1, l2, l3, l4⟩ := tx_ok hW hS hk (Or.inl g)
            have := txl_len false S n0 (sr S k)
            rw [l4, ← txl_f]
            simp only [List.length_append, List.length_singleton]
            omega
          · split
            · rename_i g
              obtain ⟨n0, l1, l2, l3, l4⟩ := tx_ok hW hS hk (Or.inr g)
              have := txl_len true S n0 (sr S k)
              rw [l4, ← txl_t]
              simp only [List.length_append, List.length_singleton]
              omega
            · split
              · simp
              · split
                · simp
                · have h1 := hd (S.2.1 1 k).toNatClampNeg 9
                  have h2 := hd (S.2.1 2 k).toNatClampNeg 9
                  simp only [List.length_append, List.length_singleton, List.length_cons, List.length_nil]
                  omega
end WM2
