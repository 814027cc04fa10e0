/-! ===== PURE: read and entry, in the model ===== -/
def ePm (j k : Nat) : Prop := mdP j k ∨ (j = 7 ∧ (k = 0 ∨ k = 11 ∨ (14 ≤ k ∧ k ≤ 17))) ∨ j = 27 ∨ j = 28
/-- what a reading leaves in the model -/
def PZM (σ : Sg) (n : Nat) (t : Nat → Nat) (S : St) (ob : Nat) (z : Rz) (Q : Po) : Prop :=
  ∀ τ, TapeM τ n t → MS τ (if z.1 = 0 then z.2.2.2.2.1 else S) → Fr ePm σ τ → τ.1 7 0 = 0 → τ.1 7 14 = 1 → τ.1 7 15 = nI z.2.2.2.1 → τ.1 7 16 = nI z.2.1 → τ.1 7 17 = nI z.2.2.1 → τ.1 7 11 = nI (if z.1 = 0 then ob + 1 else ob) → (∀ i, τ.1 27 i = if z.1 = 0 ∧ i = ob then nI S.1 else σ.1 27 i) → (∀ i, τ.1 28 i = if z.1 = 0 ∧ i = ob then nI S.2.2.1 else σ.1 28 i) → Q (some (.int (if z.1 = 0 then nI z.2.2.2.2.2 else fI z.1))) τ
section ME
variable {σ : Sg} {Q : Po} {X : Xo} {n : Nat} {t : Nat → Nat} {S : St} {k ob : Nat}
theorem sp_X8_refused {x : Int32} {b : Bool} (hb : b = true ↔ 0 < x) (h : Q (some (.int (bI b))) (sM σ 7 0 x)) : P_X8_refused [.ref 7, .int x] σ Q X := by
  refine ⟨rfl, fun I hI => run_in (stop := fun _ => false) hI 30 ?_⟩
  refine And.intro (fun g => ⟨bo0, ?_⟩) (fun g => ⟨bo1, ?_⟩)
  · have : b = false := by
      cases b with
      | false => rfl
      | true => exact absurd (hb.mp rfl) (Int32.not_lt.mpr g)
    rw [this] at h
    exact h
  · have : b = true := hb.mpr (Int32.not_le.mp g)
    rw [this] at h
    exact h
theorem sp_X8_keepObject {x y : Int32} (ho : σ.1 7 11 = nI ob) (hob : ob < 4000) (h : Q none (sM (sM (sM σ 27 ob x) 28 ob y) 7 11 (nI (ob + 1)))) : P_X8_keepObject [.ref 7, .int x, .int y] σ Q X := by
  refine ⟨rfl, fun I hI => run_in (stop := fun _ => false) hI 40 ?_⟩
  refine ⟨rfl, pk_in ob 4000 hob ho, rfl, pk_in ob 4000 hob ho, ?_⟩
  rw [show nI (ob + 1) = σ.1 7 11 + 1 by rw [ho, nI_succ], ← pk_cl ob ho] at h
  exact h
/-- the end of a reading that went well -/
theorem keepM {σ0 : Sg} {z : Rz} (h : PZM σ0 n t S ob z Q) (g : z.1 = 0) (hT : TapeM σ n t) (hM : MS σ z.2.2.2.2.1) (hF : Fr ePm σ0 σ) (e0 : σ.1 7 0 = 0) (e14 : σ.1 7 14 = 1) (e15 : σ.1 7 15 = nI z.2.2.2.1) (e16 : σ.1 7 16 = nI z.2.1) (e17 : σ.1 7 17 = nI z.2.2.1) (h27 : ∀ i, σ.1 27 i = σ0.1 27 i) (h28 : ∀ i, σ.1 28 i = σ0.1 28 i) : Q (some (.int (nI z.2.2.2.2.2))) (sM (sM (sM σ 27 ob (nI S.1)) 28 ob (nI S.2.2.1)) 7 11 (nI (ob + 1))) := by
  have := h (sM (sM (sM σ 27 ob (nI S.1)) 28 ob (nI S.2.2.1)) 7 11 (nI (ob + 1))) (hT.fr ?_ (fun k => ?_)) ?_ ?_ ?_ ?_ ?_ ?_ ?_ ?_ (fun i => ?_) (fun i => ?_)
  · rw [if_pos g] at this
    exact this
  · rw [sM_o (by omega), sM_o (by omega), sM_o (by omega)]
  · rw [sM_o (by omega), sM_o (by omega), sM_o (by omega)]
  · rw [if_pos g]
    exact ((hM.m (by omega)).m (by omega)).m (by omega)
  · exact ((hF.s (by simp [ePm])).s (by simp [ePm])).s (by simp [ePm])
  · rw [sM_o (by omega), sM_o (by omega), sM_o (by omega)]; exact e0
  · rw [sM_o (by omega), sM_o (by omega), sM_o (by omega)]; exact e14
  · rw [sM_o (by omega), sM_o (by omega), sM_o (by omega)]; exact e15
  · rw [sM_o (by omega), sM_o (by omega), sM_o (by omega)]; exact e16
  · rw [sM_o (by omega), sM_o (by omega), sM_o (by omega)]; exact e17
  · rw [sM_s, if_pos g]
  · rw [sM_o (by omega), sM_o (by omega)]
    by_cases q : i = ob
    · rw [if_pos ⟨g, q⟩, q, sM_s]
    · rw [if_neg (fun y => q y.2), sM_o (by omega)]
      exact h27 i
  · rw [sM_o (by omega)]
    by_cases q : i = ob
    · rw [if_pos ⟨g, q⟩, q, sM_s]
    · rw [if_neg (fun y => q y.2), sM_o (by omega), sM_o (by omega)]
      exact h28 i
/-- .. and of one that did not -/
theorem badM {σ0 : Sg} {z : Rz} (h : PZM σ0 n t S ob z Q) (g : z.1 ≠ 0) (hT : TapeM σ n t) (hM : MS σ S) (hF : Fr ePm σ0 σ) (e0 : σ.1 7 0 = 0) (e14 : σ.1 7 14 = 1) (e15 : σ.1 7 15 = nI z.2.2.2.1) (e16 : σ.1 7 16 = nI z.2.1) (e17 : σ.1 7 17 = nI z.2.2.1) (ho : σ.1 7 11 = nI ob) (h27 : ∀ i, σ.1 27 i = σ0.1 27 i) (h28 : ∀ i, σ.1 28 i = σ0.1 28 i) : Q (some (.int (fI z.1))) σ := by
  have := h σ hT (by rw [if_neg g]; exact hM) hF e0 e14 e15 e16 e17 (by rw [if_neg g]; exact ho) (fun i => by rw [if_neg (fun y => g y.1)]; exact h27 i) (fun i => by rw [if_neg (fun y => g y.1)]; exact h28 i)
  rw [if_neg g] at this
  exact this
def ns1 (σ : Sg) : Sg := sM (sM (sM (sM σ 7 0 0) 7 14 1) 7 16 0) 7 17 0
/-- a place that is none -/
theorem place_cond {x : Int32} {A B : Prop} (hT : TapeM σ n t) (f : (x < 0 ∨ nI n < x) → A) (g : ∀ k, k ≤ n → x = nI k → B) : (x < 0 → A) ∧ (¬ x < 0 → (x ≤ σ.1 7 1 → B) ∧ (¬ x ≤ σ.1 7 1 → A)) := by
  have hn := hT.2.1
  refine And.intro (fun z => f (Or.inl z)) (fun z => ?_)
  obtain ⟨k, hk, rfl⟩ := nI_of z
  rw [hT.1]
  exact And.intro (fun z2 => g k ((nI_leI hk (by omega)).mp z2) rfl) (fun z2 => f (Or.inr (Int32.not_le.mp z2)))
/-- the state behind the first fields -/
def BM (σ0 σ : Sg) (n : Nat) (t : Nat → Nat) (S : St) (ob : Nat) : Prop := TapeM σ n t ∧ MS σ S ∧ Fr ePm σ0 σ ∧ σ.1 7 0 = 0 ∧ σ.1 7 14 = 1 ∧ σ.1 7 11 = nI ob ∧ (∀ i, σ.1 27 i = σ0.1 27 i) ∧ (∀ i, σ.1 28 i = σ0.1 28 i)
theorem BM.of (hT : TapeM σ n t) (hM : MS σ S) (ho : σ.1 7 11 = nI ob) : BM σ (ns1 σ) n t S ob ∧ (ns1 σ).1 7 16 = 0 ∧ (ns1 σ).1 7 17 = 0 := by
  unfold ns1
  refine ⟨⟨(((hT.m (by omega)).m (by omega)).m (by omega)).m (by omega), (((hM.m (by omega)).m (by omega)).m (by omega)).m (by omega), (((Fr.rf.s ?_).s ?_).s ?_).s ?_, ?_, ?_, ?_, fun i => ?_, fun i => ?_⟩, ?_, ?_⟩
  · simp [ePm]
  · simp [ePm]
  · simp [ePm]
  · simp [ePm]
  · rw [sM_o (by omega), sM_o (by omega), sM_o (by omega), sM_s]
  · rw [sM_o (by omega), sM_o (by omega), sM_s]
  · rw [sM_o (by omega), sM_o (by omega), sM_o (by omega), sM_o (by omega)]; exact ho
  · rw [sM_o (by omega), sM_o (by omega), sM_o (by omega), sM_o (by omega)]
  · rw [sM_o (by omega), sM_o (by omega), sM_o (by omega), sM_o (by omega)]
  · rw [sM_o (by omega), sM_s]
  · rw [sM_s]
theorem BM.fr {σ0 τ : Sg} {S' : St} (h : BM σ0 σ n t S ob) (hT : TapeM τ n t) (hM : MS τ S') (hF : Fr moP σ τ) : BM σ0 τ n t S' ob := by
  obtain ⟨h1, h2, h3, h4, h5, h6, h7, h8⟩ := h
  refine ⟨hT, hM, h3.tr (hF.w (fun j k z => z.elim Or.inl (fun y => Or.inr (Or.inl ⟨y.1, by omega⟩)))), ?_, ?_, ?_, fun i => ?_, fun i => ?_⟩
  · exact (hF.2 7 0 (by simp [moP, mdP])).trans h4
  · exact (hF.2 7 14 (by simp [moP, mdP])).trans h5
  · exact (hF.2 7 11 (by simp [moP, mdP])).trans h6
  · exact (hF.2 27 i (by simp [moP, mdP])).trans (h7 i)
  · exact (hF.2 28 i (by simp [moP, mdP])).trans (h8 i)
theorem fin_read {σ0 : Sg} {z : Rz} {x : Int32} (h : PZM σ0 n t S ob z Q) (hS : SZ S) (hz : z.2.2.2.2.2 = S.1) (hf : z.1 < 11) (hob : z.1 = 0 → ob < 4000) (hB : BM σ0 σ n t (if z.1 = 0 then z.2.2.2.2.1 else S) ob) (e15 : σ.1 7 15 = nI z.2.2.2.1) (e16 : σ.1 7 16 = nI z.2.1) (e17 : σ.1 7 17 = nI z.2.2.1) {I : Jt} (hI : Cl (FM (cutN 64 t_X8_read) e_X8_read xn0 0 sws0 false Q X) I) : I 0 52 [some (.ref 7), some (.int x), some (.int (nI S.2.2.1)), some (.int (if z.1 = 0 then nI S.1 else fI z.1))] [] σ := by
  obtain ⟨c1, c2, c3, c4, c5, c6, c7, c8⟩ := hB
  have h4 := hS.1
  refine run_in (stop := fun _ => false) hI 60 ?_
  by_cases g : z.1 = 0
  · rw [if_pos g] at c2
    have hk := keepM (z := z) h g c1 c2 c3 c4 c5 e15 e16 e17 c7 c8
    rw [hz] at hk
    rw [if_pos g]
    refine And.intro (fun y => absurd y (nI_pos (by omega))) (fun _ => ?_)
    exact ⟨Nat.le_refl _, sp_X8_keepObject c6 (hob g) hk⟩
  · rw [if_neg g] at c2
    have hk := badM (z := z) h g c1 c2 c3 c4 c5 e15 e16 e17 c6 c7 c8
    rw [if_neg g]
    exact And.intro (fun _ => hk) (fun y => absurd (fI_neg _ hf g) y)
theorem sp_X8_read {x : Int32} (hT : TapeM σ n t) (hM : MS σ S) (hS : SZ S) (hW : WF S) (ho : σ.1 7 11 = nI ob) (hob : ob ≤ S.1) (h0 : (x < 0 ∨ nI n < x) → Q (some (.int 0)) (sM σ 7 0 1)) (h1 : ∀ k, k ≤ n → x = nI k → PZM σ n t S ob (rd1 n t S k) Q) : P_X8_read [.ref 7, .int x] σ Q X := by
  refine ⟨rfl, fun I hI => run_in (stop := fun pc => Nat.beq pc 18) hI 60 ?_⟩
  have bad : (x < 0 ∨ nI n < x) → I 0 18 [some (.ref 7), some (.int x), none, none] [.int 1, .ref 7] σ := by
    intro g
    refine run_in (stop := fun _ => false) hI 60 ?_
    refine ⟨Nat.le_refl _, sp_X8_refused (b := true) (by decide) ?_⟩
    exact And.intro (fun g => absurd g (by decide)) (fun _ => h0 g)
  have good : ∀ k, k ≤ n → x = nI k → I 0 18 [some (.ref 7), some (.int x), none, none] [.int 0, .ref 7] σ := by
    intro k hk hx
    subst hx
    have h := h1 k hk rfl
    have hfr : (rd1 n t S k).1 < 11 := by have := rdo_f (n := n) (t := t) (m := n + 1) (S, 0, ST0, false) k; exact Nat.lt_of_lt_of_le this (by omega)
    have hob' : (rd1 n t S k).1 = 0 → ob < 4000 := by
      intro g
      have hO : OKR (S, 0, ST0, false) := ⟨hS, Nat.zero_le _, fun i hi => absurd hi (Nat.not_lt_zero i), fun z => by cases z⟩
      have hwf := (rdo_wf (st := ST0) hS hW g).2
      have hzz := (rdo_ind (fun R => SZ R.1) (n := n) (t := t) (fun R a hR _ => (trn_ok hR).1) (n + 1) (S, 0, ST0, false) k hO hS).1.1
      omega
    have hq : ∀ (τ : Sg) (r : Int32), r = (if (rd1 n t S k).1 = 0 then nI S.1 else fI (rd1 n t S k).1) → BM σ τ n t (if (rd1 n t S k).1 = 0 then (rd1 n t S k).2.2.2.2.1 else S) ob → τ.1 7 15 = nI (rd1 n t S k).2.2.2.1 → τ.1 7 16 = nI (rd1 n t S k).2.1 → τ.1 7 17 = nI (rd1 n t S k).2.2.1 → I 0 52 [some (.ref 7), some (.int (nI k)), some (.int (nI S.2.2.1)), some (.int r)] [] τ := by
      intro τ r hr hB e15 e16 e17
      subst hr
      exact fin_read h hS rfl hfr hob' hB e15 e16 e17 hI
    obtain ⟨hB, b16, b17⟩ := BM.of hT hM ho
    have hro : ∀ r (τ : Sg), TapeM τ n t → MS τ (if (rd1 n t S k).1 = 0 then (rd1 n t S k).2.2.2.2.1 else S) → Fr moP (ns1 σ) τ → τ.1 7 15 = nI (rd1 n t S k).2.2.2.1 → r = (if (rd1 n t S k).1 = 0 then nI S.1 else fI (rd1 n t S k).1) → I 0 52 [some (.ref 7), some (.int (nI k)), some (.int (nI S.2.2.1)), some (.int r)] [] τ := by
      intro r τ q1 q2 q3 q4 q5
      exact hq τ r q5 (hB.fr q1 q2 q3) q4 ((q3.2 7 16 (by simp [moP, mdP])).trans b16) ((q3.2 7 17 (by simp [moP, mdP])).trans b17)
    generalize hz : rd1 n t S k = z at h hro
    have e9 : (sM σ 7 0 0).1 7 9 = nI S.2.2.1 := (sM_o (by omega)).trans hM.2.1
    have m46 : ∀ w : Int32, w = nI S.2.2.1 → I 0 46 [some (.ref 7), some (.int (nI k)), some (.int w), none] [] (ns1 σ) := by
      intro w hw
      subst hw
      refine run_in (stop := fun pc => Nat.beq pc 52) hI 20 ?_
      refine ⟨Nat.le_refl _, ?_⟩
      refine sp_X8_readObject (st := ST0) hB.1 hB.2.1 hS hk (fun τ q1 q2 q3 q4 => ?_)
      refine hro _ τ q1 ?_ q3 ?_ ?_
      · rw [← hz]; exact q2
      · rw [← hz]; exact q4
      · rw [← hz]; rfl
    have m26 : ∀ σ1 : Sg, σ1 = sM σ 7 0 0 → I 0 26 [some (.ref 7), some (.int (nI k)), none, none] [] σ1 := by
      intro σ1 hs
      subst hs
      refine run_in (stop := fun pc => Nat.beq pc 46) hI 20 ?_
      exact ⟨Or.inr rfl, m46 _ e9⟩
    refine run_in (stop := fun pc => Nat.beq pc 26) hI 20 ?_
    refine ⟨Nat.le_refl _, sp_X8_refused (b := false) (by decide) ?_⟩
    exact And.intro (fun _ => m26 _ rfl) (fun g => absurd rfl g)
  refine And.intro (fun z => bad (Or.inl z)) (fun z => ?_)
  obtain ⟨k, hk, hx⟩ := nI_of z
  subst hx
  have hn := hT.2.1
  show (nI k ≤ σ.1 7 1 → _) ∧ (¬ nI k ≤ σ.1 7 1 → _)
  rw [hT.1]
  exact And.intro (fun z2 => good k ((nI_leI hk (by omega)).mp z2) rfl) (fun z2 => bad (Or.inr (Int32.not_le.mp z2)))
end ME
