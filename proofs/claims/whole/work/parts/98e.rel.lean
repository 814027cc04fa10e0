/-! ===== PURE: class and model side by side ===== -/
def Ag (P : Nat → Nat → Prop) (σ τ : Sg) : Prop := τ.2.1 = σ.2.1 ∧ ∀ j k, ¬ P j k → τ.1 j k = σ.1 j k
def LST (σ : Sg) : Prop := σ.1 3 9 = σ.1 7 14 ∧ σ.1 3 10 = σ.1 7 15 ∧ σ.1 3 11 = σ.1 7 16 ∧ σ.1 3 12 = σ.1 7 17
def RelB (σ : Sg) (n : Nat) (t : Nat → Nat) (S : St) (ob : Nat) (fi : Nat → Nat) (wt : List Nat) : Prop := TapeC σ n t ∧ TapeM σ n t ∧ CS σ S ∧ MS σ S ∧ (SZ S ∧ WF S) ∧ OBJ σ S ob fi ∧ LST σ ∧ WRC σ wt ∧ WRM σ wt
def Rel (σ : Sg) : Prop := ∃ n t S ob fi wt, RelB σ n t S ob fi wt
section RL
variable {σ τ υ : Sg} {n : Nat} {t : Nat → Nat} {S : St} {ob : Nat} {fi : Nat → Nat} {wt : List Nat} {P : Nat → Nat → Prop}
theorem Fr.ag (h : Fr P σ τ) : Ag P σ τ := ⟨by rw [h.1], h.2⟩
theorem Ag.o {v : Int64} (h : Ag P σ τ) : Ag P σ (sO τ 0 v) := h
theorem TapeC.ag (h : TapeC σ n t) (a : Ag P σ τ) (hp : ∀ j k, ((j = 1 ∧ k = 1) ∨ j = 8) → ¬ P j k) : TapeC τ n t := h.fr (a.2 1 1 (hp _ _ (by omega))) (fun k => a.2 8 k (hp _ _ (by omega)))
theorem TapeM.ag (h : TapeM σ n t) (a : Ag P σ τ) (hp : ∀ j k, ((j = 7 ∧ k = 1) ∨ j = 20) → ¬ P j k) : TapeM τ n t := h.fr (a.2 7 1 (hp _ _ (by omega))) (fun k => a.2 20 k (hp _ _ (by omega)))
theorem CS.ag (h : CS σ S) (a : Ag P σ τ) (hp : ∀ j k, ((j = 2 ∧ (k = 7 ∨ k = 8)) ∨ (9 ≤ j ∧ j ≤ 13) ∨ j = 15) → ¬ P j k) : CS τ S := h.fr (a.2 2 7 (hp _ _ (by omega))) (a.2 2 8 (hp _ _ (by omega))) (fun j k h1 h2 => a.2 j k (hp _ _ (by omega))) (fun k _ => a.2 15 k (hp _ _ (by omega)))
theorem MS.ag (h : MS σ S) (a : Ag P σ τ) (hp : ∀ j k, ((j = 7 ∧ (k = 3 ∨ k = 9)) ∨ (21 ≤ j ∧ j ≤ 26)) → ¬ P j k) : MS τ S := h.fr (a.2 7 3 (hp _ _ (by omega))) (a.2 7 9 (hp _ _ (by omega))) (fun j k h1 h2 => a.2 j k (hp _ _ (by omega)))
theorem OBJ.ag (h : OBJ σ S ob fi) (a : Ag P σ τ) (hp : ∀ j k, ((j = 2 ∧ k = 9) ∨ (j = 7 ∧ k = 11) ∨ j = 14 ∨ j = 27 ∨ j = 28) → ¬ P j k) : OBJ τ S ob fi := by
  obtain ⟨o1, o2, o3, o4⟩ := h
  refine ⟨(a.2 2 9 (hp _ _ (by omega))).trans o1, (a.2 7 11 (hp _ _ (by omega))).trans o2, o3, fun i hi => ?_⟩
  obtain ⟨⟨f1, f2, f3⟩, f4⟩ := o4 i hi
  exact ⟨⟨(a.2 14 i (hp _ _ (by omega))).trans f1, (a.2 27 i (hp _ _ (by omega))).trans f2, (a.2 28 i (hp _ _ (by omega))).trans f3⟩, f4⟩
theorem LST.ag (h : LST σ) (a : Ag P σ τ) (hp : ∀ j k, ((j = 3 ∧ 9 ≤ k ∧ k ≤ 12) ∨ (j = 7 ∧ 14 ≤ k ∧ k ≤ 17)) → ¬ P j k) : LST τ := by
  unfold LST
  rw [a.2 3 9 (hp _ _ (by omega)), a.2 3 10 (hp _ _ (by omega)), a.2 3 11 (hp _ _ (by omega)), a.2 3 12 (hp _ _ (by omega)), a.2 7 14 (hp _ _ (by omega)), a.2 7 15 (hp _ _ (by omega)), a.2 7 16 (hp _ _ (by omega)), a.2 7 17 (hp _ _ (by omega))]
  exact h
theorem WRC.ag (h : WRC σ wt) (a : Ag P σ τ) (hp : ∀ j k, ((j = 6 ∧ k = 4) ∨ j = σ.2.1 6 3) → ¬ P j k) : WRC τ wt := by
  obtain ⟨w1, w2, w3, w4⟩ := h
  refine ⟨by rw [a.1]; exact w1, (a.2 6 4 (hp _ _ (by omega))).trans w2, w3, fun i hi => ?_⟩
  rw [a.1, a.2 _ i (hp _ _ (Or.inr rfl))]
  exact w4 i hi
theorem WRM.ag (h : WRM σ wt) (a : Ag P σ τ) (hp : ∀ j k, ((j = 7 ∧ k = 18) ∨ j = 29) → ¬ P j k) : WRM τ wt := ⟨(a.2 7 18 (hp _ _ (by omega))).trans h.1, fun i hi => (a.2 29 i (hp _ _ (by omega))).trans (h.2 i hi)⟩
theorem pg2 (h : WRC σ wt) : σ.2.1 6 3 = 18 ∨ σ.2.1 6 3 = 19 := h.1.elim (fun z => Or.inl z.1) (fun z => Or.inr z.1)
/-- nothing of it is touched -/
theorem RelB.ag (h : RelB σ n t S ob fi wt) (a : Ag P σ τ) (hp : ∀ j k, P j k → (j = 7 ∧ k = 0) ∨ (j = 7 ∧ (k = 20 ∨ 22 ≤ k)) ∨ j = 30 ∨ j = 31 ∨ j = 32 ∨ j = 17 ∨ (j = 6 ∧ (k = 2 ∨ k = 6 ∨ k = 7)) ∨ j = σ.2.1 6 5) : RelB τ n t S ob fi wt := by
  obtain ⟨r1, r2, r3, r4, r5, r6, r7, r8, r9⟩ := h
  have hpg := pg2 r8
  have hpn : σ.2.1 6 5 = 18 ∨ σ.2.1 6 5 = 19 := r8.1.elim (fun z => Or.inr z.2) (fun z => Or.inl z.2)
  have hne : σ.2.1 6 3 ≠ σ.2.1 6 5 := by rcases r8.1 with ⟨a1, a2⟩ | ⟨a1, a2⟩ <;> (rw [a1, a2]; decide)
  exact ⟨r1.ag a (fun j k h1 h2 => by have := hp j k h2; omega), r2.ag a (fun j k h1 h2 => by have := hp j k h2; omega), r3.ag a (fun j k h1 h2 => by have := hp j k h2; omega), r4.ag a (fun j k h1 h2 => by have := hp j k h2; omega), r5, r6.ag a (fun j k h1 h2 => by have := hp j k h2; omega), r7.ag a (fun j k h1 h2 => by have := hp j k h2; omega), r8.ag a (fun j k h1 h2 => by have := hp j k h2; omega), r9.ag a (fun j k h1 h2 => by have := hp j k h2; omega)⟩
theorem bt_256 (h : CS σ S) : ∀ i, i < S.2.2.1 → bt1 S i < 256 := fun i hi => (bt1_b h hi).1
end RL
/-- the start -/
def S00 : St := (0, fun _ _ => 0, 0, fun _ => 0)
theorem rel0 : Rel sg0 := by
  refine ⟨0, fun _ => 0, S00, 0, fun _ => 0, [], ⟨rfl, by omega, fun k hk => by omega, fun k hk => by omega⟩, ⟨rfl, by omega, fun k hk => by omega, fun k hk => by omega⟩, ⟨rfl, rfl, fun i k _ hk => absurd hk (Nat.not_lt_zero k), fun i hi => absurd hi (Nat.not_lt_zero i)⟩, ⟨rfl, rfl, fun i k _ hk => absurd hk (Nat.not_lt_zero k), fun i hi => absurd hi (Nat.not_lt_zero i)⟩, ⟨⟨Nat.zero_le _, Nat.zero_le _⟩, fun k hk => absurd hk (Nat.not_lt_zero k)⟩, ⟨rfl, rfl, Nat.le_refl _, fun i hi => absurd hi (Nat.not_lt_zero i)⟩, ⟨rfl, rfl, rfl, rfl⟩, ⟨Or.inl ⟨rfl, rfl⟩, rfl, by simp, fun i hi => absurd hi (Nat.not_lt_zero i)⟩, rfl, fun i hi => absurd hi (Nat.not_lt_zero i)⟩
/-- a reading's end keeps the trees -/
theorem stream_wf {S : St} {v : Int32} {nd : Nat} (hW : WF S) (hS : SZ S) (h4 : S.1 < 4000) (hn : nd < S.1) (h7 : KD S nd 7) : WF (adS S 9 v (nI nd) [] 0) ∧ SZ (adS S 9 v (nI nd) [] 0) := by
  have ag : AG S (adS S 9 v (nI nd) [] 0) S.1 := AG.aad
  obtain ⟨a1, a2, a3, a4, a5, a6, a7, a8⟩ := ad_at (what := 9) (v := v) (x := nI nd) (l := []) hS (show 0 ≤ 100 by omega)
  refine ⟨fun k hk => ?_, ?_, ?_⟩
  · have hk' : k < S.1 + 1 := hk
    by_cases e : k < S.1
    · obtain ⟨h1, h2, h3, h4⟩ := hW k e
      refine ⟨ad_Nd hS (by omega) e h1, ag.acm e h1.1.2.2 h2, fun j hj z => ?_, fun z => ?_⟩
      · rw [ag.aen (by omega)] at z
        have := h3 j hj z
        rw [ag.acn (by omega), ag.adp (by omega), ag.adp e, ag.aen e, ag.aen (by omega), ag.akd e]
        exact this
      · obtain ⟨x, x1, x2, x3⟩ := h4 ((ag.akd e).mp z)
        exact ⟨x, x1, by rw [ag 2 k e]; exact x2, (ag.akd (by omega)).mpr x3⟩
    · have ek : k = S.1 := by omega
      subst ek
      have nc : ¬ cn (adS S 9 v (nI nd) [] 0) S.1 := by
        rintro (z | z)
        · have := KD_u a1 z (by omega) (by omega); omega
        · have := KD_u a1 z (by omega) (by omega); omega
      refine ⟨ad_new hS (by omega) (by omega) (fun z => by omega) ⟨fun z => by omega, fun z => by omega, fun z => by omega⟩ (fun z => by omega), fun z => absurd z nc, fun j hj z => ?_, fun _ => ⟨nd, hn, a3, (ag.akd hn).mpr h7⟩⟩
      rw [ag.aen hj] at z
      have := (hW j hj).1.1.2.2
      omega
  · show S.1 + 1 ≤ 4000; omega
  · show S.2.2.1 + 0 ≤ 32768; exact hS.2
/-- what a good reading gives: more nodes, whole trees, the old ones as they were -/
def GoodZ (S : St) (z : Rz) : Prop := z.1 = 0 → WF z.2.2.2.2.1 ∧ SZ z.2.2.2.2.1 ∧ EX S z.2.2.2.2.1 ∧ S.1 < z.2.2.2.2.1.1
theorem rd_sz {n : Nat} {t : Nat → Nat} {S : St} (hS : SZ S) (m k : Nat) : SZ (rdo n t m (S, 0, ST0, false) k).2.1.1 := by
  have hO : OKR (S, 0, ST0, false) := ⟨hS, Nat.zero_le _, fun i hi => absurd hi (Nat.not_lt_zero i), fun z => by cases z⟩
  exact (rdo_ind (fun R => SZ R.1) (n := n) (t := t) (fun R a hR _ => (trn_ok hR).1) m (S, 0, ST0, false) k hO hS).1
theorem rd_ex {n : Nat} {t : Nat → Nat} {S : St} (hS : SZ S) (m k : Nat) : EX S (rdo n t m (S, 0, ST0, false) k).2.1.1 := by
  have hO : OKR (S, 0, ST0, false) := ⟨hS, Nat.zero_le _, fun i hi => absurd hi (Nat.not_lt_zero i), fun z => by cases z⟩
  exact (rdo_ex hO ⟨EX.rf, fun i hi => absurd hi (Nat.not_lt_zero i)⟩).1
theorem rd1_good {n : Nat} {t : Nat → Nat} {S : St} {k : Nat} (hS : SZ S) (hW : WF S) : GoodZ S (rd1 n t S k) := by
  intro h
  have := rdo_wf (st := ST0) hS hW h
  exact ⟨this.1, rd_sz hS _ _, rd_ex hS _ _, this.2⟩
theorem ent_good {n : Nat} {t : Nat → Nat} {S : St} {k : Nat} (hS : SZ S) (hW : WF S) : GoodZ S (ent n t S k) := by
  intro h
  unfold ent at h ⊢
  split at h
  · rename_i g
    rw [if_pos g]
    split at h
    · rename_i g2
      rw [if_pos g2]
      have h1 := rdo_wf (st := ST0) hS hW g2
      have h2 := rd_sz (n := n) (t := t) hS (n + 1) (hed n t k).2.2.2
      have h3 := rd_ex (n := n) (t := t) hS (n + 1) (hed n t k).2.2.2
      generalize rdo n t (n + 1) (S, 0, ST0, false) (hed n t k).2.2.2 = o at h h1 h2 h3 ⊢
      unfold tal at h ⊢
      split at h
      · rename_i q1
        rw [if_pos q1]
        exact ⟨h1.1, h2, h3, h1.2⟩
      · rename_i q1
        rw [if_neg q1]
        split at h
        · cases h
        · rename_i q2
          rw [if_neg q2]
          split at h
          · cases h
          · rename_i q3
            rw [if_neg q3]
            split at h
            · cases h
            · rename_i q4
              rw [if_neg q4]
              have h7 : KD o.2.1.1 S.1 7 := by
                by_cases y : o.2.1.1.2.1 0 S.1 = nI 7
                · exact y
                · exact absurd (Or.inl y) q2
              have hw := stream_wf (v := nI (pln n t (wend n t o.2.2))) h1.1 h2 (by omega) h1.2 h7
              exact ⟨hw.1, hw.2, h3.ad, by show S.1 < o.2.1.1.1 + 1; omega⟩
    · rename_i g2
      exact absurd h g2
  · rename_i g
    exact absurd h g
