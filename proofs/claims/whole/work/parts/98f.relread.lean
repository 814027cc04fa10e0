/-! ===== PURE: after a reading ===== -/
def FST (S : St) (R : Rd) : Prop := (R.1.1 = S.1 ∧ R.1.2.2.1 = S.2.2.1) ∨ (S.1 < R.1.1 ∧ R.1.2.1 4 S.1 = nI S.2.2.1)
theorem FST.ad {S S1 : St} {what dp : Nat} {v x : Int32} {l : List Nat} (h : (S1.1 = S.1 ∧ S1.2.2.1 = S.2.2.1) ∨ (S.1 < S1.1 ∧ S1.2.1 4 S.1 = nI S.2.2.1)) : S.1 < (adS S1 what v x l dp).1 ∧ (adS S1 what v x l dp).2.1 4 S.1 = nI S.2.2.1 := by
  rcases h with ⟨h1, h2⟩ | ⟨h1, h2⟩
  · refine ⟨by show S.1 < S1.1 + 1; omega, ?_⟩
    show (if S.1 = S1.1 then (if (4 : Nat) = 0 then nI what else if (4 : Nat) = 1 then v else if (4 : Nat) = 2 then x else if (4 : Nat) = 3 then nI (S1.1 + 1) else if (4 : Nat) = 4 then nI S1.2.2.1 else nI dp) else _) = _
    rw [if_pos h1.symm, if_neg (by omega), if_neg (by omega), if_neg (by omega), if_neg (by omega), if_pos rfl, h2]
  · refine ⟨by show S.1 < S1.1 + 1; omega, ?_⟩
    show (if S.1 = S1.1 then _ else S1.2.1 4 S.1) = _
    rw [if_neg (by omega)]
    exact h2
theorem FST.val {S S1 : St} {d : Nat} {st : Nat → Nat} (h : S.1 < S1.1 ∧ S1.2.1 4 S.1 = nI S.2.2.1) : FST S (val1 S1 d st) := by
  unfold val1
  split
  · exact Or.inr h
  · refine Or.inr ⟨h.1, ?_⟩
    show (if (4 : Nat) = 1 ∧ S.1 = st (d - 1) then S1.2.1 1 (st (d - 1)) + 1 else S1.2.1 4 S.1) = _
    rw [if_neg (by omega)]
    exact h.2
theorem FST.trn {S : St} {n : Nat} {t : Nat → Nat} {R : Rd} {a : Nat} (hO : OKR R) (hE : EXR S R) (h : FST S R) : FST S (trn n t R a).2.1 := by
  refine trn_ind (FST S) hO h (fun _ what v x l _ _ _ => FST.val (FST.ad h)) (fun _ what _ _ _ => Or.inr (FST.ad h)) (fun hd _ => FST.val ⟨?_, ?_⟩) (fun _ l _ _ => Or.inr (FST.ad h))
  · have h1 := hE.2 0 hd
    have h2 := hO.2.2.1 0 hd
    show S.1 < R.1.1
    omega
  · show (if (4 : Nat) = 3 ∧ S.1 = R.2.2.1 (R.2.1 - 1) then nI R.1.1 else R.1.2.1 4 S.1) = _
    rw [if_neg (by omega)]
    rcases h with ⟨h1, h2⟩ | ⟨h1, h2⟩
    · have h3 := hE.2 0 hd
      have h4 := hO.2.2.1 0 hd
      omega
    · exact h2
theorem rdo_fst {S : St} {n : Nat} {t : Nat → Nat} {m k : Nat} (hS : SZ S) : FST S (rdo n t m (S, 0, ST0, false) k).2.1 := by
  have hO : OKR (S, 0, ST0, false) := ⟨hS, Nat.zero_le _, fun i hi => absurd hi (Nat.not_lt_zero i), fun z => by cases z⟩
  exact (rdo_ind (fun R => FST S R ∧ EXR S R) (n := n) (t := t) (fun R a h1 h2 => ⟨FST.trn h1 h2.2 h2.1, EXR.trn h1 h2.2⟩) m (S, 0, ST0, false) k hO ⟨Or.inl ⟨rfl, rfl⟩, EX.rf, fun i hi => absurd hi (Nat.not_lt_zero i)⟩).1.1
theorem sr_fst {S S1 : St} (hS : SZ S) (h : S1.2.1 4 S.1 = nI S.2.2.1) : sr S1 S.1 = S.2.2.1 := by
  unfold sr
  rw [h]
  exact nI_clamp (by have := hS.2; omega)
theorem rd1_sr {n : Nat} {t : Nat → Nat} {S : St} {k : Nat} (hS : SZ S) (hW : WF S) (h : (rd1 n t S k).1 = 0) : sr (rd1 n t S k).2.2.2.2.1 S.1 = S.2.2.1 := by
  have h1 := (rdo_wf (st := ST0) hS hW h).2
  rcases rdo_fst (n := n) (t := t) (m := n + 1) (k := k) hS with ⟨h2, _⟩ | ⟨_, h2⟩
  · omega
  · exact sr_fst hS h2
theorem ent_sr {n : Nat} {t : Nat → Nat} {S : St} {k : Nat} (hS : SZ S) (hW : WF S) (h : (ent n t S k).1 = 0) : sr (ent n t S k).2.2.2.2.1 S.1 = S.2.2.1 := by
  unfold ent at h ⊢
  split at h
  · rename_i g
    rw [if_pos g]
    split at h
    · rename_i g2
      rw [if_pos g2]
      have h1 := (rdo_wf (st := ST0) hS hW g2).2
      have h2 := rdo_fst (n := n) (t := t) (m := n + 1) (k := (hed n t k).2.2.2) hS
      generalize rdo n t (n + 1) (S, 0, ST0, false) (hed n t k).2.2.2 = o at h h1 h2 ⊢
      have h3 : o.2.1.1.2.1 4 S.1 = nI S.2.2.1 := by
        rcases h2 with ⟨h2, _⟩ | ⟨_, h2⟩
        · omega
        · exact h2
      unfold tal at h ⊢
      split at h
      · rename_i q1
        rw [if_pos q1]
        exact sr_fst hS h3
      · rename_i q1
        rw [if_neg q1]
        split at h
        · cases h
        · rename_i q2
          rw [if_neg q2]
          split at h
          · cases h
          · rename_i q3
            rw [if_neg q3]
            split at h
            · cases h
            · rename_i q4
              rw [if_neg q4]
              exact sr_fst hS (FST.ad (Or.inr ⟨h1, h3⟩)).2
    · rename_i g2
      exact absurd h g2
  · rename_i g
    exact absurd h g
section RR
variable {σ τ υ : Sg} {n : Nat} {t : Nat → Nat} {S : St} {ob : Nat} {fi : Nat → Nat} {wt : List Nat}
theorem rel_read {z : Rz} {v : Int64} (h : RelB σ n t S ob fi wt) (hg : GoodZ S z) (hsr : z.1 = 0 → sr z.2.2.2.2.1 S.1 = S.2.2.1)
    (c1 : TapeC τ n t) (c2 : CS τ (if z.1 = 0 then z.2.2.2.2.1 else S)) (c3 : Fr ePc σ τ) (c4 : τ.1 3 9 = 1) (c5 : τ.1 3 10 = nI z.2.2.2.1) (c6 : τ.1 3 11 = nI z.2.1) (c7 : τ.1 3 12 = nI z.2.2.1) (c8 : τ.1 2 9 = nI (if z.1 = 0 then ob + 1 else ob)) (c9 : ∀ i, τ.1 14 i = if z.1 = 0 ∧ i = ob then nI S.1 else σ.1 14 i)
    (m1 : TapeM υ n t) (m2 : MS υ (if z.1 = 0 then z.2.2.2.2.1 else S)) (m3 : Fr ePm (sO τ 0 v) υ) (m4 : υ.1 7 14 = 1) (m5 : υ.1 7 15 = nI z.2.2.2.1) (m6 : υ.1 7 16 = nI z.2.1) (m7 : υ.1 7 17 = nI z.2.2.1) (m8 : υ.1 7 11 = nI (if z.1 = 0 then ob + 1 else ob)) (m9 : ∀ i, υ.1 27 i = if z.1 = 0 ∧ i = ob then nI S.1 else (sO τ 0 v).1 27 i) (m10 : ∀ i, υ.1 28 i = if z.1 = 0 ∧ i = ob then nI S.2.2.1 else (sO τ 0 v).1 28 i) : Rel υ := by
  obtain ⟨r1, r2, r3, r4, ⟨r5, r5'⟩, r6, r7, r8, r9⟩ := h
  have ag1 : Ag ePc σ τ := c3.ag
  have ag2 : Ag ePm τ υ := ⟨by rw [m3.1]; rfl, m3.2⟩
  have hpg := pg2 r8
  have k1 : ∀ j k, (j = 1 ∨ j = 2 ∨ j = 3 ∨ j = 6 ∨ j = 8 ∨ (9 ≤ j ∧ j ≤ 19)) → υ.1 j k = τ.1 j k := fun j k hj => ag2.2 j k (by unfold ePm mdP; omega)
  have hw : WRC υ wt := by
    have := r8.ag ag1 (fun j k hj z => by unfold ePc rdP at z; omega)
    refine this.ag ag2 (fun j k hj z => ?_)
    have hpg2 := pg2 this
    unfold ePm mdP at z
    omega
  have hwm : WRM υ wt := (r9.ag ag1 (fun j k hj z => by unfold ePc rdP at z; omega)).ag ag2 (fun j k hj z => by unfold ePm mdP at z; omega)
  have hl : LST υ := ⟨by rw [k1 3 9 (by omega), c4, m4], by rw [k1 3 10 (by omega), c5, m5], by rw [k1 3 11 (by omega), c6, m6], by rw [k1 3 12 (by omega), c7, m7]⟩
  have hT : TapeC υ n t := c1.fr (k1 1 1 (by omega)) (fun k => k1 8 k (by omega))
  have hC : CS υ (if z.1 = 0 then z.2.2.2.2.1 else S) := c2.fr (k1 2 7 (by omega)) (k1 2 8 (by omega)) (fun j k h1 h2 => k1 j k (by omega)) (fun k _ => k1 15 k (by omega))
  obtain ⟨o1, o2, o3, o4⟩ := r6
  have q27 : ∀ i, (sO τ 0 v).1 27 i = σ.1 27 i := fun i => ag1.2 27 i (by unfold ePc rdP; omega)
  have q28 : ∀ i, (sO τ 0 v).1 28 i = σ.1 28 i := fun i => ag1.2 28 i (by unfold ePc rdP; omega)
  by_cases g : z.1 = 0
  · rw [if_pos g] at hC m2 c8 m8
    obtain ⟨g1, g2, g3, g4⟩ := hg g
    refine ⟨n, t, z.2.2.2.2.1, ob + 1, fun i => if i = ob then S.1 else fi i, wt, hT, m1, hC, m2, ⟨g2, g1⟩, ⟨(k1 2 9 (by omega)).trans c8, m8, by omega, fun i hi => ?_⟩, hl, hw, hwm⟩
    have agS : AG S z.2.2.2.2.1 S.1 := fun i k hk => g3.2.2.1 i k hk
    by_cases e : i = ob
    · subst e
      simp only [if_true]
      refine ⟨⟨by rw [k1 14 i (by omega), c9, if_pos ⟨g, rfl⟩], by rw [m9, if_pos ⟨g, rfl⟩], by rw [m10, if_pos ⟨g, rfl⟩, hsr g]⟩, g4, fun j hj => ?_, fun k hk => ?_⟩
      · rw [if_neg (by omega)]
        exact (o4 j hj).2.1
      · rw [agS.aen hk]
        exact (r5' k hk).1.1.2.2
    · obtain ⟨⟨f1, f2, f3⟩, f4, f5, f6⟩ := o4 i (by omega)
      simp only [if_neg e]
      refine ⟨⟨by rw [k1 14 i (by omega), c9, if_neg (fun y => e y.2)]; exact f1, by rw [m9, if_neg (fun y => e y.2), q27]; exact f2, by rw [m10, if_neg (fun y => e y.2), q28, f3, agS.asr f4]⟩, by omega, fun j hj => ?_, fun k hk => ?_⟩
      · rw [if_neg (by omega)]
        exact f5 j hj
      · rw [agS.aen (by omega)]
        exact f6 k hk
  · rw [if_neg g] at hC m2 c8 m8
    refine ⟨n, t, S, ob, fi, wt, hT, m1, hC, m2, ⟨r5, r5'⟩, ⟨(k1 2 9 (by omega)).trans c8, m8, o3, fun i hi => ?_⟩, hl, hw, hwm⟩
    obtain ⟨⟨f1, f2, f3⟩, f4⟩ := o4 i hi
    exact ⟨⟨by rw [k1 14 i (by omega), c9, if_neg (fun y => g y.1)]; exact f1, by rw [m9, if_neg (fun y => g y.1), q27]; exact f2, by rw [m10, if_neg (fun y => g y.1), q28]; exact f3⟩, f4⟩
end RR
