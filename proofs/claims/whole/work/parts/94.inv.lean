/-! ===== PURE: reading makes trees ===== -/
section IV
variable {S0 S : St} {d : Nat} {st : Nat → Nat} {kd : Bool}
theorem inv_add {what : Nat} {v x : Int32} {l : List Nat} (h : INV S0 S d st kd 0) (hS : SZ S) (hd : d ≤ 100) (hE : S0.1 ≤ S.1) (hw : what < 9) (h6 : what ≠ 6) (h7 : what ≠ 7) (ht : (what = 4 ∨ what = 5) → v = nI l.length) (hv : ((what = 2 ∨ what = 3) → ∃ s, s ≤ 2147483647 ∧ (v = nI s ∨ v = (- lN s).toInt32)) ∧ (what = 8 → ∃ p g, p ≤ 8388607 ∧ g ≤ 65535 ∧ v = nI p ∧ x = nI g) ∧ (what = 5 → x = 0)) (hk5 : kd = true → what = 5) : INV S0 (adS S what v x l d) d st kd 1 := by
  obtain ⟨i1, i2, i3⟩ := h
  have ag : AG S (adS S what v x l d) S.1 := AG.aad
  obtain ⟨a1, a2, a3, a4, a5, a6, a7, a8⟩ := ad_at (what := what) (v := v) (x := x) (l := l) hS hd
  have ncn : ¬ cn (adS S what v x l d) S.1 := by
    rintro (z | z)
    · exact h6 (KD_u a1 z (by omega) (by omega))
    · exact h7 (KD_u a1 z (by omega) (by omega))
  refine ⟨fun i hi => ?_, fun k hk => ?_, fun i hi => ?_⟩
  · obtain ⟨b1, b2, b3, b4, b5⟩ := i1 i hi
    refine ⟨b1, ?_, (ag.acn b2).mpr b3, by rw [ag.adp b2]; exact b4, b5⟩
    show st i < S.1 + 1
    omega
  · have hk' : k < S.1 + 1 := hk
    by_cases e : k < S.1
    · obtain ⟨c1, c2, c3, c4, c5⟩ := i2 k e
      refine ⟨ad_Nd hS hd e c1, fun z => ag.acm e c1.1.2.2 (c2 z), fun j hj z => ?_, fun j hj z z2 => ?_, fun z => ?_⟩
      · rw [ag.acn (by omega), ag.adp (by omega), ag.adp e]
        rw [ag.aen (by omega)] at z
        exact c3 j hj z
      · rw [ag.aen (by omega)] at z2
        rw [ag.aen e, ag.aen (by omega)]
        exact c4 j hj z z2
      · obtain ⟨e1, e2, x', e3, e4, e5⟩ := c5 ((ag.akd e).mp z)
        refine ⟨e1, fun j hj => ?_, x', e3, ?_, ?_⟩
        · rw [ag.aen (by omega)]; exact e2 j hj
        · rw [ag 2 k e]; exact e4
        · exact (ag.akd (by omega)).mpr e5
    · have ek : k = S.1 := by omega
      subst ek
      refine ⟨ad_new hS hd (by clear hv; omega) ht hv (fun z => by clear hv; omega), fun _ z => absurd z ncn, fun j hj z zc => ?_, fun j hj z z2 => ?_, fun z => ?_⟩
      · rcases z with ⟨i, hi, rfl⟩ | z
        · rw [a8, ag.adp hj, (i1 i hi).2.2.2.1]
          exact hi
        · rw [ag.aen hj] at z
          have := (i2 j hj).1.1.2.2
          omega
      · rw [ag.aen hj] at z2
        have := (i2 j hj).1.1.2.2
        omega
      · have := KD_u a1 z (by omega) (by omega)
        omega
  · obtain ⟨b1, b2, b3, b4, b5⟩ := i1 i hi
    obtain ⟨v', m, v1, v2, v3, v4⟩ := i3 i hi
    refine ⟨v', m, v1, by rw [ag 1 _ b2]; exact v2, fun z => ?_, ?_⟩
    · have ky := v3 ((ag.akd b2).mp z)
      by_cases e : i + 1 < d
      · rw [if_pos e] at v4 ky ⊢
        exact ag.aky v4.2 (by have := (i1 (i + 1) e).2.1; omega) ky
      · rw [if_neg e] at v4 ky ⊢
        have hw := ag.awk v4.2 (Nat.le_refl _)
        intro j hj
        by_cases e2 : 2 * j < m
        · rw [hw.2 _ (by omega)]
          exact (ag.akd (v4.2.2 (2 * j) (by omega))).mpr (ky j (by omega))
        · rw [show 2 * j = m + 0 by omega, hw.2 _ (by omega), v4.2.1]
          have hkt : kd = true := by
            rcases v4.1 with ⟨q, -⟩ | ⟨-, q⟩
            · have := KD_u q ((ag.akd b2).mp z) (by omega) (by omega)
              omega
            · cases kd with
              | true => rfl
              | false => simp at q; omega
          rw [hk5 hkt] at a1
          rw [hk5 hkt]
          exact a1
    · by_cases e : i + 1 < d
      · rw [if_pos e] at v4 ⊢
        refine ⟨?_, (ag.awk v4.2 (by have := (i1 (i + 1) e).2.1; omega)).1⟩
        unfold cnt
        rw [ag.akd b2, ag.akd b2]
        exact v4.1
      · rw [if_neg e] at v4 ⊢
        have hw := ag.awk v4.2 (Nat.le_refl _)
        refine ⟨?_, ?_, fun j hj => ?_⟩
        · unfold cnt
          rw [ag.akd b2, ag.akd b2]
          exact v4.1
        · show en (adS S what v x l d) (it (adS S what v x l d) (st i + 1) (m + 0)) = S.1 + 1
          rw [hw.1.1]
          exact a4
        · show _ < S.1 + 1
          rw [hw.2 j (by omega)]
          by_cases e2 : j < m
          · have := v4.2.2 j (by omega)
            omega
          · rw [show j = m + 0 by omega, v4.2.1]
            omega
theorem inv_opn {what : Nat} (h : INV S0 S d st false 0) (hS : SZ S) (hd : d < 100) (hE : S0.1 ≤ S.1) (hw : what = 6 ∨ what = 7) : INV S0 (adS S what 0 0 [] d) (d + 1) (stp st d S.1) (decide (what = 7)) 0 := by
  obtain ⟨i1, i2, i3⟩ := h
  have ag : AG S (adS S what 0 0 [] d) S.1 := AG.aad
  obtain ⟨a1, a2, a3, a4, a5, a6, a7, a8⟩ := ad_at (what := what) (v := 0) (x := 0) (l := []) hS (show d ≤ 100 by omega)
  have st0 : ∀ i, i < d → stp st d S.1 i = st i := fun i hi => if_neg (by omega)
  have std : stp st d S.1 d = S.1 := if_pos rfl
  have pn : ∀ k, k < S.1 → (pnd (d + 1) (stp st d S.1) k ↔ pnd d st k) := by
    intro k hk
    constructor
    · rintro ⟨i, hi, e⟩
      by_cases q : i = d
      · rw [q, std] at e; omega
      · exact ⟨i, by omega, by rw [← st0 i (by omega)]; exact e⟩
    · rintro ⟨i, hi, e⟩
      exact ⟨i, by omega, by rw [st0 i hi]; exact e⟩
  refine ⟨fun i hi => ?_, fun k hk => ?_, fun i hi => ?_⟩
  · by_cases e : i < d
    · obtain ⟨b1, b2, b3, b4, b5⟩ := i1 i e
      rw [st0 i e]
      refine ⟨b1, ?_, (ag.acn b2).mpr b3, by rw [ag.adp b2]; exact b4, fun j hj => by rw [st0 j (by omega)]; exact b5 j hj⟩
      show st i < S.1 + 1
      omega
    · have : i = d := by omega
      subst this
      rw [std]
      refine ⟨hE, ?_, ?_, a8, fun j hj => by rw [st0 j hj]; exact (i1 j hj).2.1⟩
      · show S.1 < S.1 + 1; omega
      · rcases hw with rfl | rfl
        · exact Or.inl a1
        · exact Or.inr a1
  · have hk' : k < S.1 + 1 := hk
    by_cases e : k < S.1
    · obtain ⟨c1, c2, c3, c4, c5⟩ := i2 k e
      refine ⟨ad_Nd hS (by omega) e c1, fun z => ag.acm e c1.1.2.2 (c2 (fun y => z ((pn k e).mpr y))), fun j hj z => ?_, fun j hj z z2 => ?_, fun z => ?_⟩
      · rw [ag.acn (by omega), ag.adp (by omega), ag.adp e]
        rw [ag.aen (by omega), pn j (by omega)] at z
        exact c3 j hj z
      · rw [ag.aen (by omega)] at z2
        rw [pn j (by omega)] at z
        rw [ag.aen e, ag.aen (by omega), pn k e]
        exact c4 j hj z z2
      · obtain ⟨e1, e2, x', e3, e4, e5⟩ := c5 ((ag.akd e).mp z)
        refine ⟨e1, fun j hj => ?_, x', e3, ?_, ?_⟩
        · rw [ag.aen (by omega)]; exact e2 j hj
        · rw [ag 2 k e]; exact e4
        · exact (ag.akd (by omega)).mpr e5
    · have ek : k = S.1 := by omega
      subst ek
      refine ⟨ad_new hS (by omega) (by omega) (fun z => by omega) ⟨fun z => by omega, fun z => by omega, fun z => by omega⟩ (fun z => by omega), fun z => absurd ⟨d, by omega, std⟩ z, fun j hj z zc => ?_, fun j hj z z2 => ?_, fun z => ?_⟩
      · rcases z with z | z
        · obtain ⟨i, hi, rfl⟩ := (pn j hj).mp z
          rw [a8, ag.adp hj, (i1 i hi).2.2.2.1]
          exact hi
        · rw [ag.aen hj] at z
          have := (i2 j hj).1.1.2.2
          omega
      · rw [ag.aen hj] at z2
        have := (i2 j hj).1.1.2.2
        omega
      · have := KD_u a1 z (by omega) (by omega)
        omega
  · by_cases e : i < d
    · obtain ⟨b1, b2, b3, b4, b5⟩ := i1 i e
      obtain ⟨v', m, v1, v2, v3, v4⟩ := i3 i e
      rw [st0 i e]
      have wk : cnt S (st i) false v' m ∧ WK S (st i + 1) m (stp st d S.1 (i + 1)) := by
        by_cases e2 : i + 1 < d
        · rw [if_pos e2] at v4
          rw [st0 _ e2]
          exact v4
        · rw [if_neg e2] at v4
          rw [show i + 1 = d by omega, std]
          exact v4
      have hle : stp st d S.1 (i + 1) ≤ S.1 := by
        by_cases e2 : i + 1 < d
        · rw [st0 _ e2]
          have := (i1 (i + 1) e2).2.1
          omega
        · rw [show i + 1 = d by omega, std]
          exact Nat.le_refl _
      have ky : KD S (st i) 7 → KY S (st i + 1) m := by
        intro z
        have := v3 z
        split at this
        · exact this
        · exact this
      refine ⟨v', m, v1, by rw [ag 1 _ b2]; exact v2, fun z => ?_, ?_⟩
      · rw [if_pos (by omega)]
        exact ag.aky wk.2 hle (ky ((ag.akd b2).mp z))
      · rw [if_pos (by omega)]
        refine ⟨?_, (ag.awk wk.2 hle).1⟩
        unfold cnt
        rw [ag.akd b2, ag.akd b2]
        exact wk.1
    · have : i = d := by omega
      subst this
      rw [std]
      refine ⟨0, 0, by omega, a2, fun z => ?_, ?_⟩
      · rw [if_neg (by omega)]
        intro j hj
        omega
      · rw [if_neg (by omega)]
        refine ⟨?_, rfl, fun j hj => by omega⟩
        rcases hw with rfl | rfl
        · exact Or.inl ⟨a1, rfl⟩
        · exact Or.inr ⟨a1, rfl⟩
theorem inv_close (h : INV S0 S d st kd 0) (hS : SZ S) (hd : 0 < d) (hk : kd = true ∨ KD S (st (d - 1)) 6) : INV S0 (cls S (st (d - 1))) (d - 1) st false 1 := by
  obtain ⟨i1, i2, i3⟩ := h
  obtain ⟨t1, t2, t3, t4, t5⟩ := i1 (d - 1) (by omega)
  have f : ∀ i k, (i ≠ 3 ∨ k ≠ st (d - 1)) → (cls S (st (d - 1))).2.1 i k = S.2.1 i k := fun i k z => if_neg (by omega)
  have fen : ∀ k, k ≠ st (d - 1) → en (cls S (st (d - 1))) k = en S k := fun k z => by unfold en; rw [f 3 k (Or.inr z)]
  have fec : en (cls S (st (d - 1))) (st (d - 1)) = S.1 := by
    unfold en
    rw [show (cls S (st (d - 1))).2.1 3 (st (d - 1)) = nI S.1 from if_pos ⟨rfl, rfl⟩]
    exact nI_clamp (by have := hS.1; omega)
  have fkd : ∀ k j, KD (cls S (st (d - 1))) k j ↔ KD S k j := fun k j => by unfold KD; rw [f 0 k (Or.inl (by omega))]
  have fcn : ∀ k, cn (cls S (st (d - 1))) k ↔ cn S k := fun k => by unfold cn; rw [fkd, fkd]
  have fdp : ∀ k, dpt (cls S (st (d - 1))) k = dpt S k := fun k => by unfold dpt; rw [f 5 k (Or.inl (by omega))]
  have fsr : ∀ k, sr (cls S (st (d - 1))) k = sr S k := fun k => by unfold sr; rw [f 4 k (Or.inl (by omega))]
  have fnx : ∀ k, nx (cls S (st (d - 1))) k = nx S k := fun k => by unfold nx; rw [fsr]; rfl
  have pn : ∀ k, pnd (d - 1) st k → pnd d st k := fun k ⟨i, hi, e⟩ => ⟨i, by omega, e⟩
  have np : ∀ k, k ≠ st (d - 1) → pnd d st k → pnd (d - 1) st k := by
    rintro k hk ⟨i, hi, e⟩
    by_cases q : i = d - 1
    · rw [q] at e; exact absurd e.symm hk
    · exact ⟨i, by omega, e⟩
  have pc : pnd d st (st (d - 1)) := ⟨d - 1, by omega, rfl⟩
  have npc : ∀ k, st (d - 1) ≤ k → ¬ pnd (d - 1) st k := by
    rintro k hk ⟨i, hi, e⟩
    have := t5 i (by omega)
    omega
  have enk : ∀ k, k < S.1 → k < en S k := fun k hk => (i2 k hk).1.1.2.1
  refine ⟨fun i hi => ?_, fun k hk' => ?_, fun i hi => ?_⟩
  · obtain ⟨b1, b2, b3, b4, b5⟩ := i1 i (by omega)
    exact ⟨b1, b2, (fcn _).mpr b3, by rw [fdp]; exact b4, b5⟩
  · have hk2 : k < S.1 := hk'
    obtain ⟨c1, c2, c3, c4, c5⟩ := i2 k hk2
    refine ⟨?_, fun z => ?_, fun j hj z => ?_, fun j hj z z2 => ?_, fun z => ?_⟩
    · obtain ⟨⟨n1, n2, n3⟩, n4, ⟨n5, n6, n7⟩, ⟨w1, w2, w3, w4⟩, n9⟩ := c1
      refine ⟨?_, fun z => ?_, ⟨?_, ?_, ?_⟩, ⟨?_, ?_, ?_, ?_⟩, ?_⟩
      · by_cases e : k = st (d - 1)
        · rw [e, fec]
          exact ⟨if_pos ⟨rfl, rfl⟩, t2, Nat.le_refl _⟩
        · rw [fen k e, f 3 k (Or.inr e)]
          exact ⟨n1, n2, n3⟩
      · have e : k ≠ st (d - 1) := fun e => z (by rw [e, fcn]; exact t3)
        rw [fen k e]
        exact n4 (fun y => z ((fcn k).mpr y))
      · rw [fsr, f 4 k (Or.inl (by omega))]; exact n5
      · rw [fsr, fnx]; exact n6
      · rw [fsr, fnx, fkd, fkd, f 1 k (Or.inl (by omega))]; exact n7
      · obtain ⟨j, hj, q⟩ := w1
        exact ⟨j, hj, (fkd k j).mpr q⟩
      · rw [fkd, fkd, f 1 k (Or.inl (by omega))]; exact w2
      · rw [fkd, f 1 k (Or.inl (by omega)), f 2 k (Or.inl (by omega))]; exact w3
      · rw [fkd, f 2 k (Or.inl (by omega))]; exact w4
      · rw [fcn, fdp]; exact n9
    · by_cases e : k = st (d - 1)
      · subst e
        intro _
        obtain ⟨v, m, v1, v2, v3, v4⟩ := i3 (d - 1) (by omega)
        rw [if_neg (by omega)] at v4 v3
        have hm : ∀ j, j < m + 0 → en (cls S (st (d - 1))) (it S (st (d - 1) + 1) j) = en S (it S (st (d - 1) + 1) j) := by
          intro j hj
          refine fen _ ?_
          have := it_ge enk j (fun i hi => v4.2.2 i (by omega))
          omega
        have hw := v4.2.congr hm
        refine ⟨v, v1, by rw [f 1 _ (Or.inl (by omega))]; exact v2, fun z => ?_, fun z => ?_⟩
        · rw [fec]
          rcases v4.1 with ⟨q1, q2⟩ | ⟨q1, q2⟩
          · rw [← q2]; exact hw.1
          · have := KD_u q1 ((fkd _ _).mp z) (by omega) (by omega)
            omega
        · rw [fec]
          have z' := (fkd _ _).mp z
          rcases v4.1 with ⟨q1, q2⟩ | ⟨q1, q2⟩
          · have := KD_u q1 z' (by omega) (by omega)
            omega
          · have hkt : kd = true := by
              rcases hk with q | q
              · exact q
              · have := KD_u q z' (by omega) (by omega)
                omega
            rw [hkt, if_pos rfl] at q2
            rw [show 2 * v = m + 0 by omega]
            exact ⟨hw.1, (v3 z').congr (fun j hj => hw.2 j (by omega)) (fun j hj y => (fkd _ _).mpr y)⟩
      · have zn : ¬ pnd d st k := fun y => z (np k e y)
        intro hcn
        obtain ⟨v, v1, v2, v3, v4⟩ := c2 zn ((fcn k).mp hcn)
        have nc : ∀ m j, WK S (k + 1) m (en S k) → j < m → it S (k + 1) j ≠ st (d - 1) := by
          intro m j hw hj q
          have h1 := hw.2 j hj
          have h2 := it_ge (c := k + 1) enk j (fun i hi => by have := hw.2 i (by omega); have := c1.1.2.2; omega)
          rw [q] at h1 h2
          exact ((i2 _ t2).2.2.2.1 k (by omega) zn h1).1 pc
        refine ⟨v, v1, by rw [f 1 k (Or.inl (by omega))]; exact v2, fun y => ?_, fun y => ?_⟩
        · rw [fen k e]
          have hw := v3 ((fkd _ _).mp y)
          exact (hw.congr (fun j hj => fen _ (nc _ j hw hj))).1
        · rw [fen k e]
          have hw := v4 ((fkd _ _).mp y)
          have hc := hw.1.congr (fun j hj => fen _ (nc _ j hw.1 hj))
          exact ⟨hc.1, hw.2.congr (fun j hj => hc.2 j (by omega)) (fun j hj y => (fkd _ _).mpr y)⟩
    · rw [fcn, fdp, fdp]
      by_cases e : j = st (d - 1)
      · subst e
        exact c3 _ hj (Or.inl pc)
      · rw [fen j e] at z
        exact c3 j hj (z.elim (fun y => Or.inl (pn j y)) Or.inr)
    · by_cases e : j = st (d - 1)
      · subst e
        refine ⟨npc k (by omega), ?_⟩
        rw [fec, fen k (by omega)]
        exact c1.1.2.2
      · rw [fen j e] at z2
        have := c4 j hj (fun y => z (np j e y)) z2
        have ek : k ≠ st (d - 1) := fun q => this.1 (by rw [q]; exact pc)
        rw [fen j e, fen k ek]
        exact ⟨fun y => this.1 (pn k y), this.2⟩
    · obtain ⟨e1, e2, x', e3, e4, e5⟩ := c5 ((fkd _ _).mp z)
      refine ⟨e1, fun j hj => ?_, x', e3, ?_, (fkd _ _).mpr e5⟩
      · rw [fen j (by omega)]; exact e2 j hj
      · rw [f 2 k (Or.inl (by omega))]; exact e4
  · obtain ⟨b1, b2, b3, b4, b5⟩ := i1 i (by omega)
    obtain ⟨v', m, v1, v2, v3, v4⟩ := i3 i (by omega)
    rw [if_pos (by omega)] at v4 v3
    have hc : cnt (cls S (st (d - 1))) (st i) false v' m := by
      unfold cnt
      rw [fkd, fkd]
      exact v4.1
    have hlt : st (i + 1) ≤ st (d - 1) := by
      by_cases e : i + 1 = d - 1
      · rw [e]; exact Nat.le_refl _
      · have := t5 (i + 1) (by omega); omega
    have hw := v4.2.congr (S' := cls S (st (d - 1))) (fun j hj => fen _ (by have := v4.2.2 j hj; omega))
    refine ⟨v', m, v1, by rw [f 1 _ (Or.inl (by omega))]; exact v2, fun z => ?_, ?_⟩
    · have ky := v3 ((fkd _ _).mp z)
      have kc : KY (cls S (st (d - 1))) (st i + 1) m := ky.congr (fun j hj => hw.2 j (by omega)) (fun j hj y => (fkd _ _).mpr y)
      by_cases e : i + 1 < d - 1
      · rw [if_pos e]
        exact kc
      · rw [if_neg e]
        intro j hj
        refine kc j ?_
        rcases v4.1 with ⟨q1, q2⟩ | ⟨q1, q2⟩
        · have := KD_u q1 ((fkd _ _).mp z) (by omega) (by omega)
          omega
        · simp at q2
          omega
    · by_cases e : i + 1 < d - 1
      · rw [if_pos e]
        exact ⟨hc, hw.1⟩
      · rw [if_neg e]
        have ed : i + 1 = d - 1 := by omega
        rw [ed] at hw
        refine ⟨hc, ?_, fun j hj => ?_⟩
        · show en (cls S (st (d - 1))) (it (cls S (st (d - 1))) (st i + 1) m) = S.1
          rw [hw.1.1]
          exact fec
        · show _ < S.1
          by_cases e2 : j < m
          · have := hw.1.2 j e2; omega
          · rw [show j = m by omega, hw.1.1]
            exact t2
theorem inv_val (h : INV S0 S d st false 1) (hS : SZ S) (hd : 0 < d) : INV S0 (inc S (st (d - 1))) d st (kd0 S d st) 0 := by
  obtain ⟨i1, i2, i3⟩ := h
  obtain ⟨t1, t2, t3, t4, t5⟩ := i1 (d - 1) (by omega)
  have f : ∀ i k, (i ≠ 1 ∨ k ≠ st (d - 1)) → (inc S (st (d - 1))).2.1 i k = S.2.1 i k := fun i k z => if_neg (by omega)
  have fen : ∀ k, en (inc S (st (d - 1))) k = en S k := fun k => by unfold en; rw [f 3 k (Or.inl (by omega))]
  have fkd : ∀ k j, KD (inc S (st (d - 1))) k j ↔ KD S k j := fun k j => by unfold KD; rw [f 0 k (Or.inl (by omega))]
  have fcn : ∀ k, cn (inc S (st (d - 1))) k ↔ cn S k := fun k => by unfold cn; rw [fkd, fkd]
  have fdp : ∀ k, dpt (inc S (st (d - 1))) k = dpt S k := fun k => by unfold dpt; rw [f 5 k (Or.inl (by omega))]
  have fsr : ∀ k, sr (inc S (st (d - 1))) k = sr S k := fun k => by unfold sr; rw [f 4 k (Or.inl (by omega))]
  have fnx : ∀ k, nx (inc S (st (d - 1))) k = nx S k := fun k => by unfold nx; rw [fsr]; rfl
  have fwk : ∀ c m e, WK S c m e → WK (inc S (st (d - 1))) c m e := fun c m e hw => (hw.congr (fun j hj => fen _)).1
  have fky : ∀ c m, KY S c m → KY (inc S (st (d - 1))) c m := fun c m hk => hk.congr (fun j hj => it_congr (m) (fun i hi => fen _) j (by omega)) (fun j hj y => (fkd _ _).mpr y)
  have nk : ∀ j, j < 10 → j ≠ 6 → j ≠ 7 → ∀ k, KD S k j → k ≠ st (d - 1) := by
    intro j hj h6 h7 k z e
    rw [e] at z
    rcases t3 with q | q
    · exact h6 (KD_u z q hj (by omega))
    · exact h7 (KD_u z q hj (by omega))
  have enk : ∀ k, k < S.1 → k < en S k := fun k hk => (i2 k hk).1.1.2.1
  refine ⟨fun i hi => ?_, fun k hk' => ?_, fun i hi => ?_⟩
  · obtain ⟨b1, b2, b3, b4, b5⟩ := i1 i hi
    exact ⟨b1, b2, (fcn _).mpr b3, by rw [fdp]; exact b4, b5⟩
  · have hk2 : k < S.1 := hk'
    obtain ⟨c1, c2, c3, c4, c5⟩ := i2 k hk2
    refine ⟨?_, fun z => ?_, fun j hj z => ?_, fun j hj z z2 => ?_, fun z => ?_⟩
    · obtain ⟨⟨n1, n2, n3⟩, n4, ⟨n5, n6, n7⟩, ⟨w1, w2, w3, w4⟩, n9⟩ := c1
      refine ⟨?_, ?_, ⟨?_, ?_, ?_⟩, ⟨?_, ?_, ?_, ?_⟩, ?_⟩
      · rw [fen, f 3 k (Or.inl (by omega))]
        exact ⟨n1, n2, n3⟩
      · rw [fen, fcn]; exact n4
      · rw [fsr, f 4 k (Or.inl (by omega))]; exact n5
      · rw [fsr, fnx]; exact n6
      · rw [fsr, fnx, fkd, fkd]
        intro z
        rw [f 1 k (Or.inr (z.elim (nk 4 (by omega) (by omega) (by omega) k) (nk 5 (by omega) (by omega) (by omega) k)))]
        exact n7 z
      · obtain ⟨j, hj, q⟩ := w1
        exact ⟨j, hj, (fkd k j).mpr q⟩
      · rw [fkd, fkd]
        intro z
        rw [f 1 k (Or.inr (z.elim (nk 2 (by omega) (by omega) (by omega) k) (nk 3 (by omega) (by omega) (by omega) k)))]
        exact w2 z
      · rw [fkd]
        intro z
        rw [f 1 k (Or.inr (nk 8 (by omega) (by omega) (by omega) k z)), f 2 k (Or.inl (by omega))]
        exact w3 z
      · rw [fkd, f 2 k (Or.inl (by omega))]; exact w4
      · rw [fcn, fdp]; exact n9
    · have e : k ≠ st (d - 1) := fun e => z ⟨d - 1, by omega, e.symm⟩
      intro hcn
      obtain ⟨v, v1, v2, v3, v4⟩ := c2 z ((fcn k).mp hcn)
      refine ⟨v, v1, by rw [f 1 k (Or.inr e)]; exact v2, fun y => ?_, fun y => ?_⟩
      · rw [fen]; exact fwk _ _ _ (v3 ((fkd _ _).mp y))
      · have := v4 ((fkd _ _).mp y)
        rw [fen]
        exact ⟨fwk _ _ _ this.1, fky _ _ this.2⟩
    · rw [fcn, fdp, fdp]
      rw [fen] at z
      exact c3 j hj z
    · rw [fen] at z2
      rw [fen, fen]
      exact c4 j hj z z2
    · obtain ⟨e1, e2, x', e3, e4, e5⟩ := c5 ((fkd _ _).mp z)
      refine ⟨e1, fun j hj => by rw [fen]; exact e2 j hj, x', e3, ?_, (fkd _ _).mpr e5⟩
      rw [f 2 k (Or.inl (by omega))]; exact e4
  · obtain ⟨b1, b2, b3, b4, b5⟩ := i1 i hi
    obtain ⟨v, m, v1, v2, v3, v4⟩ := i3 i hi
    by_cases e : i + 1 < d
    · rw [if_pos e] at v4 v3
      have hne : st i ≠ st (d - 1) := by have := t5 i (by omega); omega
      refine ⟨v, m, v1, by rw [f 1 _ (Or.inr hne)]; exact v2, fun z => ?_, ?_⟩
      · rw [if_pos e]
        exact fky _ _ (v3 ((fkd _ _).mp z))
      · rw [if_pos e]
        refine ⟨?_, fwk _ _ _ v4.2⟩
        unfold cnt
        rw [fkd, fkd]
        exact v4.1
    · rw [if_neg e] at v4 v3
      have ei : i = d - 1 := by omega
      subst ei
      have hb := it_ge enk (m + 1) (fun j hj => v4.2.2 j hj)
      rw [v4.2.1] at hb
      have hz := hS.1
      have hvm : v ≤ m := by
        rcases v4.1 with ⟨_, q⟩ | ⟨_, q⟩ <;> omega
      refine ⟨v + 1, m + 1, by omega, ?_, fun z => ?_, ?_⟩
      · rw [show (inc S (st (d - 1))).2.1 1 (st (d - 1)) = S.2.1 1 (st (d - 1)) + 1 from if_pos ⟨rfl, rfl⟩, v2, nI_succ]
      · rw [if_neg e]
        exact fky _ _ (v3 ((fkd _ _).mp z))
      · rw [if_neg e]
        refine ⟨?_, fwk _ _ _ v4.2⟩
        unfold cnt
        rw [fkd, fkd]
        rcases v4.1 with ⟨q1, q2⟩ | ⟨q1, q2⟩
        · exact Or.inl ⟨q1, by omega⟩
        · refine Or.inr ⟨q1, ?_⟩
          have : kd0 S d st = true := decide_eq_true ⟨hd, q1⟩
          rw [this, if_pos rfl]
          simp at q2
          omega
theorem inv_key (h : INV S0 S d st true 1) (hd : 0 < d) (h7 : KD S (st (d - 1)) 7) : INV S0 S d st false 0 := by
  obtain ⟨i1, i2, i3⟩ := h
  refine ⟨i1, i2, fun i hi => ?_⟩
  obtain ⟨v, m, v1, v2, v3, v4⟩ := i3 i hi
  by_cases e : i + 1 < d
  · rw [if_pos e] at v4 v3
    refine ⟨v, m, v1, v2, ?_, ?_⟩
    · rw [if_pos e]; exact v3
    · rw [if_pos e]; exact v4
  · rw [if_neg e] at v4 v3
    have ei : i = d - 1 := by omega
    subst ei
    refine ⟨v, m + 1, v1, v2, ?_, ?_⟩
    · rw [if_neg e]; exact v3
    · rw [if_neg e]
      refine ⟨Or.inr ⟨h7, ?_⟩, v4.2⟩
      rcases v4.1 with ⟨q1, q2⟩ | ⟨q1, q2⟩
      · have := KD_u q1 h7 (by omega) (by omega)
        omega
      · simp at q2
        simp
        omega
theorem inv_q0 {kd' : Bool} {q q' : Nat} (h : INV S0 S 0 st kd q) : INV S0 S 0 st kd' q' := ⟨h.1, h.2.1, fun i hi => absurd hi (Nat.not_lt_zero i)⟩
theorem inv_v1 (h : INV S0 S d st false 1) (hS : SZ S) : INV S0 (val1 S d st).1 (val1 S d st).2.1 (val1 S d st).2.2.1 (val1 S d st).2.2.2 0 := by
  unfold val1
  split
  · rename_i e
    subst e
    exact inv_q0 h
  · exact inv_val h hS (by omega)
def INR (S0 : St) (R : Rd) : Prop := INV S0 R.1 R.2.1 R.2.2.1 R.2.2.2 0 ∧ S0.1 ≤ R.1.1
theorem INR.trn {n : Nat} {t : Nat → Nat} {R : Rd} {a : Nat} (hO : OKR R) (h : INR S0 R) : INR S0 (trn n t R a).2.1 := by
  have hge : ∀ S d st, S0.1 ≤ S.1 → S0.1 ≤ (val1 S d st).1.1 := by
    intro S d st z
    unfold val1
    split
    · exact z
    · exact z
  obtain ⟨o1, o2, o3, o4⟩ := hO
  refine trn_ind (INR S0) ⟨o1, o2, o3, o4⟩ h (fun hk what v x l hl h1 h2 => ?_) (fun hk what hw h1 h2 => ?_) (fun hd hk => ?_) (fun hk l h1 h2 => ?_)
  · obtain ⟨l1, l2, l3, l4, l5, l6⟩ := hl
    have := inv_add (what := what) (v := v) (x := x) (l := l) h.1 o1 o2 h.2 (by clear l3 l4; omega) (by clear l3 l4; omega) (by clear l3 l4; omega) l2 ⟨l3, l4, fun z => l5 (by clear l3 l4; omega)⟩ (fun z => by rw [hk] at z; cases z)
    rw [hk] at this
    refine ⟨inv_v1 this ⟨?_, ?_⟩, hge _ _ _ ?_⟩
    · show R.1.1 + 1 ≤ 4000; omega
    · exact h2
    · have := h.2
      show S0.1 ≤ R.1.1 + 1; omega
  · have hi := h.1
    rw [hk] at hi
    refine ⟨inv_opn hi o1 h1 h.2 hw, ?_⟩
    have := h.2
    show S0.1 ≤ R.1.1 + 1; omega
  · exact ⟨inv_v1 (inv_close h.1 o1 hd hk) o1, hge _ _ _ h.2⟩
  · have hi := h.1
    rw [hk] at hi
    have hd := o4 hk
    have := inv_add (what := 5) (v := nI l.length) (x := 0) (l := l) hi o1 o2 h.2 (by omega) (by omega) (by omega) (fun _ => rfl) ⟨fun z => by omega, fun z => by omega, fun _ => rfl⟩ (fun _ => rfl)
    refine ⟨inv_key this hd.1 ?_, ?_⟩
    · exact (AG.aad.akd (o3 (R.2.1 - 1) (by omega))).mpr hd.2
    · have := h.2
      show S0.1 ≤ R.1.1 + 1; omega
theorem WF.inr (h : WF S) : INV S S 0 st kd 0 := by
  refine ⟨fun i hi => absurd hi (Nat.not_lt_zero i), fun k hk => ?_, fun i hi => absurd hi (Nat.not_lt_zero i)⟩
  obtain ⟨h1, h2, h3, h4⟩ := h k hk
  have np : ∀ j, ¬ pnd 0 st j := fun j ⟨i, hi, _⟩ => absurd hi (Nat.not_lt_zero i)
  refine ⟨h1, fun _ => h2, fun j hj z => ?_, fun j hj z z2 => ⟨np k, (h3 j hj z2).2.1⟩, fun z => ⟨hk, fun j hj => ?_, h4 z⟩⟩
  · rcases z with z | z
    · exact absurd z (np j)
    · exact (h3 j hj z).1
  · by_cases q : en S j ≤ k
    · exact q
    · exact absurd z (h3 j hj (by omega)).2.2
theorem INV.wf {q : Nat} (h : INV S0 S 0 st kd q) : WF S := by
  intro k hk
  obtain ⟨h1, h2, h3, h4, h5⟩ := h.2.1 k hk
  have np : ∀ j, ¬ pnd 0 st j := fun j ⟨i, hi, _⟩ => absurd hi (Nat.not_lt_zero i)
  refine ⟨h1, h2 (np k), fun j hj z => ⟨h3 j hj (Or.inr z), (h4 j hj (np j) z).2, fun y => ?_⟩, fun z => (h5 z).2.2⟩
  have := (h5 y).2.1 j hj
  omega
theorem val1_n {S : St} {d : Nat} {st : Nat → Nat} : (val1 S d st).1.1 = S.1 := by
  unfold val1
  split <;> rfl
theorem leaf_n {R : Rd} {what b : Nat} {v x : Int32} {l : List Nat} (h : (leaf R what v x l b).1 = 0) : (leaf R what v x l b).2.1.1.1 = R.1.1 + 1 := by
  unfold leaf at h ⊢
  split at h
  · cases h
  · rename_i g
    rw [if_neg g]
    exact val1_n
theorem trn_n {n : Nat} {t : Nat → Nat} {R : Rd} {a : Nat} (hO : OKR R) (hE : EXR S0 R) (h : (trn n t R a).1 = 0) : S0.1 < (trn n t R a).2.1.1.1 := by
  have h0 := hE.1.1
  have cl : 0 < R.2.1 → ∀ b, S0.1 < (cl1 R b).2.1.1.1 := by
    intro hd b
    show S0.1 < (val1 _ _ _).1.1
    rw [val1_n]
    have := hE.2 0 hd
    have := hO.2.2.1 0 hd
    show S0.1 < R.1.1
    omega
  have lf : ∀ what v x l b, (leaf R what v x l b).1 = 0 → S0.1 < (leaf R what v x l b).2.1.1.1 := by
    intro what v x l b z
    rw [leaf_n z]
    omega
  have op : ∀ what b, (opn R what b).1 = 0 → S0.1 < (opn R what b).2.1.1.1 := by
    intro what b z
    unfold opn at z ⊢
    split at z
    · cases z
    · rename_i g
      split at z
      · cases z
      · rename_i g2
        rw [if_neg g, if_neg g2]
        show S0.1 < R.1.1 + 1
        omega
  unfold trn at h ⊢
  split at h
  · rename_i gw
    rw [if_pos gw]
    unfold tkn at h ⊢
    split at h
    · rename_i hk
      rw [if_pos hk]
      split at h
      · rename_i g4
        rw [if_pos g4]
        exact cl (hO.2.2.2 hk).1 _
      · rename_i g4
        rw [if_neg g4]
        split at h
        · rename_i g6
          rw [if_pos g6]
          unfold key1 at h ⊢
          split at h
          · cases h
          · rename_i g
            rw [if_neg g]
            show S0.1 < R.1.1 + 1
            omega
        · cases h
    · rename_i hk
      rw [if_neg hk]
      split at h
      · rename_i g1
        rw [if_pos g1]
        exact op _ _ h
      · rename_i g1
        rw [if_neg g1]
        split at h
        · rename_i g3
          rw [if_pos g3]
          exact op _ _ h
        · rename_i g3
          rw [if_neg g3]
          split at h
          · rename_i g2
            rw [if_pos g2]
            split at h
            · rename_i g
              rw [if_pos g]
              exact cl g.1 _
            · cases h
          · rename_i g2
            rw [if_neg g2]
            split at h
            · rename_i g5
              rw [if_pos g5]
              exact lf _ _ _ _ _ h
            · rename_i g5
              rw [if_neg g5]
              split at h
              · rename_i g6
                rw [if_pos g6]
                exact lf _ _ _ _ _ h
              · rename_i g6
                rw [if_neg g6]
                split at h
                · rename_i g7
                  rw [if_pos g7]
                  unfold wrd at h ⊢
                  split at h
                  · exact lf _ _ _ _ _ h
                  · split at h
                    · rename_i w1
                      rw [if_pos w1]
                      exact lf _ _ _ _ _ h
                    · rename_i w1
                      rw [if_neg w1]
                      split at h
                      · rename_i w2
                        rw [if_pos w2]
                        exact lf _ _ _ _ _ h
                      · rename_i w2
                        rw [if_neg w2]
                        split at h
                        · rename_i w3
                          rw [if_pos w3]
                          exact lf _ _ _ _ _ h
                        · rename_i w3
                          rw [if_neg w3]
                          split at h
                          · rename_i w4
                            rw [if_pos w4]
                            exact lf _ _ _ _ _ h
                          · cases h
                · cases h
  · rename_i gw
    exact absurd h gw
theorem rdo_n {n : Nat} {t : Nat → Nat} : ∀ m (R : Rd) k, OKR R → EXR S0 R → (rdo n t m R k).1 = 0 → S0.1 < (rdo n t m R k).2.1.1.1 := by
  intro m
  induction m with
  | zero => intro R k hO hE h; cases h
  | succ m ih =>
    intro R k hO hE h
    simp only [rdo] at h ⊢
    split at h
    · rename_i g
      rw [if_pos g]
      split at h
      · rename_i g2
        rw [if_pos g2]
        exact trn_n hO hE g
      · rename_i g2
        rw [if_neg g2]
        exact ih _ _ (trn_ok hO) (EXR.trn hO hE) h
    · rename_i g
      exact absurd h g
/-- what a whole reading gives -/
theorem rdo_wf {n : Nat} {t : Nat → Nat} {m k : Nat} (hS : SZ S) (h : WF S) (h0 : (rdo n t m (S, 0, st, false) k).1 = 0) : WF (rdo n t m (S, 0, st, false) k).2.1.1 ∧ S.1 < (rdo n t m (S, 0, st, false) k).2.1.1.1 := by
  have hO : OKR (S, 0, st, false) := ⟨hS, Nat.zero_le _, fun i hi => absurd hi (Nat.not_lt_zero i), fun z => by cases z⟩
  obtain ⟨r1, r2⟩ := rdo_ind (INR S) (fun R a h1 h2 => INR.trn h1 h2) m (S, 0, st, false) k hO ⟨h.inr, Nat.le_refl _⟩
  have := r2 h0
  have hi := r1.1
  rw [this] at hi
  exact ⟨hi.wf, rdo_n m _ k hO ⟨EX.rf, fun i hi => absurd hi (Nat.not_lt_zero i)⟩ h0⟩
end IV
