/-! ===== PURE: the law, more cases ===== -/
theorem one_no {S : St} {x : Int32} {i : Nat} (hz : S.1 ≤ 4000) (hi : i < S.1) (hx : x = nI i) : ¬ (x < 0 ∨ nI S.1 ≤ x) := by
  rintro (g | g)
  · rw [hx] at g; exact nI_pos (by omega) g
  · rw [hx] at g; exact absurd ((nI_leI (by omega) (by omega)).mp g) (by omega)
theorem two_no {S : St} {x y : Int32} {i j : Nat} (hz : S.1 ≤ 4000) (hi : i < S.1) (hj : j < S.1) (hx : x = nI i) (hy : y = nI j) : ¬ ((x < 0 ∨ nI S.1 ≤ x) ∨ (y < 0 ∨ nI S.1 ≤ y)) := by
  rintro (g | g)
  · exact one_no hz hi hx g
  · exact one_no hz hj hy g
section LW2
variable {L : Nat} {xs : Nat → Int32} {σ : Sg} {T i : Nat} {z5 z6 : Option Value} {I : Jt}
theorem law_entry (hI : Cl (FL L xs) I) (hT : T + 2 ≤ 100200) (hi : i + 6 ≤ L) (hL : L ≤ 384) (hR : Rel σ) (h : ∀ T' τ z5 z6, T' ≤ T + 2 → Rel τ → I T' 1052 (lcl i z5 z6) [] τ) : I T 377 (lcl i z5 z6) [] σ := by
  obtain ⟨n, t, S, ob, fi, wt, hB⟩ := hR
  have hB' := hB
  obtain ⟨r1, r2, r3, r4, ⟨r5, r5'⟩, r6, r7, r8, r9⟩ := hB
  have ix := ixo 1 hi (by omega) hL
  refine run_in (stop := fun pc => Nat.beq pc 1052) hI 80 ?_
  refine ⟨rfl, ix, ?_⟩
  refine ⟨by show T + 1 ≤ 100200; omega, ?_⟩
  refine ⟨rfl, fun J hJ => run_in (stop := fun _ => false) hJ 40 ?_⟩
  refine ⟨Nat.le_refl _, sp_X7_entry r1 r3 r5 r5' r6.1 r6.2.2.1 (fun g => ?_) (fun k hk hx τ c1 c2 c3 c4 c5 c6 c7 c8 c9 => ?_)⟩
  · refine hx_A rfl ?_
    refine ⟨rfl, ix, ?_⟩
    refine ⟨by show T + 1 + 0 ≤ 100200; omega, sp_X8_entry r2 r4 r5 r5' r6.2.1 r6.2.2.1 (fun _ => ?_) (fun k hk hx => ?_)⟩
    · refine ⟨by show T + 1 + 0 + 0 ≤ 100200; omega, sp_X8_thrown ?_⟩
      refine And.intro (fun _ => ?_) (fun z => absurd rfl z)
      refine And.intro (fun _ => ?_) (fun z => absurd z (by decide))
      exact h _ _ _ _ (by show T + 1 + 0 + 0 ≤ T + 2; omega) ⟨n, t, S, ob, fi, wt, hB'.ag (P := f0P) ⟨rfl, fun j k z => sM_o (by unfold f0P at z; omega)⟩ (fun j k z => Or.inl z)⟩
    · exfalso
      rw [hx] at g
      have hn := r1.2.1
      rcases g with g | g
      · exact nI_pos (by omega) g
      · exact absurd ((nI_ltI (by omega) (by omega)).mp g) (by omega)
  · refine ⟨rfl, vz, ?_⟩
    refine ⟨rfl, ix, ?_⟩
    generalize hzz : ent n t S k = z at c2 c5 c6 c7 c8 c9
    have hnm : ∀ j q, (j = 7 ∨ 20 ≤ j) → τ.1 j q = σ.1 j q := fun j q hj => c3.2 j q (by unfold ePc rdP; omega)
    have r2' : TapeM (sO τ 0 (if z.1 = 0 then nI z.2.2.2.2.2 else fI z.1).toInt64) n t := r2.fr (hnm 7 1 (by omega)) (fun k => hnm 20 k (by omega))
    have r4' : MS (sO τ 0 (if z.1 = 0 then nI z.2.2.2.2.2 else fI z.1).toInt64) S := r4.fr (hnm 7 3 (by omega)) (hnm 7 9 (by omega)) (fun j k h1 h2 => hnm j k (by omega))
    refine ⟨by show T + 1 + 0 ≤ 100200; omega, sp_X8_entry r2' r4' r5 r5' ((hnm 7 11 (by omega)).trans r6.2.1) r6.2.2.1 (fun g => ?_) (fun k' hk' hx' υ m1 m2 m3 m0 m4 m5 m6 m7 m8 m9 m10 => ?_)⟩
    · exfalso
      rw [hx] at g
      have hn := r1.2.1
      rcases g with g | g
      · exact nI_pos (by omega) g
      · exact absurd ((nI_ltI (by omega) (by omega)).mp g) (by omega)
    · have hkk : k' = k := by
        have hn := r1.2.1
        rw [hx] at hx'
        exact ((nI_eq (by omega) (by omega)).mp hx').symm
      subst hkk
      rw [hzz] at m2 m5 m6 m7 m8 m9 m10
      have eo : υ.2.2 0 = (if z.1 = 0 then nI z.2.2.2.2.2 else fI z.1).toInt64 := by rw [m3.1]; show vp_updL τ.2.2 0 _ 0 = _; exact pk_uLs
      refine ⟨by show T + 1 + 0 + 0 ≤ 100200; omega, sp_X8_thrown ?_⟩
      rw [m0]
      refine And.intro (fun _ => ?_) (fun z => absurd rfl z)
      refine And.intro (fun z => absurd rfl z) (fun _ => ?_)
      refine ⟨rfl, vz, ?_⟩
      rw [hzz]
      show (lg_cmp (υ.2.2 0) (if z.1 = 0 then nI z.2.2.2.2.2 else fI z.1).toInt64 = 0 → _) ∧ (¬ lg_cmp (υ.2.2 0) (if z.1 = 0 then nI z.2.2.2.2.2 else fI z.1).toInt64 = 0 → _)
      rw [eo, lg_xx]
      refine And.intro (fun _ => ?_) (fun z => absurd rfl z)
      refine h _ _ _ _ (by show T + 1 + 0 + 0 ≤ T + 2; omega) ?_
      exact rel_read hB' (by rw [← hzz]; exact ent_good r5 r5') (by rw [← hzz]; exact ent_sr r5 r5') c1 c2 c3 c4 c5 c6 c7 c8 c9 m1 m2 m3 m4 m5 m6 m7 m8 m9 m10
theorem law_kind (hI : Cl (FL L xs) I) (hT : T + 2 ≤ 100200) (hi : i + 6 ≤ L) (hL : L ≤ 384) (hR : Rel σ) (h : ∀ T' τ z5 z6, T' ≤ T + 2 → Rel τ → I T' 1052 (lcl i z5 z6) [] τ) : I T 458 (lcl i z5 z6) [] σ := by
  obtain ⟨n, t, S, ob, fi, wt, hB⟩ := hR
  have hB' := hB
  obtain ⟨r1, r2, r3, r4, ⟨r5, r5'⟩, r6, r7, r8, r9⟩ := hB
  have ix := ixo 1 hi (by omega) hL
  have ix2 := ixo 2 hi (by omega) hL
  have ix3 := ixo 3 hi (by omega) hL
  have hz := r5.1
  have f0 : ∀ (τ : Sg) (v : Int32), Ag (fun _ _ => False) σ τ → Rel (sM τ 7 0 v) := fun τ v a => ⟨n, t, S, ob, fi, wt, hB'.ag (P := f0P) ⟨a.1, fun j k z => (sM_o (by unfold f0P at z; omega)).trans (a.2 j k (fun y => y))⟩ (fun j k z => Or.inl z)⟩
  have ags : Ag (fun _ _ => False) σ σ := ⟨rfl, fun _ _ _ => rfl⟩
  refine run_in (stop := fun pc => Nat.beq pc 1052) hI 80 ?_
  refine ⟨rfl, ix, ?_⟩
  refine ⟨by show T + 1 ≤ 100200; omega, ?_⟩
  refine ⟨rfl, fun J hJ => run_in (stop := fun _ => false) hJ 40 ?_⟩
  refine ⟨Nat.le_refl _, sp_X7_kind r3 r5 (fun g => ?_) (fun i1 hi1 hx1 => ?_)⟩
  · refine hx_A rfl ?_
    refine ⟨rfl, ix, ?_⟩
    refine ⟨by show T + 1 + 0 ≤ 100200; omega, sp_X8_kind r4 r5 (fun _ => ?_) (fun i2 hi2 hx2 => ?_)⟩
    · refine ⟨by show T + 1 + 0 + 0 ≤ 100200; omega, sp_X8_thrown ?_⟩
      refine And.intro (fun _ => ?_) (fun z => absurd rfl z)
      refine And.intro (fun _ => ?_) (fun z => absurd z (by decide))
      exact h _ _ _ _ (by show T + 1 + 0 + 0 ≤ T + 2; omega) (f0 _ _ ags)
    · exact absurd g (one_no hz hi2 hx2)
  · refine ⟨rfl, vz, ?_⟩
    refine ⟨rfl, ix, ?_⟩
    refine ⟨by show T + 1 + 0 ≤ 100200; omega, sp_X8_kind r4 r5 (fun g => ?_) (fun i2 hi2 hx2 => ?_)⟩
    · exact absurd g (one_no hz hi1 hx1)
    · refine ⟨by show T + 1 + 0 + 0 ≤ 100200; omega, sp_X8_thrown ?_⟩
      have e1 : i2 = i1 := (nI_eq (by omega) (by omega)).mp (hx2.symm.trans hx1)
      subst e1
      rw [sM_s]
      refine And.intro (fun _ => ?_) (fun z => absurd rfl z)
      refine And.intro (fun z => absurd rfl z) (fun _ => ?_)
      refine ⟨rfl, vz, ?_⟩
      show (lg_cmp (vp_updL σ.2.2 0 (S.2.1 0 i2).toInt64 0) (S.2.1 0 i2).toInt64 = 0 → _) ∧ (¬ lg_cmp (vp_updL σ.2.2 0 (S.2.1 0 i2).toInt64 0) (S.2.1 0 i2).toInt64 = 0 → _)
      rw [pk_uLs, lg_xx]
      refine And.intro (fun _ => ?_) (fun z => absurd rfl z)
      exact h _ _ _ _ (by show T + 1 + 0 + 0 ≤ T + 2; omega) (f0 _ _ ags)
theorem law_value (hI : Cl (FL L xs) I) (hT : T + 2 ≤ 100200) (hi : i + 6 ≤ L) (hL : L ≤ 384) (hR : Rel σ) (h : ∀ T' τ z5 z6, T' ≤ T + 2 → Rel τ → I T' 1052 (lcl i z5 z6) [] τ) : I T 514 (lcl i z5 z6) [] σ := by
  obtain ⟨n, t, S, ob, fi, wt, hB⟩ := hR
  have hB' := hB
  obtain ⟨r1, r2, r3, r4, ⟨r5, r5'⟩, r6, r7, r8, r9⟩ := hB
  have ix := ixo 1 hi (by omega) hL
  have ix2 := ixo 2 hi (by omega) hL
  have ix3 := ixo 3 hi (by omega) hL
  have hz := r5.1
  have f0 : ∀ (τ : Sg) (v : Int32), Ag (fun _ _ => False) σ τ → Rel (sM τ 7 0 v) := fun τ v a => ⟨n, t, S, ob, fi, wt, hB'.ag (P := f0P) ⟨a.1, fun j k z => (sM_o (by unfold f0P at z; omega)).trans (a.2 j k (fun y => y))⟩ (fun j k z => Or.inl z)⟩
  have ags : Ag (fun _ _ => False) σ σ := ⟨rfl, fun _ _ _ => rfl⟩
  refine run_in (stop := fun pc => Nat.beq pc 1052) hI 80 ?_
  refine ⟨rfl, ix, ?_⟩
  refine ⟨by show T + 1 ≤ 100200; omega, ?_⟩
  refine ⟨rfl, fun J hJ => run_in (stop := fun _ => false) hJ 40 ?_⟩
  refine ⟨Nat.le_refl _, sp_X7_value r3 r5 (fun g => ?_) (fun i1 hi1 hx1 => ?_)⟩
  · refine hx_A rfl ?_
    refine ⟨rfl, ix, ?_⟩
    refine ⟨by show T + 1 + 0 ≤ 100200; omega, sp_X8_value r4 r5 (fun _ => ?_) (fun i2 hi2 hx2 => ?_)⟩
    · refine ⟨by show T + 1 + 0 + 0 ≤ 100200; omega, sp_X8_thrown ?_⟩
      refine And.intro (fun _ => ?_) (fun z => absurd rfl z)
      refine And.intro (fun _ => ?_) (fun z => absurd z (by decide))
      exact h _ _ _ _ (by show T + 1 + 0 + 0 ≤ T + 2; omega) (f0 _ _ ags)
    · exact absurd g (one_no hz hi2 hx2)
  · refine ⟨rfl, vz, ?_⟩
    refine ⟨rfl, ix, ?_⟩
    refine ⟨by show T + 1 + 0 ≤ 100200; omega, sp_X8_value r4 r5 (fun g => ?_) (fun i2 hi2 hx2 => ?_)⟩
    · exact absurd g (one_no hz hi1 hx1)
    · refine ⟨by show T + 1 + 0 + 0 ≤ 100200; omega, sp_X8_thrown ?_⟩
      have e1 : i2 = i1 := (nI_eq (by omega) (by omega)).mp (hx2.symm.trans hx1)
      subst e1
      rw [sM_s]
      refine And.intro (fun _ => ?_) (fun z => absurd rfl z)
      refine And.intro (fun z => absurd rfl z) (fun _ => ?_)
      refine ⟨rfl, vz, ?_⟩
      show (lg_cmp (vp_updL σ.2.2 0 (S.2.1 1 i2).toInt64 0) (S.2.1 1 i2).toInt64 = 0 → _) ∧ (¬ lg_cmp (vp_updL σ.2.2 0 (S.2.1 1 i2).toInt64 0) (S.2.1 1 i2).toInt64 = 0 → _)
      rw [pk_uLs, lg_xx]
      refine And.intro (fun _ => ?_) (fun z => absurd rfl z)
      exact h _ _ _ _ (by show T + 1 + 0 + 0 ≤ T + 2; omega) (f0 _ _ ags)
theorem law_byteAt (hI : Cl (FL L xs) I) (hT : T + 2 ≤ 100200) (hi : i + 6 ≤ L) (hL : L ≤ 384) (hR : Rel σ) (h : ∀ T' τ z5 z6, T' ≤ T + 2 → Rel τ → I T' 1052 (lcl i z5 z6) [] τ) : I T 570 (lcl i z5 z6) [] σ := by
  obtain ⟨n, t, S, ob, fi, wt, hB⟩ := hR
  have hB' := hB
  obtain ⟨r1, r2, r3, r4, ⟨r5, r5'⟩, r6, r7, r8, r9⟩ := hB
  have ix := ixo 1 hi (by omega) hL
  have ix2 := ixo 2 hi (by omega) hL
  have ix3 := ixo 3 hi (by omega) hL
  have hz := r5.1
  have f0 : ∀ (τ : Sg) (v : Int32), Ag (fun _ _ => False) σ τ → Rel (sM τ 7 0 v) := fun τ v a => ⟨n, t, S, ob, fi, wt, hB'.ag (P := f0P) ⟨a.1, fun j k z => (sM_o (by unfold f0P at z; omega)).trans (a.2 j k (fun y => y))⟩ (fun j k z => Or.inl z)⟩
  have ags : Ag (fun _ _ => False) σ σ := ⟨rfl, fun _ _ _ => rfl⟩
  refine run_in (stop := fun pc => Nat.beq pc 1052) hI 80 ?_
  refine ⟨rfl, ix, ?_⟩
  refine ⟨rfl, ix2, ?_⟩
  refine ⟨by show T + 1 ≤ 100200; omega, ?_⟩
  refine ⟨rfl, fun J hJ => run_in (stop := fun _ => false) hJ 40 ?_⟩
  refine ⟨Nat.le_refl _, sp_X7_byteAt r3 r5 r5' (fun g => ?_) (fun i1 hi1 hx1 => ?_)⟩
  · refine hx_A rfl ?_
    refine ⟨rfl, ix, ?_⟩
    refine ⟨rfl, ix2, ?_⟩
    refine ⟨by show T + 1 + 0 ≤ 100200; omega, sp_X8_byteAt r4 r5 r5' (fun _ => ?_) (fun i2 hi2 hx2 => ?_)⟩
    · refine ⟨by show T + 1 + 0 + 0 ≤ 100200; omega, sp_X8_thrown ?_⟩
      refine And.intro (fun _ => ?_) (fun z => absurd rfl z)
      refine And.intro (fun _ => ?_) (fun z => absurd z (by decide))
      exact h _ _ _ _ (by show T + 1 + 0 + 0 ≤ T + 2; omega) (f0 _ _ ags)
    · exact absurd g (one_no hz hi2 hx2)
  · refine ⟨rfl, vz, ?_⟩
    refine ⟨rfl, ix, ?_⟩
    refine ⟨rfl, ix2, ?_⟩
    refine ⟨by show T + 1 + 0 ≤ 100200; omega, sp_X8_byteAt r4 r5 r5' (fun g => ?_) (fun i2 hi2 hx2 => ?_)⟩
    · exact absurd g (one_no hz hi1 hx1)
    · refine ⟨by show T + 1 + 0 + 0 ≤ 100200; omega, sp_X8_thrown ?_⟩
      have e1 : i2 = i1 := (nI_eq (by omega) (by omega)).mp (hx2.symm.trans hx1)
      subst e1
      rw [sM_s]
      refine And.intro (fun _ => ?_) (fun z => absurd rfl z)
      refine And.intro (fun z => absurd rfl z) (fun _ => ?_)
      refine ⟨rfl, vz, ?_⟩
      show (lg_cmp (vp_updL σ.2.2 0 (byA S i2 (xs (nI i + 2).toNatClampNeg)).toInt64 0) (byA S i2 (xs (nI i + 2).toNatClampNeg)).toInt64 = 0 → _) ∧ (¬ lg_cmp (vp_updL σ.2.2 0 (byA S i2 (xs (nI i + 2).toNatClampNeg)).toInt64 0) (byA S i2 (xs (nI i + 2).toNatClampNeg)).toInt64 = 0 → _)
      rw [pk_uLs, lg_xx]
      refine And.intro (fun _ => ?_) (fun z => absurd rfl z)
      exact h _ _ _ _ (by show T + 1 + 0 + 0 ≤ T + 2; omega) (f0 _ _ ags)
theorem law_find (hI : Cl (FL L xs) I) (hT : T + 2 ≤ 100200) (hi : i + 6 ≤ L) (hL : L ≤ 384) (hR : Rel σ) (h : ∀ T' τ z5 z6, T' ≤ T + 2 → Rel τ → I T' 1052 (lcl i z5 z6) [] τ) : I T 734 (lcl i z5 z6) [] σ := by
  obtain ⟨n, t, S, ob, fi, wt, hB⟩ := hR
  have hB' := hB
  obtain ⟨r1, r2, r3, r4, ⟨r5, r5'⟩, r6, r7, r8, r9⟩ := hB
  have ix := ixo 1 hi (by omega) hL
  have ix2 := ixo 2 hi (by omega) hL
  have ix3 := ixo 3 hi (by omega) hL
  have hz := r5.1
  have f0 : ∀ (τ : Sg) (v : Int32), Ag (fun _ _ => False) σ τ → Rel (sM τ 7 0 v) := fun τ v a => ⟨n, t, S, ob, fi, wt, hB'.ag (P := f0P) ⟨a.1, fun j k z => (sM_o (by unfold f0P at z; omega)).trans (a.2 j k (fun y => y))⟩ (fun j k z => Or.inl z)⟩
  have ags : Ag (fun _ _ => False) σ σ := ⟨rfl, fun _ _ _ => rfl⟩
  refine run_in (stop := fun pc => Nat.beq pc 1052) hI 80 ?_
  refine ⟨rfl, ix, ?_⟩
  refine ⟨rfl, ix2, ?_⟩
  refine ⟨by show T + 2 ≤ 100200; omega, ?_⟩
  refine ⟨rfl, fun J hJ => run_in (stop := fun _ => false) hJ 40 ?_⟩
  refine ⟨Nat.le_refl _, sp_X7_find r3 r5 r5' (fun g => ?_) (fun i1 j1 hi1 hj1 hx1 hy1 => ?_)⟩
  · refine hx_A rfl ?_
    refine ⟨rfl, ix, ?_⟩
    refine ⟨rfl, ix2, ?_⟩
    refine ⟨by show T + 2 + 0 ≤ 100200; omega, sp_X8_find r4 r5 r5' (fun _ => ?_) (fun i2 j2 hi2 hj2 hx2 hy2 => ?_)⟩
    · refine ⟨by show T + 2 + 0 + 0 ≤ 100200; omega, sp_X8_thrown ?_⟩
      refine And.intro (fun _ => ?_) (fun z => absurd rfl z)
      refine And.intro (fun _ => ?_) (fun z => absurd z (by decide))
      exact h _ _ _ _ (by show T + 2 + 0 + 0 ≤ T + 2; omega) (f0 _ _ ags)
    · exact absurd g (two_no hz hi2 hj2 hx2 hy2)
  · refine ⟨rfl, vz, ?_⟩
    refine ⟨rfl, ix, ?_⟩
    refine ⟨rfl, ix2, ?_⟩
    refine ⟨by show T + 2 + 0 ≤ 100200; omega, sp_X8_find r4 r5 r5' (fun g => ?_) (fun i2 j2 hi2 hj2 hx2 hy2 => ?_)⟩
    · exact absurd g (two_no hz hi1 hj1 hx1 hy1)
    · refine ⟨by show T + 2 + 0 + 0 ≤ 100200; omega, sp_X8_thrown ?_⟩
      have e1 : i2 = i1 := (nI_eq (by omega) (by omega)).mp (hx2.symm.trans hx1)
      subst e1
      have e2 : j2 = j1 := (nI_eq (by omega) (by omega)).mp (hy2.symm.trans hy1)
      subst e2
      rw [sM_s]
      refine And.intro (fun _ => ?_) (fun z => absurd rfl z)
      refine And.intro (fun z => absurd rfl z) (fun _ => ?_)
      refine ⟨rfl, vz, ?_⟩
      show (lg_cmp (vp_updL σ.2.2 0 (fnA S (unw S i2) j2).toInt64 0) (fnA S (unw S i2) j2).toInt64 = 0 → _) ∧ (¬ lg_cmp (vp_updL σ.2.2 0 (fnA S (unw S i2) j2).toInt64 0) (fnA S (unw S i2) j2).toInt64 = 0 → _)
      rw [pk_uLs, lg_xx]
      refine And.intro (fun _ => ?_) (fun z => absurd rfl z)
      exact h _ _ _ _ (by show T + 2 + 0 + 0 ≤ T + 2; omega) (f0 _ _ ags)
end LW2
