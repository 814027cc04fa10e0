/-! ===== PURE: the law, child and write ===== -/
theorem cm_o {τ : Sg} {pg ob len j k : Nat} (h : j ≠ 6 ∨ k ≠ 4) : (cmS τ pg ob len).1 j k = τ.1 j k := sM_o (σ := sR (sR τ 6 3 pg) 6 5 ob) (j := 6) (k := 4) h
theorem cm_s {τ : Sg} {pg ob len : Nat} : (cmS τ pg ob len).1 6 4 = nI len := sM_s (σ := sR (sR τ 6 3 pg) 6 5 ob)
section LW5
variable {L : Nat} {xs : Nat → Int32} {σ : Sg} {T i : Nat} {z5 z6 : Option Value} {I : Jt}
theorem law_child (hI : Cl (FL L xs) I) (hT : T + 2 ≤ 100200) (hi : i + 6 ≤ L) (hL : L ≤ 384) (hR : Rel σ) (h : ∀ T' τ z5 z6, T' ≤ T + 2 → Rel τ → I T' 1052 (lcl i z5 z6) [] τ) : I T 638 (lcl i z5 z6) [] σ := by
  obtain ⟨n, t, S, ob, fi, wt, hB⟩ := hR
  have hB' := hB
  obtain ⟨r1, r2, r3, r4, ⟨r5, r5'⟩, r6, r7, r8, r9⟩ := hB
  have ix := ixo 1 hi (by omega) hL
  have ix2 := ixo 2 hi (by omega) hL
  have ix3 := ixo 3 hi (by omega) hL
  have hz := r5.1
  have f0 : ∀ (τ : Sg) (v : Int32), Ag (fun _ _ => False) σ τ → Rel (sM τ 7 0 v) := fun τ v a => ⟨n, t, S, ob, fi, wt, hB'.ag (P := f0P) ⟨a.1, fun j k z => (sM_o (by unfold f0P at z; omega)).trans (a.2 j k (fun y => y))⟩ (fun j k z => Or.inl z)⟩
  have ags : Ag (fun _ _ => False) σ σ := ⟨rfl, fun _ _ _ => rfl⟩
  refine run_in (stop := fun pc => Nat.beq pc 1052) hI 80 ?_
  refine ⟨rfl, ix, ?_⟩
  refine ⟨rfl, ix2, ?_⟩
  refine ⟨rfl, ix3, ?_⟩
  refine And.intro (fun hk => ?_) (fun hk => ?_)
  · refine ⟨by show T + 1 ≤ 100200; omega, ?_⟩
    refine ⟨rfl, fun J hJ => run_in (stop := fun _ => false) hJ 40 ?_⟩
    refine ⟨Nat.le_refl _, sp_X7_child (key := false) r3 r5 r5' (fun g => ?_) (fun i1 hi1 hx1 => ?_)⟩
    · refine hx_A rfl ?_
      refine ⟨rfl, ix, ?_⟩
      refine ⟨rfl, ix2, ?_⟩
      refine ⟨rfl, ix3, ?_⟩
      refine And.intro (fun _ => ?_) (fun z => absurd hk z)
      refine ⟨by show T + 1 + 0 ≤ 100200; omega, sp_X8_child (key := false) r4 r5 r5' (fun _ => ?_) (fun i2 hi2 hx2 => ?_)⟩
      · refine ⟨by show T + 1 + 0 + 0 ≤ 100200; omega, sp_X8_thrown ?_⟩
        refine And.intro (fun _ => ?_) (fun z => absurd rfl z)
        refine And.intro (fun _ => ?_) (fun z => absurd z (by decide))
        exact h _ _ _ _ (by show T + 1 + 0 + 0 ≤ T + 2; omega) (f0 _ _ ags)
      · exact absurd g (one_no hz hi2 hx2)
    · refine ⟨rfl, vz, ?_⟩
      refine ⟨rfl, ix, ?_⟩
      refine ⟨rfl, ix2, ?_⟩
      refine ⟨rfl, ix3, ?_⟩
      refine And.intro (fun _ => ?_) (fun z => absurd hk z)
      refine ⟨by show T + 1 + 0 ≤ 100200; omega, sp_X8_child (key := false) r4 r5 r5' (fun g => ?_) (fun i2 hi2 hx2 => ?_)⟩
      · exact absurd g (one_no hz hi1 hx1)
      · refine ⟨by show T + 1 + 0 + 0 ≤ 100200; omega, sp_X8_thrown ?_⟩
        have e1 : i2 = i1 := (nI_eq (by omega) (by omega)).mp (hx2.symm.trans hx1)
        subst e1
        rw [sM_s]
        refine And.intro (fun _ => ?_) (fun z => absurd rfl z)
        refine And.intro (fun z => absurd rfl z) (fun _ => ?_)
        refine ⟨rfl, vz, ?_⟩
        show (lg_cmp (vp_updL σ.2.2 0 (chA S i2 (xs (nI i + 2).toNatClampNeg) false).toInt64 0) (chA S i2 (xs (nI i + 2).toNatClampNeg) false).toInt64 = 0 → _) ∧ (¬ lg_cmp (vp_updL σ.2.2 0 (chA S i2 (xs (nI i + 2).toNatClampNeg) false).toInt64 0) (chA S i2 (xs (nI i + 2).toNatClampNeg) false).toInt64 = 0 → _)
        rw [pk_uLs, lg_xx]
        refine And.intro (fun _ => ?_) (fun z => absurd rfl z)
        exact h _ _ _ _ (by show T + 1 + 0 + 0 ≤ T + 2; omega) (f0 _ _ ags)
  · refine ⟨by show T + 1 ≤ 100200; omega, ?_⟩
    refine ⟨rfl, fun J hJ => run_in (stop := fun _ => false) hJ 40 ?_⟩
    refine ⟨Nat.le_refl _, sp_X7_child (key := true) r3 r5 r5' (fun g => ?_) (fun i1 hi1 hx1 => ?_)⟩
    · refine hx_A rfl ?_
      refine ⟨rfl, ix, ?_⟩
      refine ⟨rfl, ix2, ?_⟩
      refine ⟨rfl, ix3, ?_⟩
      refine And.intro (fun z => absurd z hk) (fun _ => ?_)
      refine ⟨by show T + 1 + 0 ≤ 100200; omega, sp_X8_child (key := true) r4 r5 r5' (fun _ => ?_) (fun i2 hi2 hx2 => ?_)⟩
      · refine ⟨by show T + 1 + 0 + 0 ≤ 100200; omega, sp_X8_thrown ?_⟩
        refine And.intro (fun _ => ?_) (fun z => absurd rfl z)
        refine And.intro (fun _ => ?_) (fun z => absurd z (by decide))
        exact h _ _ _ _ (by show T + 1 + 0 + 0 ≤ T + 2; omega) (f0 _ _ ags)
      · exact absurd g (one_no hz hi2 hx2)
    · refine ⟨rfl, vz, ?_⟩
      refine ⟨rfl, ix, ?_⟩
      refine ⟨rfl, ix2, ?_⟩
      refine ⟨rfl, ix3, ?_⟩
      refine And.intro (fun z => absurd z hk) (fun _ => ?_)
      refine ⟨by show T + 1 + 0 ≤ 100200; omega, sp_X8_child (key := true) r4 r5 r5' (fun g => ?_) (fun i2 hi2 hx2 => ?_)⟩
      · exact absurd g (one_no hz hi1 hx1)
      · refine ⟨by show T + 1 + 0 + 0 ≤ 100200; omega, sp_X8_thrown ?_⟩
        have e1 : i2 = i1 := (nI_eq (by omega) (by omega)).mp (hx2.symm.trans hx1)
        subst e1
        rw [sM_s]
        refine And.intro (fun _ => ?_) (fun z => absurd rfl z)
        refine And.intro (fun z => absurd rfl z) (fun _ => ?_)
        refine ⟨rfl, vz, ?_⟩
        show (lg_cmp (vp_updL σ.2.2 0 (chA S i2 (xs (nI i + 2).toNatClampNeg) true).toInt64 0) (chA S i2 (xs (nI i + 2).toNatClampNeg) true).toInt64 = 0 → _) ∧ (¬ lg_cmp (vp_updL σ.2.2 0 (chA S i2 (xs (nI i + 2).toNatClampNeg) true).toInt64 0) (chA S i2 (xs (nI i + 2).toNatClampNeg) true).toInt64 = 0 → _)
        rw [pk_uLs, lg_xx]
        refine And.intro (fun _ => ?_) (fun z => absurd rfl z)
        exact h _ _ _ _ (by show T + 1 + 0 + 0 ≤ T + 2; omega) (f0 _ _ ags)
theorem law_write (hI : Cl (FL L xs) I) (hT : T + 2 ≤ 100200) (hi : i + 6 ≤ L) (hL : L ≤ 384) (hR : Rel σ) (h : ∀ T' τ z5 z6, T' ≤ T + 2 → Rel τ → I T' 1052 (lcl i z5 z6) [] τ) : I T 877 (lcl i z5 z6) [] σ := by
  obtain ⟨n, t, S, ob, fi, wt, hB⟩ := hR
  have hB' := hB
  obtain ⟨r1, r2, r3, r4, ⟨r5, r5'⟩, r6, r7, r8, r9⟩ := hB
  have ix := ixo 1 hi (by omega) hL
  have ix2 := ixo 2 hi (by omega) hL
  have ix3 := ixo 3 hi (by omega) hL
  have hz := r5.1
  have f0 : ∀ (τ : Sg) (v : Int32), Ag (fun _ _ => False) σ τ → Rel (sM τ 7 0 v) := fun τ v a => ⟨n, t, S, ob, fi, wt, hB'.ag (P := f0P) ⟨a.1, fun j k z => (sM_o (by unfold f0P at z; omega)).trans (a.2 j k (fun y => y))⟩ (fun j k z => Or.inl z)⟩
  have ags : Ag (fun _ _ => False) σ σ := ⟨rfl, fun _ _ _ => rfl⟩
  have hpg := pg2 r8
  have hpn : σ.2.1 6 5 = 18 ∨ σ.2.1 6 5 = 19 := r8.1.elim (fun z => Or.inr z.2) (fun z => Or.inl z.2)
  have hB5 := bt_256 r3
  refine run_in (stop := fun pc => Nat.beq pc 1052) hI 80 ?_
  refine ⟨rfl, ix, ?_⟩
  refine ⟨by show T + 1 ≤ 100200; omega, ?_⟩
  refine ⟨rfl, fun J hJ => run_in (stop := fun _ => false) hJ 40 ?_⟩
  refine ⟨Nat.le_refl _, sp_X7_write r5 r5' r3 ⟨rfl, hpn⟩ (fun g => ?_) (fun i1 hi1 hx1 hl τ c1 => ?_) (fun i1 hi1 hx1 hl τ c1 c2 => ?_)⟩
  · refine hx_A rfl ?_
    refine ⟨rfl, ix, ?_⟩
    refine ⟨by show T + 1 + 0 ≤ 100200; omega, sp_X8_write hB5 r4 r5 r5' (fun _ => ?_) (fun i2 hi2 hx2 => absurd g (one_no hz hi2 hx2)) (fun i2 hi2 hx2 => absurd g (one_no hz hi2 hx2))⟩
    refine ⟨by show T + 1 + 0 + 0 ≤ 100200; omega, sp_X8_thrown ?_⟩
    refine And.intro (fun _ => ?_) (fun z => absurd rfl z)
    refine And.intro (fun _ => ?_) (fun z => absurd z (by decide))
    exact h _ _ _ _ (by show T + 1 + 0 + 0 ≤ T + 2; omega) (f0 _ _ ags)
  · refine ⟨rfl, vz, ?_⟩
    refine ⟨rfl, ix, ?_⟩
    have ag1 : Ag (wdP (σ.2.1 6 5)) σ τ := c1.ag
    have r4' : MS (sO τ 0 (-7 : Int32).toInt64) S := r4.ag ag1 (fun j k h1 h2 => by unfold wdP wcP at h2; omega)
    refine ⟨by show T + 1 + 0 ≤ 100200; omega, sp_X8_write hB5 r4' r5 r5' (fun g => absurd g (one_no hz hi1 hx1)) (fun i2 hi2 hx2 hl2 υ m1 m0 => ?_) (fun i2 hi2 hx2 hl2 => ?_)⟩
    · have eo : υ.2.2 0 = (-7 : Int32).toInt64 := by rw [m1.1]; show vp_updL τ.2.2 0 _ 0 = _; exact pk_uLs
      refine ⟨by show T + 1 + 0 + 0 ≤ 100200; omega, sp_X8_thrown ?_⟩
      rw [m0]
      refine And.intro (fun _ => ?_) (fun z => absurd rfl z)
      refine And.intro (fun z => absurd rfl z) (fun _ => ?_)
      refine ⟨rfl, vz, ?_⟩
      show (lg_cmp (υ.2.2 0) (-7 : Int32).toInt64 = 0 → _) ∧ (¬ lg_cmp (υ.2.2 0) (-7 : Int32).toInt64 = 0 → _)
      rw [eo, lg_xx]
      refine And.intro (fun _ => ?_) (fun z => absurd rfl z)
      have ag2 : Ag wn0 τ υ := ⟨by rw [m1.1]; rfl, m1.2⟩
      refine h _ _ _ _ (by show T + 1 + 0 + 0 ≤ T + 2; omega) ⟨n, t, S, ob, fi, wt, (hB'.ag ag1 (fun j k z => ?_)).ag ag2 (fun j k z => ?_)⟩
      · unfold wdP wcP at z; omega
      · unfold wn0 at z; omega
    · exfalso
      have e1 : i2 = i1 := (nI_eq (by omega) (by omega)).mp (hx2.symm.trans hx1)
      subst e1
      omega
  · refine ⟨rfl, vz, ?_⟩
    refine ⟨rfl, ix, ?_⟩
    have cm : ∀ j k, ¬ wdP (σ.2.1 6 5) j k → (j ≠ 6 ∨ k ≠ 4) → (sO (cmS τ (σ.2.1 6 5) (σ.2.1 6 3) (WL S (unw S i1)).length) 0 (nI (WL S (unw S i1)).length).toInt64).1 j k = σ.1 j k := fun j k h1 h2 => (cm_o (τ := τ) (pg := σ.2.1 6 5) (ob := σ.2.1 6 3) (len := (WL S (unw S i1)).length) h2).trans (c2.2 j k h1)
    have r4' : MS (sO (cmS τ (σ.2.1 6 5) (σ.2.1 6 3) (WL S (unw S i1)).length) 0 (nI (WL S (unw S i1)).length).toInt64) S := r4.fr (cm 7 3 (by unfold wdP wcP; omega) (by omega)) (cm 7 9 (by unfold wdP wcP; omega) (by omega)) (fun j k h1 h2 => cm j k (by unfold wdP wcP; omega) (by omega))
    refine ⟨by show T + 1 + 0 ≤ 100200; omega, sp_X8_write hB5 r4' r5 r5' (fun g => absurd g (one_no hz hi1 hx1)) (fun i2 hi2 hx2 hl2 => ?_) (fun i2 hi2 hx2 hl2 υ m1 m0 m2 m3 => ?_)⟩
    · exfalso
      have e1 : i2 = i1 := (nI_eq (by omega) (by omega)).mp (hx2.symm.trans hx1)
      subst e1
      omega
    · have e1 : i2 = i1 := (nI_eq (by omega) (by omega)).mp (hx2.symm.trans hx1)
      subst e1
      have eo : υ.2.2 0 = (nI (WL S (unw S i2)).length).toInt64 := by rw [m1.1]; show vp_updL τ.2.2 0 _ 0 = _; exact pk_uLs
      refine ⟨by show T + 1 + 0 + 0 ≤ 100200; omega, sp_X8_thrown ?_⟩
      rw [m0]
      refine And.intro (fun _ => ?_) (fun z => absurd rfl z)
      refine And.intro (fun z => absurd rfl z) (fun _ => ?_)
      refine ⟨rfl, vz, ?_⟩
      show (lg_cmp (υ.2.2 0) (nI (WL S (unw S i2)).length).toInt64 = 0 → _) ∧ (¬ lg_cmp (υ.2.2 0) (nI (WL S (unw S i2)).length).toInt64 = 0 → _)
      rw [eo, lg_xx]
      refine And.intro (fun _ => ?_) (fun z => absurd rfl z)
      have e3 : υ.2.1 6 3 = σ.2.1 6 5 := by rw [m1.1]; simp [sO, cmS, sM, sR]
      have e5 : υ.2.1 6 5 = σ.2.1 6 3 := by rw [m1.1]; simp [sO, cmS, sM, sR]
      have kp : ∀ j k, ¬ wn1 j k → ¬ wdP (σ.2.1 6 5) j k → (j ≠ 6 ∨ k ≠ 4) → υ.1 j k = σ.1 j k := fun j k h1 h2 h3 => (m1.2 j k h1).trans ((cm_o h3).trans (c2.2 j k h2))
      have ag : Ag (fun j k => wn1 j k ∨ wdP (σ.2.1 6 5) j k ∨ (j = 6 ∧ k = 4)) (σ.1, υ.2.1, σ.2.2) υ := ⟨rfl, fun j k z => kp j k (fun y => z (Or.inl y)) (fun y => z (Or.inr (Or.inl y))) (by omega)⟩
      have q1 : TapeC (σ.1, υ.2.1, σ.2.2) n t := r1
      have q2 : TapeM (σ.1, υ.2.1, σ.2.2) n t := r2
      have q3 : CS (σ.1, υ.2.1, σ.2.2) S := r3
      have q4 : MS (σ.1, υ.2.1, σ.2.2) S := r4
      have q6 : OBJ (σ.1, υ.2.1, σ.2.2) S ob fi := r6
      have q7 : LST (σ.1, υ.2.1, σ.2.2) := r7
      obtain ⟨w1, w2, w3, w4, w5⟩ := c1
      refine h _ _ _ _ (by show T + 1 + 0 + 0 ≤ T + 2; omega) ⟨n, t, S, ob, fi, WL S (unw S i2), q1.ag ag ?_, q2.ag ag ?_, q3.ag ag ?_, q4.ag ag ?_, ⟨r5, r5'⟩, q6.ag ag ?_, q7.ag ag ?_, ⟨?_, ?_, hl, fun k hk => ?_⟩, ⟨m2, m3⟩⟩
      · intro j k h1 h2; unfold wn1 wn0 wdP wcP at h2; omega
      · intro j k h1 h2; unfold wn1 wn0 wdP wcP at h2; omega
      · intro j k h1 h2; unfold wn1 wn0 wdP wcP at h2; omega
      · intro j k h1 h2; unfold wn1 wn0 wdP wcP at h2; omega
      · intro j k h1 h2; unfold wn1 wn0 wdP wcP at h2; omega
      · intro j k h1 h2; unfold wn1 wn0 wdP wcP at h2; omega
      · rw [e3, e5]; exact r8.1.elim (fun z => Or.inr ⟨z.2, z.1⟩) (fun z => Or.inl ⟨z.2, z.1⟩)
      · rw [m1.2 6 4 (by unfold wn1 wn0; omega)]; exact cm_s (τ := τ) (pg := σ.2.1 6 5) (ob := σ.2.1 6 3)
      · rw [e3, m1.2 _ k (by unfold wn1 wn0; omega)]
        have := w5 k hk (by omega)
        exact ⟨(cm_o (by omega)).trans this.1, this.2⟩
end LW5
