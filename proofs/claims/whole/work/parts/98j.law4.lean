/-! ===== PURE: the law, the last cases ===== -/
section LW4
variable {L : Nat} {xs : Nat → Int32} {σ : Sg} {T i : Nat} {z5 z6 : Option Value} {I : Jt}
theorem law_drop (hI : Cl (FL L xs) I) (hT : T + 2 ≤ 100200) (hi : i + 6 ≤ L) (hL : L ≤ 384) (hR : Rel σ) (h : ∀ T' τ z5 z6, T' ≤ T + 2 → Rel τ → I T' 1052 (lcl i z5 z6) [] τ) : I T 971 (lcl i z5 z6) [] σ := by
  obtain ⟨n, t, S, ob, fi, wt, hB⟩ := hR
  have hB' := hB
  obtain ⟨r1, r2, r3, r4, ⟨r5, r5'⟩, r6, r7, r8, r9⟩ := hB
  have ix := ixo 1 hi (by omega) hL
  have hz := r5.1
  have r6' := r6
  obtain ⟨o1, o2, o3, o4⟩ := r6
  have hom : OBM σ S ob fi := ⟨o2, o3, fun i hi => ⟨⟨(o4 i hi).1.2.1, (o4 i hi).1.2.2⟩, (o4 i hi).2⟩⟩
  have hf : ∀ τ : Sg, Fr f0P σ τ → Rel τ := fun τ a => ⟨n, t, S, ob, fi, wt, hB'.ag a.ag (fun j k z => Or.inl z)⟩
  have c1 : ∀ x : Int32, (x < 0 ∨ ∃ p, p < S.1 ∧ x = nI p ∧ ∀ i, i < ob → fi i ≠ p) → ¬ x < 0 → nI S.1 ≤ x → False := by
    rintro x (g | ⟨p, p1, p2, p3⟩) g2 g3
    · exact g2 g
    · rw [p2] at g3
      exact absurd ((nI_leI (by omega) (by omega)).mp g3) (by omega)
  have c2 : ∀ x : Int32, (x < 0 ∨ ∃ p, p < S.1 ∧ x = nI p ∧ ∀ i, i < ob → fi i ≠ p) → ∀ i, i < ob → x = nI (fi i) → False := by
    rintro x (g | ⟨p, p1, p2, p3⟩) i hi g3
    · rw [g3] at g
      exact nI_pos (by have := (o4 i hi).2.1; omega) g
    · rw [p2] at g3
      exact p3 i hi ((nI_eq (by omega) (by have := (o4 i hi).2.1; omega)).mp g3).symm
  have c3 : ∀ x : Int32, nI S.1 ≤ x → ∀ i, i < ob → x = nI (fi i) → False := by
    intro x g i hi g3
    have := (o4 i hi).2.1
    rw [g3] at g
    exact absurd ((nI_leI (by omega) (by omega)).mp g) (by omega)
  refine run_in (stop := fun pc => Nat.beq pc 1052) hI 90 ?_
  refine ⟨rfl, ix, ?_⟩
  refine ⟨by show T + 1 ≤ 100200; omega, ?_⟩
  refine ⟨rfl, fun J hJ => run_in (stop := fun _ => false) hJ 40 ?_⟩
  refine ⟨Nat.le_refl _, sp_X7_drop r6' r3 r5 r5' (fun g => ?_) (fun g => ?_) (fun p hp hx τ d1 d2 d3 => ?_)⟩
  · refine hx_A rfl ?_
    refine ⟨rfl, ix, ?_⟩
    refine ⟨by show T + 1 + 0 ≤ 100200; omega, sp_X8_drop hom r4 r5 r5' (fun _ τ e1 e2 => ?_) (fun g2 g3 => (c1 _ g g2 g3).elim) (fun p hp hx => (c2 _ g p hp hx).elim)⟩
    refine ⟨by show T + 1 + 0 + 0 ≤ 100200; omega, sp_X8_thrown ?_⟩
    rw [e2]
    refine And.intro (fun _ => ?_) (fun z => absurd rfl z)
    refine And.intro (fun _ => ?_) (fun z => absurd z (by decide))
    exact h _ _ _ _ (by show T + 1 + 0 + 0 ≤ T + 2; omega) (hf τ e1)
  · refine ⟨rfl, vz, ?_⟩
    refine ⟨rfl, ix, ?_⟩
    have g0 : ∀ x : Int32, nI S.1 ≤ x → ¬ x < 0 := fun x g y => absurd (Int32.lt_of_le_of_lt g y) (nI_pos (by omega))
    refine ⟨by show T + 1 + 0 ≤ 100200; omega, sp_X8_drop (σ := sO σ 0 (0 : Int32).toInt64) hom r4 r5 r5' (fun g2 => (c1 _ g2 (g0 _ g) g).elim) (fun _ _ τ e1 e2 => ?_) (fun p hp hx => (c3 _ g p hp hx).elim)⟩
    have eo : τ.2.2 0 = (0 : Int32).toInt64 := by rw [e1.1]; show vp_updL σ.2.2 0 _ 0 = _; exact pk_uLs
    refine ⟨by show T + 1 + 0 + 0 ≤ 100200; omega, sp_X8_thrown ?_⟩
    rw [e2]
    refine And.intro (fun _ => ?_) (fun z => absurd rfl z)
    refine And.intro (fun z => absurd rfl z) (fun _ => ?_)
    refine ⟨rfl, vz, ?_⟩
    show (lg_cmp (τ.2.2 0) (0 : Int32).toInt64 = 0 → _) ∧ (¬ lg_cmp (τ.2.2 0) (0 : Int32).toInt64 = 0 → _)
    rw [eo, lg_xx]
    refine And.intro (fun _ => ?_) (fun z => absurd rfl z)
    refine h _ _ _ _ (by show T + 1 + 0 + 0 ≤ T + 2; omega) ⟨n, t, S, ob, fi, wt, hB'.ag (P := f0P) ⟨by rw [e1.1]; rfl, e1.2⟩ (fun j k z => Or.inl z)⟩
  · refine ⟨rfl, vz, ?_⟩
    have ag1 : Ag dpC σ τ := d2.ag
    have hom' : OBM (sO τ 0 (nI (S.1 - fi p)).toInt64) S ob fi := ⟨(ag1.2 7 11 (by unfold dpC; omega)).trans o2, o3, fun i hi => ⟨⟨(ag1.2 27 i (by unfold dpC; omega)).trans (o4 i hi).1.2.1, (ag1.2 28 i (by unfold dpC; omega)).trans (o4 i hi).1.2.2⟩, (o4 i hi).2⟩⟩
    have r4' : MS (sO τ 0 (nI (S.1 - fi p)).toInt64) S := r4.ag ag1 (fun j k h1 h2 => by unfold dpC at h2; omega)
    have hpb := (o4 p hp).2.1
    refine ⟨rfl, ix, ?_⟩
    refine ⟨by show T + 1 + 0 ≤ 100200; omega, sp_X8_drop hom' r4' r5 r5' (fun g2 => (c2 _ g2 p hp hx).elim) (fun _ g3 => (c3 _ g3 p hp hx).elim) (fun p' hp' hx' υ e1 e2 e3 e4 => ?_)⟩
    have hpp : fi p' = fi p := (nI_eq (by have := (o4 p' hp').2.1; omega) (by omega)).mp (hx'.symm.trans hx)
    have hpe : p' = p := by
      by_cases a1 : p' < p
      · have := (o4 p hp).2.2.1 p' a1; omega
      · by_cases a2 : p < p'
        · have := (o4 p' hp').2.2.1 p a2; omega
        · omega
    subst hpe
    have eo : υ.2.2 0 = (nI (S.1 - fi p')).toInt64 := by rw [e2.1]; show vp_updL τ.2.2 0 _ 0 = _; exact pk_uLs
    refine ⟨by show T + 1 + 0 + 0 ≤ 100200; omega, sp_X8_thrown ?_⟩
    rw [e3]
    refine And.intro (fun _ => ?_) (fun z => absurd rfl z)
    refine And.intro (fun z => absurd rfl z) (fun _ => ?_)
    refine ⟨rfl, vz, ?_⟩
    show (lg_cmp (υ.2.2 0) (nI (S.1 - fi p')).toInt64 = 0 → _) ∧ (¬ lg_cmp (υ.2.2 0) (nI (S.1 - fi p')).toInt64 = 0 → _)
    rw [eo, lg_xx]
    refine And.intro (fun _ => ?_) (fun z => absurd rfl z)
    have ag2 : Ag dpM τ υ := ⟨by rw [e2.1]; rfl, e2.2⟩
    have hpg := pg2 r8
    have hw1 : WRC τ wt := r8.ag ag1 (fun j k h1 h2 => by unfold dpC at h2; omega)
    have hpg1 := pg2 hw1
    refine h _ _ _ _ (by show T + 1 + 0 + 0 ≤ T + 2; omega) ⟨n, t, cutS S (fi p'), p', fi, wt, (r1.ag ag1 ?_).ag ag2 ?_, (r2.ag ag1 ?_).ag ag2 ?_, d1.ag ag2 ?_, e1, ⟨cut_sz r5' r5 hpb, cut_wf r5' hpb (o4 p' hp).2.2.2⟩, ⟨?_, e4, ?_, fun i hi => ?_⟩, (r7.ag ag1 ?_).ag ag2 ?_, hw1.ag ag2 ?_, (r9.ag ag1 ?_).ag ag2 ?_⟩
    · intro j k h1 h2; unfold dpC at h2; omega
    · intro j k h1 h2; unfold dpM at h2; omega
    · intro j k h1 h2; unfold dpC at h2; omega
    · intro j k h1 h2; unfold dpM at h2; omega
    · intro j k h1 h2; unfold dpM at h2; omega
    · rw [ag2.2 2 9 (by unfold dpM; omega)]; exact d3
    · show p' ≤ fi p'
      exact fi_ge (ob := ob) (fi := fi) (fun i hi => (o4 i hi).2.2.1) p' hp
    · obtain ⟨⟨f1, f2, f3⟩, f4, f5, f6⟩ := o4 i (by omega)
      refine ⟨⟨?_, ?_, ?_⟩, (o4 p' hp).2.2.1 i hi, f5, f6⟩
      · rw [ag2.2 14 i (by unfold dpM; omega), ag1.2 14 i (by unfold dpC; omega)]; exact f1
      · rw [ag2.2 27 i (by unfold dpM; omega), ag1.2 27 i (by unfold dpC; omega)]; exact f2
      · rw [ag2.2 28 i (by unfold dpM; omega), ag1.2 28 i (by unfold dpC; omega)]; exact f3
    · intro j k h1 h2; unfold dpC at h2; omega
    · intro j k h1 h2; unfold dpM at h2; omega
    · intro j k h1 h2; unfold dpM at h2; omega
    · intro j k h1 h2; unfold dpC at h2; omega
    · intro j k h1 h2; unfold dpM at h2; omega
theorem law_alike (hI : Cl (FL L xs) I) (hT : T + 2 ≤ 100200) (hi : i + 6 ≤ L) (hL : L ≤ 384) (hR : Rel σ) (h : ∀ T' τ z5 z6, T' ≤ T + 2 → Rel τ → I T' 1052 (lcl i z5 z6) [] τ) : I T 802 (lcl i z5 z6) [] σ := by
  obtain ⟨n, t, S, ob, fi, wt, hB⟩ := hR
  have hB' := hB
  obtain ⟨r1, r2, r3, r4, ⟨r5, r5'⟩, r6, r7, r8, r9⟩ := hB
  have ix := ixo 1 hi (by omega) hL
  have ix2 := ixo 2 hi (by omega) hL
  have hz := r5.1
  have f0 : ∀ (τ : Sg) (v : Int32), Ag (fun _ _ => False) σ τ → Rel (sM τ 7 0 v) := fun τ v a => ⟨n, t, S, ob, fi, wt, hB'.ag (P := f0P) ⟨a.1, fun j k z => (sM_o (by unfold f0P at z; omega)).trans (a.2 j k (fun y => y))⟩ (fun j k z => Or.inl z)⟩
  have ags : Ag (fun _ _ => False) σ σ := ⟨rfl, fun _ _ _ => rfl⟩
  refine run_in (stop := fun pc => Nat.beq pc 1052) hI 90 ?_
  refine ⟨rfl, ix, rfl, ix2, ?_⟩
  refine ⟨by show T + 2 ≤ 100200; omega, ?_⟩
  refine ⟨rfl, fun J hJ => run_in (stop := fun _ => false) hJ 40 ?_⟩
  refine ⟨Nat.le_refl _, sp_X7_alike r3 r5 r5' (fun g => ?_) (fun i1 j1 hi1 hj1 hx1 hy1 => ?_)⟩
  · refine hx_A rfl ?_
    refine ⟨rfl, ix, rfl, ix2, ?_⟩
    refine ⟨by show T + 2 + 0 ≤ 100200; omega, sp_X8_alike r4 r5 r5' (fun _ => ?_) (fun i2 j2 hi2 hj2 hx2 hy2 => absurd g (two_no hz hi2 hj2 hx2 hy2))⟩
    refine ⟨by show T + 2 + 0 + 0 ≤ 100200; omega, sp_X8_thrown ?_⟩
    refine And.intro (fun _ => ?_) (fun z => absurd rfl z)
    refine And.intro (fun _ => ?_) (fun z => absurd z (by decide))
    exact h _ _ _ _ (by show T + 2 + 0 + 0 ≤ T + 2; omega) (f0 _ _ ags)
  · cases hal : alA S i1 j1 with
    | false =>
      refine And.intro (fun _ => ?_) (fun z => absurd rfl z)
      refine ⟨rfl, vz, ?_⟩
      refine ⟨rfl, ix, rfl, ix2, ?_⟩
      refine ⟨by show T + 2 + 0 ≤ 100200; omega, sp_X8_alike (σ := sO σ 0 0) r4 r5 r5' (fun g => absurd g (two_no hz hi1 hj1 hx1 hy1)) (fun i2 j2 hi2 hj2 hx2 hy2 => ?_)⟩
      have e1 : i2 = i1 := (nI_eq (by omega) (by omega)).mp (hx2.symm.trans hx1)
      have e2 : j2 = j1 := (nI_eq (by omega) (by omega)).mp (hy2.symm.trans hy1)
      subst e1 e2
      rw [hal]
      refine ⟨by show T + 2 + 0 + 0 ≤ 100200; omega, sp_X8_thrown ?_⟩
      rw [sM_s]
      refine And.intro (fun _ => ?_) (fun z => absurd rfl z)
      refine And.intro (fun z => absurd rfl z) (fun _ => ?_)
      refine ⟨rfl, vz, ?_⟩
      refine And.intro (fun _ => ?_) (fun z => absurd rfl z)
      show (lg_cmp (vp_updL σ.2.2 0 0 0) 0 = 0 → _) ∧ (¬ lg_cmp (vp_updL σ.2.2 0 0 0) 0 = 0 → _)
      rw [pk_uLs, lg_xx]
      refine And.intro (fun _ => ?_) (fun z => absurd rfl z)
      exact h _ _ _ _ (by show T + 2 + 0 + 0 ≤ T + 2; omega) (f0 _ _ ags)
    | true =>
      refine And.intro (fun z => absurd z (by decide)) (fun _ => ?_)
      refine ⟨rfl, vz, ?_⟩
      refine ⟨rfl, ix, rfl, ix2, ?_⟩
      refine ⟨by show T + 2 + 0 ≤ 100200; omega, sp_X8_alike (σ := sO σ 0 1) r4 r5 r5' (fun g => absurd g (two_no hz hi1 hj1 hx1 hy1)) (fun i2 j2 hi2 hj2 hx2 hy2 => ?_)⟩
      have e1 : i2 = i1 := (nI_eq (by omega) (by omega)).mp (hx2.symm.trans hx1)
      have e2 : j2 = j1 := (nI_eq (by omega) (by omega)).mp (hy2.symm.trans hy1)
      subst e1 e2
      rw [hal]
      refine ⟨by show T + 2 + 0 + 0 ≤ 100200; omega, sp_X8_thrown ?_⟩
      rw [sM_s]
      refine And.intro (fun _ => ?_) (fun z => absurd rfl z)
      refine And.intro (fun z => absurd rfl z) (fun _ => ?_)
      refine ⟨rfl, vz, ?_⟩
      refine And.intro (fun z => absurd z (by decide)) (fun _ => ?_)
      show (lg_cmp (vp_updL σ.2.2 0 1 0) 1 = 0 → _) ∧ (¬ lg_cmp (vp_updL σ.2.2 0 1 0) 1 = 0 → _)
      rw [pk_uLs, lg_xx]
      refine And.intro (fun _ => ?_) (fun z => absurd rfl z)
      exact h _ _ _ _ (by show T + 2 + 0 + 0 ≤ T + 2; omega) (f0 _ _ ags)
end LW4
