/-! ===== PURE: the law, the rest ===== -/
theorem no_pl {n i1 : Nat} {x : Int32} (hn : n ≤ 65536) (g : x < 0 ∨ nI n ≤ x) (h1 : i1 < n) (h2 : x = nI i1) : False := by
  rw [h2] at g
  rcases g with g | g
  · exact nI_pos (by omega) g
  · exact absurd ((nI_leI (by omega) (by omega)).mp g) (by omega)
section LW3
variable {L : Nat} {xs : Nat → Int32} {σ : Sg} {T i : Nat} {z5 z6 : Option Value} {I : Jt}
theorem law_last (hI : Cl (FL L xs) I) (hT : T + 2 ≤ 100200) (hi : i + 6 ≤ L) (hL : L ≤ 384) (hR : Rel σ) (h : ∀ T' τ z5 z6, T' ≤ T + 2 → Rel τ → I T' 1052 (lcl i z5 z6) [] τ) : I T 433 (lcl i z5 z6) [] σ := by
  obtain ⟨n, t, S, ob, fi, wt, hB⟩ := hR
  have hB' := hB
  obtain ⟨r1, r2, r3, r4, ⟨r5, r5'⟩, r6, r7, r8, r9⟩ := hB
  have ix := ixo 1 hi (by omega) hL
  have ix2 := ixo 2 hi (by omega) hL
  have ix3 := ixo 3 hi (by omega) hL
  have ix4 := ixo 4 hi (by omega) hL
  have ix5 := ixo 5 hi (by omega) hL
  have hz := r5.1
  have hn := r1.2.1
  have f0 : ∀ (τ : Sg) (v : Int32), Ag (fun _ _ => False) σ τ → Rel (sM τ 7 0 v) := fun τ v a => ⟨n, t, S, ob, fi, wt, hB'.ag (P := f0P) ⟨a.1, fun j k z => (sM_o (by unfold f0P at z; omega)).trans (a.2 j k (fun y => y))⟩ (fun j k z => Or.inl z)⟩
  have ags : Ag (fun _ _ => False) σ σ := ⟨rfl, fun _ _ _ => rfl⟩
  refine run_in (stop := fun pc => Nat.beq pc 1052) hI 90 ?_
  refine ⟨rfl, ix, ?_⟩
  refine ⟨by show T + 0 ≤ 100200; omega, sp_X7_last ?_⟩
  refine ⟨rfl, ix, ?_⟩
  refine ⟨by show T + 0 + 0 ≤ 100200; omega, sp_X8_last ?_⟩
  rw [r7.1, r7.2.1, r7.2.2.1, r7.2.2.2]
  refine And.intro (fun _ => ?_) (fun z => absurd rfl z)
  exact h _ _ _ _ (by show T + 0 + 0 ≤ T + 2; omega) (f0 _ _ ags)
theorem law_count (hI : Cl (FL L xs) I) (hT : T + 2 ≤ 100200) (hi : i + 6 ≤ L) (hL : L ≤ 384) (hR : Rel σ) (h : ∀ T' τ z5 z6, T' ≤ T + 2 → Rel τ → I T' 1052 (lcl i z5 z6) [] τ) : I T 1027 (lcl i z5 z6) [] σ := by
  obtain ⟨n, t, S, ob, fi, wt, hB⟩ := hR
  have hB' := hB
  obtain ⟨r1, r2, r3, r4, ⟨r5, r5'⟩, r6, r7, r8, r9⟩ := hB
  have ix := ixo 1 hi (by omega) hL
  have ix2 := ixo 2 hi (by omega) hL
  have ix3 := ixo 3 hi (by omega) hL
  have ix4 := ixo 4 hi (by omega) hL
  have ix5 := ixo 5 hi (by omega) hL
  have hz := r5.1
  have hn := r1.2.1
  have f0 : ∀ (τ : Sg) (v : Int32), Ag (fun _ _ => False) σ τ → Rel (sM τ 7 0 v) := fun τ v a => ⟨n, t, S, ob, fi, wt, hB'.ag (P := f0P) ⟨a.1, fun j k z => (sM_o (by unfold f0P at z; omega)).trans (a.2 j k (fun y => y))⟩ (fun j k z => Or.inl z)⟩
  have ags : Ag (fun _ _ => False) σ σ := ⟨rfl, fun _ _ _ => rfl⟩
  refine run_in (stop := fun pc => Nat.beq pc 1052) hI 90 ?_
  refine ⟨rfl, ix, ?_⟩
  refine ⟨by show T + 0 ≤ 100200; omega, sp_X7_count ?_⟩
  refine ⟨rfl, ix, ?_⟩
  refine ⟨by show T + 0 + 0 ≤ 100200; omega, sp_X8_count ?_⟩
  rw [r1.1, r3.1, r3.2.1, r6.1, r2.1, r4.1, r4.2.1, r6.2.1]
  refine And.intro (fun _ => ?_) (fun z => absurd rfl z)
  exact h _ _ _ _ (by show T + 0 + 0 ≤ T + 2; omega) (f0 _ _ ags)
theorem law_written (hI : Cl (FL L xs) I) (hT : T + 2 ≤ 100200) (hi : i + 6 ≤ L) (hL : L ≤ 384) (hR : Rel σ) (h : ∀ T' τ z5 z6, T' ≤ T + 2 → Rel τ → I T' 1052 (lcl i z5 z6) [] τ) : I T 933 (lcl i z5 z6) [] σ := by
  obtain ⟨n, t, S, ob, fi, wt, hB⟩ := hR
  have hB' := hB
  obtain ⟨r1, r2, r3, r4, ⟨r5, r5'⟩, r6, r7, r8, r9⟩ := hB
  have ix := ixo 1 hi (by omega) hL
  have ix2 := ixo 2 hi (by omega) hL
  have ix3 := ixo 3 hi (by omega) hL
  have ix4 := ixo 4 hi (by omega) hL
  have ix5 := ixo 5 hi (by omega) hL
  have hz := r5.1
  have hn := r1.2.1
  have f0 : ∀ (τ : Sg) (v : Int32), Ag (fun _ _ => False) σ τ → Rel (sM τ 7 0 v) := fun τ v a => ⟨n, t, S, ob, fi, wt, hB'.ag (P := f0P) ⟨a.1, fun j k z => (sM_o (by unfold f0P at z; omega)).trans (a.2 j k (fun y => y))⟩ (fun j k z => Or.inl z)⟩
  have ags : Ag (fun _ _ => False) σ σ := ⟨rfl, fun _ _ _ => rfl⟩
  refine run_in (stop := fun pc => Nat.beq pc 1052) hI 90 ?_
  refine ⟨rfl, ix, ?_⟩
  refine ⟨by show T + 0 ≤ 100200; omega, sp_X7_written r8 ?_⟩
  refine ⟨rfl, ix, ?_⟩
  refine ⟨by show T + 0 + 0 ≤ 100200; omega, sp_X8_written r9 r8.2.2.1 ?_⟩
  refine And.intro (fun _ => ?_) (fun z => absurd rfl z)
  exact h _ _ _ _ (by show T + 0 + 0 ≤ T + 2; omega) (f0 _ _ ags)
theorem law_rewind (hI : Cl (FL L xs) I) (hT : T + 2 ≤ 100200) (hi : i + 6 ≤ L) (hL : L ≤ 384) (hR : Rel σ) (h : ∀ T' τ z5 z6, T' ≤ T + 2 → Rel τ → I T' 1052 (lcl i z5 z6) [] τ) : I T 958 (lcl i z5 z6) [] σ := by
  obtain ⟨n, t, S, ob, fi, wt, hB⟩ := hR
  have hB' := hB
  obtain ⟨r1, r2, r3, r4, ⟨r5, r5'⟩, r6, r7, r8, r9⟩ := hB
  have ix := ixo 1 hi (by omega) hL
  have ix2 := ixo 2 hi (by omega) hL
  have ix3 := ixo 3 hi (by omega) hL
  have ix4 := ixo 4 hi (by omega) hL
  have ix5 := ixo 5 hi (by omega) hL
  have hz := r5.1
  have hn := r1.2.1
  have f0 : ∀ (τ : Sg) (v : Int32), Ag (fun _ _ => False) σ τ → Rel (sM τ 7 0 v) := fun τ v a => ⟨n, t, S, ob, fi, wt, hB'.ag (P := f0P) ⟨a.1, fun j k z => (sM_o (by unfold f0P at z; omega)).trans (a.2 j k (fun y => y))⟩ (fun j k z => Or.inl z)⟩
  have ags : Ag (fun _ _ => False) σ σ := ⟨rfl, fun _ _ _ => rfl⟩
  refine run_in (stop := fun pc => Nat.beq pc 1052) hI 90 ?_
  refine ⟨by show T + 0 ≤ 100200; omega, sp_X7_rewind r8 (fun τ c1 c2 => ?_)⟩
  have r9' : WRM τ wt := r9.ag c2.ag (fun j k h1 h2 => by unfold tpC at h2; omega)
  refine ⟨by show T + 0 + 0 ≤ 100200; omega, sp_X8_rewind r9' r8.2.2.1 (fun i hi => (r8.2.2.2 i hi).2) (fun υ m1 m2 m0 => ?_)⟩
  refine And.intro (fun _ => ?_) (fun z => absurd rfl z)
  have ag1 : Ag tpC σ τ := c2.ag
  have ag2 : Ag tpM τ υ := ⟨by rw [m2.1], m2.2⟩
  have hpg := pg2 r8
  refine h _ _ _ _ (by show T + 0 + 0 ≤ T + 2; omega) ⟨wt.length, gD wt, S, ob, fi, wt, c1.ag ag2 ?_, m1, (r3.ag ag1 ?_).ag ag2 ?_, (r4.ag ag1 ?_).ag ag2 ?_, ⟨r5, r5'⟩, (r6.ag ag1 ?_).ag ag2 ?_, (r7.ag ag1 ?_).ag ag2 ?_, (r8.ag ag1 ?_).ag ag2 ?_, (r9.ag ag1 ?_).ag ag2 ?_⟩
  all_goals (intro j k h1 h2; first | (unfold tpC at h2; omega) | (unfold tpM at h2; omega) | (unfold tpM at h2; rw [ag1.1] at h1; omega))
theorem law_feed (hI : Cl (FL L xs) I) (hT : T + 2 ≤ 100200) (hi : i + 6 ≤ L) (hL : L ≤ 384) (hR : Rel σ) (h : ∀ T' τ z5 z6, T' ≤ T + 2 → Rel τ → I T' 1052 (lcl i z5 z6) [] τ) : I T 124 (lcl i z5 z6) [] σ := by
  obtain ⟨n, t, S, ob, fi, wt, hB⟩ := hR
  have hB' := hB
  obtain ⟨r1, r2, r3, r4, ⟨r5, r5'⟩, r6, r7, r8, r9⟩ := hB
  have ix := ixo 1 hi (by omega) hL
  have ix2 := ixo 2 hi (by omega) hL
  have ix3 := ixo 3 hi (by omega) hL
  have ix4 := ixo 4 hi (by omega) hL
  have ix5 := ixo 5 hi (by omega) hL
  have hz := r5.1
  have hn := r1.2.1
  have f0 : ∀ (τ : Sg) (v : Int32), Ag (fun _ _ => False) σ τ → Rel (sM τ 7 0 v) := fun τ v a => ⟨n, t, S, ob, fi, wt, hB'.ag (P := f0P) ⟨a.1, fun j k z => (sM_o (by unfold f0P at z; omega)).trans (a.2 j k (fun y => y))⟩ (fun j k z => Or.inl z)⟩
  have ags : Ag (fun _ _ => False) σ σ := ⟨rfl, fun _ _ _ => rfl⟩
  refine run_in (stop := fun pc => Nat.beq pc 1052) hI 90 ?_
  refine ⟨rfl, ix, rfl, ix2, rfl, ix3, rfl, ix4, rfl, ix5, ?_⟩
  refine ⟨by show T + 0 ≤ 100200; omega, sp_X7_feed r1 (fun g => ?_) (fun g τ c1 c2 => ?_)⟩
  · refine ⟨rfl, ix, rfl, ix2, rfl, ix3, rfl, ix4, rfl, ix5, ?_⟩
    refine ⟨by show T + 0 + 0 ≤ 100200; omega, sp_X8_feed r2 (fun _ => ?_) (fun g2 => by omega)⟩
    refine And.intro (fun _ => ?_) (fun z => absurd rfl z)
    exact h _ _ _ _ (by show T + 0 + 0 ≤ T + 2; omega) (f0 _ _ ags)
  · have r2' : TapeM τ n t := r2.ag c2.ag (fun j k h1 h2 => by unfold tpC at h2; omega)
    refine ⟨rfl, ix, rfl, ix2, rfl, ix3, rfl, ix4, rfl, ix5, ?_⟩
    refine ⟨by show T + 0 + 0 ≤ 100200; omega, sp_X8_feed r2' (fun g2 => by omega) (fun g2 υ m1 m2 m0 => ?_)⟩
    refine And.intro (fun _ => ?_) (fun z => absurd rfl z)
    have ag1 : Ag tpC σ τ := c2.ag
    have ag2 : Ag tpM τ υ := ⟨by rw [m2.1], m2.2⟩
    have hpg := pg2 r8
    refine h _ _ _ _ (by show T + 0 + 0 ≤ T + 2; omega) ⟨n + 20, exl t n (by20 _ _ _ _ _), S, ob, fi, wt, c1.ag ag2 ?_, m1, (r3.ag ag1 ?_).ag ag2 ?_, (r4.ag ag1 ?_).ag ag2 ?_, ⟨r5, r5'⟩, (r6.ag ag1 ?_).ag ag2 ?_, (r7.ag ag1 ?_).ag ag2 ?_, (r8.ag ag1 ?_).ag ag2 ?_, (r9.ag ag1 ?_).ag ag2 ?_⟩
    all_goals (intro j k h1 h2; first | (unfold tpC at h2; omega) | (unfold tpM at h2; omega) | (unfold tpM at h2; rw [ag1.1] at h1; omega))
theorem law_cut (hI : Cl (FL L xs) I) (hT : T + 2 ≤ 100200) (hi : i + 6 ≤ L) (hL : L ≤ 384) (hR : Rel σ) (h : ∀ T' τ z5 z6, T' ≤ T + 2 → Rel τ → I T' 1052 (lcl i z5 z6) [] τ) : I T 265 (lcl i z5 z6) [] σ := by
  obtain ⟨n, t, S, ob, fi, wt, hB⟩ := hR
  have hB' := hB
  obtain ⟨r1, r2, r3, r4, ⟨r5, r5'⟩, r6, r7, r8, r9⟩ := hB
  have ix := ixo 1 hi (by omega) hL
  have ix2 := ixo 2 hi (by omega) hL
  have ix3 := ixo 3 hi (by omega) hL
  have ix4 := ixo 4 hi (by omega) hL
  have ix5 := ixo 5 hi (by omega) hL
  have hz := r5.1
  have hn := r1.2.1
  have f0 : ∀ (τ : Sg) (v : Int32), Ag (fun _ _ => False) σ τ → Rel (sM τ 7 0 v) := fun τ v a => ⟨n, t, S, ob, fi, wt, hB'.ag (P := f0P) ⟨a.1, fun j k z => (sM_o (by unfold f0P at z; omega)).trans (a.2 j k (fun y => y))⟩ (fun j k z => Or.inl z)⟩
  have ags : Ag (fun _ _ => False) σ σ := ⟨rfl, fun _ _ _ => rfl⟩
  refine run_in (stop := fun pc => Nat.beq pc 1052) hI 90 ?_
  refine ⟨rfl, ix, ?_⟩
  refine ⟨by show T + 1 ≤ 100200; omega, ?_⟩
  refine ⟨rfl, fun J hJ => run_in (stop := fun _ => false) hJ 40 ?_⟩
  refine ⟨Nat.le_refl _, sp_X7_cut r1 (fun g => ?_) (fun m hm hx τ c1 c2 => ?_)⟩
  · refine hx_A rfl ?_
    refine ⟨rfl, ix, ?_⟩
    refine ⟨by show T + 1 + 0 ≤ 100200; omega, sp_X8_cut r2 (fun _ => ?_) (fun m hm hx => absurd g (by rw [hx]; exact nI_pos hm))⟩
    refine ⟨by show T + 1 + 0 + 0 ≤ 100200; omega, sp_X8_thrown ?_⟩
    rw [sM_s]
    refine And.intro (fun _ => ?_) (fun z => absurd rfl z)
    refine And.intro (fun _ => ?_) (fun z => absurd z (by decide))
    exact h _ _ _ _ (by show T + 1 + 0 + 0 ≤ T + 2; omega) (f0 _ _ ags)
  · refine ⟨rfl, vz, ?_⟩
    have r2' : TapeM (sO τ 0 (nI (n - mnn m n)).toInt64) n t := r2.ag c2.ag (fun j k h1 h2 => by unfold tpC at h2; omega)
    refine ⟨rfl, ix, ?_⟩
    refine ⟨by show T + 1 + 0 ≤ 100200; omega, sp_X8_cut r2' (fun g => absurd g (by rw [hx]; exact nI_pos hm)) (fun m' hm' hx' υ m1 m2 m0 => ?_)⟩
    have e1 : m' = m := (nI_eq hm' hm).mp (hx'.symm.trans hx)
    subst e1
    have eo : υ.2.2 0 = (nI (n - mnn m' n)).toInt64 := by rw [m2.1]; show vp_updL τ.2.2 0 _ 0 = _; exact pk_uLs
    refine ⟨by show T + 1 + 0 + 0 ≤ 100200; omega, sp_X8_thrown ?_⟩
    rw [m0]
    refine And.intro (fun _ => ?_) (fun z => absurd rfl z)
    refine And.intro (fun z => absurd rfl z) (fun _ => ?_)
    refine ⟨rfl, vz, ?_⟩
    show (lg_cmp (υ.2.2 0) (nI (n - mnn m' n)).toInt64 = 0 → _) ∧ (¬ lg_cmp (υ.2.2 0) (nI (n - mnn m' n)).toInt64 = 0 → _)
    rw [eo, lg_xx]
    refine And.intro (fun _ => ?_) (fun z => absurd rfl z)
    have ag1 : Ag tpC σ τ := c2.ag
    have ag2 : Ag tpM τ υ := ⟨by rw [m2.1]; rfl, m2.2⟩
    have hpg := pg2 r8
    refine h _ _ _ _ (by show T + 1 + 0 + 0 ≤ T + 2; omega) ⟨mnn m' n, t, S, ob, fi, wt, c1.ag ag2 ?_, m1, (r3.ag ag1 ?_).ag ag2 ?_, (r4.ag ag1 ?_).ag ag2 ?_, ⟨r5, r5'⟩, (r6.ag ag1 ?_).ag ag2 ?_, (r7.ag ag1 ?_).ag ag2 ?_, (r8.ag ag1 ?_).ag ag2 ?_, (r9.ag ag1 ?_).ag ag2 ?_⟩
    all_goals (intro j k h1 h2; first | (unfold tpC at h2; omega) | (unfold tpM at h2; omega) | (unfold tpM at h2; rw [ag1.1] at h1; omega))
theorem law_put (hI : Cl (FL L xs) I) (hT : T + 2 ≤ 100200) (hi : i + 6 ≤ L) (hL : L ≤ 384) (hR : Rel σ) (h : ∀ T' τ z5 z6, T' ≤ T + 2 → Rel τ → I T' 1052 (lcl i z5 z6) [] τ) : I T 197 (lcl i z5 z6) [] σ := by
  obtain ⟨n, t, S, ob, fi, wt, hB⟩ := hR
  have hB' := hB
  obtain ⟨r1, r2, r3, r4, ⟨r5, r5'⟩, r6, r7, r8, r9⟩ := hB
  have ix := ixo 1 hi (by omega) hL
  have ix2 := ixo 2 hi (by omega) hL
  have ix3 := ixo 3 hi (by omega) hL
  have ix4 := ixo 4 hi (by omega) hL
  have ix5 := ixo 5 hi (by omega) hL
  have hz := r5.1
  have hn := r1.2.1
  have f0 : ∀ (τ : Sg) (v : Int32), Ag (fun _ _ => False) σ τ → Rel (sM τ 7 0 v) := fun τ v a => ⟨n, t, S, ob, fi, wt, hB'.ag (P := f0P) ⟨a.1, fun j k z => (sM_o (by unfold f0P at z; omega)).trans (a.2 j k (fun y => y))⟩ (fun j k z => Or.inl z)⟩
  have ags : Ag (fun _ _ => False) σ σ := ⟨rfl, fun _ _ _ => rfl⟩
  refine run_in (stop := fun pc => Nat.beq pc 1052) hI 90 ?_
  refine ⟨rfl, ix, ?_⟩
  refine ⟨rfl, ix2, ?_⟩
  refine ⟨by show T + 1 ≤ 100200; omega, ?_⟩
  refine ⟨rfl, fun J hJ => run_in (stop := fun _ => false) hJ 40 ?_⟩
  refine ⟨Nat.le_refl _, sp_X7_put r1 (fun g => ?_) (fun i1 hi1 hx1 g => ?_) (fun i1 b1 hi1 hb1 hx1 hy1 τ c1 c2 => ?_)⟩
  · refine hx_B1 rfl ?_
    refine ⟨rfl, ix, rfl, ix2, ?_⟩
    have no := fun i1 h1 h2 => no_pl hn g (i1 := i1) h1 h2
    refine ⟨by show T + 1 + 0 ≤ 100200; omega, sp_X8_put r2 (fun _ => ?_) (fun i1 h1 h2 => (no i1 h1 h2).elim) (fun i1 b1 h1 _ h2 => (no i1 h1 h2).elim)⟩
    refine ⟨by show T + 1 + 0 + 0 ≤ 100200; omega, sp_X8_thrown ?_⟩
    rw [sM_s]
    refine And.intro (fun _ => ?_) (fun z => absurd rfl z)
    refine And.intro (fun _ => ?_) (fun z => absurd z (by decide))
    exact h _ _ _ _ (by show T + 1 + 0 + 0 ≤ T + 2; omega) (f0 _ _ ags)
  · refine hx_B2 rfl ?_
    refine ⟨rfl, ix, rfl, ix2, ?_⟩
    refine ⟨by show T + 1 + 0 ≤ 100200; omega, sp_X8_put r2 (fun g2 => ?_) (fun i2 h1 h2 _ => ?_) (fun i2 b2 h1 h3 h2 h4 => ?_)⟩
    · exfalso
      rw [hx1] at g2
      rcases g2 with g2 | g2
      · exact nI_pos (by omega) g2
      · exact absurd ((nI_leI (by omega) (by omega)).mp g2) (by omega)
    · refine ⟨by show T + 1 + 0 + 0 ≤ 100200; omega, sp_X8_thrown ?_⟩
      rw [sM_s]
      refine And.intro (fun _ => ?_) (fun z => absurd rfl z)
      refine And.intro (fun _ => ?_) (fun z => absurd z (by decide))
      exact h _ _ _ _ (by show T + 1 + 0 + 0 ≤ T + 2; omega) (f0 _ _ ags)
    · exfalso
      rw [h4] at g
      rcases g with g | g
      · exact nI_pos (by omega) g
      · exact absurd ((nI_ltI (a := 255) (by omega) (by omega)).mp g) (by omega)
  · refine ⟨rfl, vz, ?_⟩
    have r2' : TapeM (sO τ 0 (nI (t i1)).toInt64) n t := r2.ag c2.ag (fun j k h1 h2 => by unfold tpC at h2; omega)
    refine ⟨rfl, ix, rfl, ix2, ?_⟩
    refine ⟨by show T + 1 + 0 ≤ 100200; omega, sp_X8_put r2' (fun g2 => ?_) (fun i2 h1 h2 g => ?_) (fun i2 b2 h1 h3 h2 h4 υ m1 m2 m0 => ?_)⟩
    · exfalso
      rw [hx1] at g2
      rcases g2 with g2 | g2
      · exact nI_pos (by omega) g2
      · exact absurd ((nI_leI (by omega) (by omega)).mp g2) (by omega)
    · exfalso
      rw [hy1] at g
      rcases g with g | g
      · exact nI_pos (by omega) g
      · exact absurd ((nI_ltI (a := 255) (by omega) (by omega)).mp g) (by omega)
    · have e1 : i2 = i1 := (nI_eq (by omega) (by omega)).mp (h2.symm.trans hx1)
      have e2 : b2 = b1 := (nI_eq (by omega) (by omega)).mp (h4.symm.trans hy1)
      subst e1 e2
      have eo : υ.2.2 0 = (nI (t i2)).toInt64 := by rw [m2.1]; show vp_updL τ.2.2 0 _ 0 = _; exact pk_uLs
      refine ⟨by show T + 1 + 0 + 0 ≤ 100200; omega, sp_X8_thrown ?_⟩
      rw [m0]
      refine And.intro (fun _ => ?_) (fun z => absurd rfl z)
      refine And.intro (fun z => absurd rfl z) (fun _ => ?_)
      refine ⟨rfl, vz, ?_⟩
      show (lg_cmp (υ.2.2 0) (nI (t i2)).toInt64 = 0 → _) ∧ (¬ lg_cmp (υ.2.2 0) (nI (t i2)).toInt64 = 0 → _)
      rw [eo, lg_xx]
      refine And.intro (fun _ => ?_) (fun z => absurd rfl z)
      have ag1 : Ag tpC σ τ := c2.ag
      have ag2 : Ag tpM τ υ := ⟨by rw [m2.1]; rfl, m2.2⟩
      have hpg := pg2 r8
      refine h _ _ _ _ (by show T + 1 + 0 + 0 ≤ T + 2; omega) ⟨n, ext t i2 b2, S, ob, fi, wt, c1.ag ag2 ?_, m1, (r3.ag ag1 ?_).ag ag2 ?_, (r4.ag ag1 ?_).ag ag2 ?_, ⟨r5, r5'⟩, (r6.ag ag1 ?_).ag ag2 ?_, (r7.ag ag1 ?_).ag ag2 ?_, (r8.ag ag1 ?_).ag ag2 ?_, (r9.ag ag1 ?_).ag ag2 ?_⟩
      all_goals (intro j k h1 h2; first | (unfold tpC at h2; omega) | (unfold tpM at h2; omega) | (unfold tpM at h2; rw [ag1.1] at h1; omega))
end LW3
