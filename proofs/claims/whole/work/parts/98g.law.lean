/-! ===== PURE: the law, case by case ===== -/
abbrev lcl (i : Nat) (z5 z6 : Option Value) : Lc := [some (.ref 50), some (.ref 0), some (.ref 7), some (.ref 33), some (.int (nI i)), z5, z6]
theorem hx_A {pc0 h0 k0 pc T : Nat} {E : String} {Xt : String → Nat → Sg → Prop} {J : Jt} {l : Lc} {σ : Sg} (hpc : pc = pc0) (h : J T h0 (st1 l k0 none) [] σ) : hX (hdA pc0 E h0 k0 pc) Xt J l T E σ := by
  subst hpc
  unfold hX hdA
  rw [if_pos ⟨rfl, rfl⟩]
  exact h
theorem xAI : xA ≠ xI := by decide
theorem hx_B1 {pc0 h0 h1 k0 pc T : Nat} {Xt : String → Nat → Sg → Prop} {J : Jt} {l : Lc} {σ : Sg} (hpc : pc = pc0) (h : J T h0 (st1 l k0 none) [] σ) : hX (hdB pc0 h0 h1 k0 pc) Xt J l T xI σ := by
  subst hpc
  unfold hX hdB
  rw [if_pos ⟨rfl, rfl⟩]
  exact h
theorem hx_B2 {pc0 h0 h1 k0 pc T : Nat} {Xt : String → Nat → Sg → Prop} {J : Jt} {l : Lc} {σ : Sg} (hpc : pc = pc0) (h : J T h1 (st1 l k0 none) [] σ) : hX (hdB pc0 h0 h1 k0 pc) Xt J l T xA σ := by
  subst hpc
  unfold hX hdB
  rw [if_neg (fun z => xAI z.2), if_pos ⟨rfl, rfl⟩]
  exact h
theorem lg_xx (x : Int64) : lg_cmp x x = 0 := by
  unfold lg_cmp
  rw [if_neg (fun h => Int64.lt_irrefl h), if_pos rfl]
theorem vz : vp_in 0 (ak 33).2 := nI_in (c := 0) (show 0 < 1 by omega) (by decide)
section LW
variable {L : Nat} {xs : Nat → Int32} {σ : Sg} {T i : Nat} {z5 z6 : Option Value} {I : Jt}
theorem ixn {k c : Nat} (h : i + c < L) (hL : L ≤ 384) (hk : nI c = nI k) : vp_in (nI i + nI k) L := by
  rw [← hk, nI_add]
  exact nI_in h (by omega)
theorem ixo (k : Nat) (h : i + 6 ≤ L) (hk : k < 6) (hL : L ≤ 384) : vp_in (nI i + nI k) L := by
  rw [nI_add]
  exact nI_in (show i + k < L by omega) (by omega)
theorem sp_X8_thrown {Q : Po} {X : Xo} (h : Q (some (.int (σ.1 7 0))) σ) : P_X8_thrown [.ref 7] σ Q X := by
  refine ⟨rfl, fun I hI => run_in (stop := fun _ => false) hI 10 ?_⟩
  exact h
theorem law_read (hI : Cl (FL L xs) I) (hT : T + 2 ≤ 100200) (hi : i + 6 ≤ L) (hL : L ≤ 384) (hR : Rel σ) (h : ∀ T' τ z5 z6, T' ≤ T + 2 → Rel τ → I T' 1052 (lcl i z5 z6) [] τ) : I T 321 (lcl i z5 z6) [] σ := by
  obtain ⟨n, t, S, ob, fi, wt, hB⟩ := hR
  have hB' := hB
  obtain ⟨r1, r2, r3, r4, ⟨r5, r5'⟩, r6, r7, r8, r9⟩ := hB
  have ix := ixo 1 hi (by omega) hL
  refine run_in (stop := fun pc => Nat.beq pc 1052) hI 80 ?_
  refine ⟨rfl, ix, ?_⟩
  refine ⟨by show T + 1 ≤ 100200; omega, ?_⟩
  refine ⟨rfl, fun J hJ => run_in (stop := fun _ => false) hJ 40 ?_⟩
  refine ⟨Nat.le_refl _, sp_X7_read r1 r3 r5 r5' r6.1 r6.2.2.1 (fun g => ?_) (fun k hk hx τ c1 c2 c3 c4 c5 c6 c7 c8 c9 => ?_)⟩
  · refine hx_A rfl ?_
    refine ⟨rfl, ix, ?_⟩
    refine ⟨by show T + 1 + 0 ≤ 100200; omega, sp_X8_read r2 r4 r5 r5' r6.2.1 r6.2.2.1 (fun _ => ?_) (fun k hk hx => ?_)⟩
    · refine ⟨by show T + 1 + 0 + 0 ≤ 100200; omega, sp_X8_thrown ?_⟩
      refine And.intro (fun _ => ?_) (fun z => absurd rfl z)
      refine And.intro (fun _ => ?_) (fun z => absurd z (by decide))
      exact h _ _ _ _ (by show T + 1 + 0 + 0 ≤ T + 2; omega) ⟨n, t, S, ob, fi, wt, hB'.ag (P := f0P) ⟨rfl, fun j k z => sM_o (by unfold f0P at z; omega)⟩ (fun j k z => Or.inl z)⟩
    · exfalso
      rw [hx] at g
      have hn := r1.2.1
      rcases g with g | g
      · exact nI_pos (by omega) g
      · exact absurd ((nI_ltI (by omega) (by omega)).mp g) (by omega)
  · refine ⟨rfl, vz, ?_⟩
    refine ⟨rfl, ix, ?_⟩
    generalize hzz : rd1 n t S k = z at c2 c5 c6 c7 c8 c9
    have hnm : ∀ j q, (j = 7 ∨ 20 ≤ j) → τ.1 j q = σ.1 j q := fun j q hj => c3.2 j q (by unfold ePc rdP; omega)
    have r2' : TapeM (sO τ 0 (if z.1 = 0 then nI z.2.2.2.2.2 else fI z.1).toInt64) n t := r2.fr (hnm 7 1 (by omega)) (fun k => hnm 20 k (by omega))
    have r4' : MS (sO τ 0 (if z.1 = 0 then nI z.2.2.2.2.2 else fI z.1).toInt64) S := r4.fr (hnm 7 3 (by omega)) (hnm 7 9 (by omega)) (fun j k h1 h2 => hnm j k (by omega))
    refine ⟨by show T + 1 + 0 ≤ 100200; omega, sp_X8_read r2' r4' r5 r5' ((hnm 7 11 (by omega)).trans r6.2.1) r6.2.2.1 (fun g => ?_) (fun k' hk' hx' υ m1 m2 m3 m0 m4 m5 m6 m7 m8 m9 m10 => ?_)⟩
    · exfalso
      rw [hx] at g
      have hn := r1.2.1
      rcases g with g | g
      · exact nI_pos (by omega) g
      · exact absurd ((nI_ltI (by omega) (by omega)).mp g) (by omega)
    · have hkk : k' = k := by
        have hn := r1.2.1
        rw [hx] at hx'
        exact ((nI_eq (by omega) (by omega)).mp hx').symm
      subst hkk
      rw [hzz] at m2 m5 m6 m7 m8 m9 m10
      have eo : υ.2.2 0 = (if z.1 = 0 then nI z.2.2.2.2.2 else fI z.1).toInt64 := by rw [m3.1]; show vp_updL τ.2.2 0 _ 0 = _; exact pk_uLs
      refine ⟨by show T + 1 + 0 + 0 ≤ 100200; omega, sp_X8_thrown ?_⟩
      rw [m0]
      refine And.intro (fun _ => ?_) (fun z => absurd rfl z)
      refine And.intro (fun z => absurd rfl z) (fun _ => ?_)
      refine ⟨rfl, vz, ?_⟩
      rw [hzz]
      show (lg_cmp (υ.2.2 0) (if z.1 = 0 then nI z.2.2.2.2.2 else fI z.1).toInt64 = 0 → _) ∧ (¬ lg_cmp (υ.2.2 0) (if z.1 = 0 then nI z.2.2.2.2.2 else fI z.1).toInt64 = 0 → _)
      rw [eo, lg_xx]
      refine And.intro (fun _ => ?_) (fun z => absurd rfl z)
      refine h _ _ _ _ (by show T + 1 + 0 + 0 ≤ T + 2; omega) ?_
      exact rel_read hB' (by rw [← hzz]; exact rd1_good r5 r5') (by rw [← hzz]; exact rd1_sr r5 r5') c1 c2 c3 c4 c5 c6 c7 c8 c9 m1 m2 m3 m4 m5 m6 m7 m8 m9 m10
end LW
