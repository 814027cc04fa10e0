/-! ===== PURE: the law's loop; the claim ===== -/
theorem len_sub6 {L i : Nat} (hL : L ≤ 384) (hi : i ≤ L) : Int32.ofNat L - 6 < nI i ↔ L < i + 6 := by
  have e1 : (Int32.ofNat L).toInt = (L : Int) := nI_toInt (by omega)
  have e2 : (6 : Int32).toInt = 6 := by decide
  rw [Int32.lt_iff_toInt_lt, nI_toInt (by omega), Int32.toInt_sub, e1, e2, Int.bmod_eq_of_le (by omega) (by omega)]
  omega
section LWE
variable {L : Nat} {xs : Nat → Int32} {I : Jt}
theorem law_loop (hI : Cl (FL L xs) I) (hL : L ≤ 384) : ∀ (f i T : Nat) (z5 z6 : Option Value) (σ : Sg), L ≤ i + f → i ≤ L → 3 * T ≤ 300000 + i → Rel σ → I T 23 (lcl i z5 z6) [] σ := by
  intro f
  induction f with
  | zero =>
    intro i T z5 z6 σ h1 h2 h3 hR
    refine run_in (stop := fun pc => Nat.ble 124 pc && Nat.ble pc 1052) hI 12 ?_
    refine ⟨rfl, ?_⟩
    refine And.intro (fun _ => rfl) (fun z => absurd ((len_sub6 hL h2).mpr (by omega)) z)
  | succ f ih =>
    intro i T z5 z6 σ h1 h2 h3 hR
    refine run_in (stop := fun pc => Nat.ble 124 pc && Nat.ble pc 1052) hI 12 ?_
    refine ⟨rfl, ?_⟩
    refine And.intro (fun _ => rfl) (fun z => ?_)
    have hi : i + 6 ≤ L := by
      have y : ¬ L < i + 6 := fun y => z ((len_sub6 hL h2).mpr y)
      omega
    have hT : T + 2 ≤ 100200 := by omega
    have h : ∀ T' τ z5 z6, T' ≤ T + 2 → Rel τ → I T' 1052 (lcl i z5 z6) [] τ := by
      intro T' τ z5 z6 hT' hR'
      refine run_in (stop := fun pc => Nat.beq pc 23) hI 4 ?_
      have := ih (i + 6) T' z5 z6 τ (by omega) hi (by omega) hR'
      unfold lcl at this
      rw [show nI (i + 6) = nI i + 6 from (nI_add i 6).symm] at this
      exact this
    refine ⟨rfl, nI_in (show i < L by omega) (by omega), ?_⟩
    refine And.intro (fun _ => law_feed hI hT hi hL hR h) (fun _ => ?_)
    refine And.intro (fun _ => law_put hI hT hi hL hR h) (fun _ => ?_)
    refine And.intro (fun _ => law_cut hI hT hi hL hR h) (fun _ => ?_)
    refine And.intro (fun _ => law_read hI hT hi hL hR h) (fun _ => ?_)
    refine And.intro (fun _ => law_entry hI hT hi hL hR h) (fun _ => ?_)
    refine And.intro (fun _ => law_last hI hT hi hL hR h) (fun _ => ?_)
    refine And.intro (fun _ => law_kind hI hT hi hL hR h) (fun _ => ?_)
    refine And.intro (fun _ => law_value hI hT hi hL hR h) (fun _ => ?_)
    refine And.intro (fun _ => law_byteAt hI hT hi hL hR h) (fun _ => ?_)
    refine And.intro (fun _ => law_child hI hT hi hL hR h) (fun _ => ?_)
    refine And.intro (fun _ => law_find hI hT hi hL hR h) (fun _ => ?_)
    refine And.intro (fun _ => law_alike hI hT hi hL hR h) (fun _ => ?_)
    refine And.intro (fun _ => law_write hI hT hi hL hR h) (fun _ => ?_)
    refine And.intro (fun _ => law_written hI hT hi hL hR h) (fun _ => ?_)
    refine And.intro (fun _ => law_rewind hI hT hi hL hR h) (fun _ => ?_)
    refine And.intro (fun _ => law_drop hI hT hi hL hR h) (fun _ => ?_)
    refine And.intro (fun _ => law_count hI hT hi hL hR h) (fun _ => ?_)
    exact h T σ z5 z6 (by omega) hR
end LWE
theorem law_true (L : Nat) (xs : Nat → Int32) (hL : L ≤ 384) : Lf (FL L xs) 100000 23 lc0 [] sg0 := fun I hI => by
  have := law_loop hI hL L 0 100000 none none sg0 (by omega) (by omega) (by omega) rel0
  unfold lcl at this
  rw [nI_0] at this
  exact this
theorem i_vc : Claimed_1_1 ∧ Claimed_1_2 := i_vc0 law_true
