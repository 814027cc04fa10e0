/-! ===== PURE: rewind, drop ===== -/
def cutS (S : St) (p : Nat) : St := (p, S.2.1, sr S p, S.2.2.2)
theorem sr_mono {S : St} (hW : WF S) : ∀ m k, k + m < S.1 → sr S k ≤ sr S (k + m) := by
  intro m
  induction m with
  | zero => intro k _; exact Nat.le_refl _
  | succ m ih =>
    intro k hk
    have h1 := ih k (by omega)
    have h2 := (hW (k + m) (by omega)).1.2.2.1.2.1
    unfold nx at h2
    rw [if_pos (by omega)] at h2
    show sr S k ≤ sr S (k + m + 1)
    omega
theorem cut_ex {S : St} {p : Nat} (hW : WF S) (hp : p < S.1) : EX (cutS S p) S := by
  have h1 := (hW p hp).1.2.2.1.2.1
  have h2 := nx_u hW (S.1 - p) p (by omega) hp
  exact ⟨by show p ≤ S.1; omega, by show sr S p ≤ S.2.2.1; omega, fun _ _ _ => rfl, fun _ _ => rfl⟩
theorem cut_sz {S : St} {p : Nat} (hW : WF S) (hS : SZ S) (hp : p < S.1) : SZ (cutS S p) := by
  have h := cut_ex hW hp
  have h1 := h.1
  have h2 := h.2.1
  exact ⟨Nat.le_trans h1 hS.1, Nat.le_trans h2 hS.2⟩
theorem cut_wf {S : St} {p : Nat} (hW : WF S) (hp : p < S.1) (hb : ∀ k, k < p → en S k ≤ p) : WF (cutS S p) := by
  have ie : ∀ c m, it (cutS S p) c m = it S c m := by
    intro c m
    induction m with
    | zero => rfl
    | succ m ih => show en (cutS S p) _ = en S _; rw [ih]; rfl
  intro k hk
  have hk' : k < p := hk
  obtain ⟨⟨⟨n1, n2, n3⟩, n4, ⟨n5, n6, n7⟩, n8, n9⟩, c1, c2, c3⟩ := hW k (by omega)
  have hnx : nx (cutS S p) k = nx S k := by
    show (if k + 1 < p then sr S (k + 1) else sr S p) = (if k + 1 < S.1 then sr S (k + 1) else S.2.2.1)
    by_cases e : k + 1 < p
    · rw [if_pos e, if_pos (by omega)]
    · rw [if_neg e, show k + 1 = p by omega, if_pos hp]
  refine ⟨⟨⟨n1, n2, hb k hk'⟩, n4, ⟨n5, by rw [hnx]; exact n6, by rw [hnx]; exact n7⟩, n8, n9⟩, fun hc => ?_, c2, c3⟩
  obtain ⟨v, v1, v2, v3, v4⟩ := c1 hc
  refine ⟨v, v1, v2, fun z => ?_, fun z => ?_⟩
  · have := v3 z
    exact ⟨by rw [ie]; exact this.1, fun j hj => by rw [ie]; exact this.2 j hj⟩
  · have := v4 z
    exact ⟨⟨by rw [ie]; exact this.1.1, fun j hj => by rw [ie]; exact this.1.2 j hj⟩, fun j hj => by rw [ie]; exact this.2 j hj⟩
/-- the objects -/
def OBJ (σ : Sg) (S : St) (ob : Nat) (fi : Nat → Nat) : Prop := σ.1 2 9 = nI ob ∧ σ.1 7 11 = nI ob ∧ ob ≤ S.1 ∧ ∀ i, i < ob → (σ.1 14 i = nI (fi i) ∧ σ.1 27 i = nI (fi i) ∧ σ.1 28 i = nI (sr S (fi i))) ∧ fi i < S.1 ∧ (∀ j, j < i → fi j < fi i) ∧ ∀ k, k < fi i → en S k ≤ fi i
section DP
variable {σ : Sg} {Q : Po} {X : Xo} {n : Nat} {t : Nat → Nat} {wt : List Nat} {S : St} {ob : Nat} {fi : Nat → Nat}
theorem fi_ge {ob : Nat} {fi : Nat → Nat} (h : ∀ i, i < ob → ∀ j, j < i → fi j < fi i) : ∀ i, i < ob → i ≤ fi i := by
  intro i
  induction i with
  | zero => intro _; exact Nat.zero_le _
  | succ i ih => intro hi; have := h (i + 1) hi i (by omega); have := ih (by omega); omega
theorem lp_begin {p : Nat} (hO : OBJ σ S ob fi) (hS : SZ S) (hp : p < S.1) (h0 : (∀ i, i < ob → fi i ≠ p) → Q (some (.int (-1))) σ) (h1 : ∀ i, i < ob → fi i = p → Q (some (.int (nI i))) σ) {I : Jt} (hI : Cl (FM (cutN 30 t_X4_objectBeginningAt) e_X4_objectBeginningAt xn0 0 sws0 false Q X) I) :
    ∀ m i, i + m = ob → (∀ j, j < i → fi j ≠ p) → I 0 2 [some (.ref 2), some (.int (nI p)), some (.int (nI i))] [] σ := by
  obtain ⟨o1, o2, o3, o4⟩ := hO
  have hz := hS.1
  intro m
  induction m with
  | zero =>
    intro i hi hn
    refine run_in (stop := fun pc => Nat.beq pc 2) hI 40 ?_
    refine pk_le ob i (fun g => h0 (fun j hj => hn j (by omega))) (fun g => by omega) o1 rfl
  | succ m ih =>
    intro i hi hn
    have hfi := (o4 i (by omega)).2.1
    refine run_in (stop := fun pc => Nat.beq pc 2) hI 40 ?_
    refine pk_le ob i (fun g => by omega) (fun g => ?_) o1 rfl
    refine ⟨rfl, nI_in (show i < 4000 by omega) (by decide), ?_⟩
    rw [el_nI (by decide) (by omega), (o4 i (by omega)).1.1]
    refine kne (fi i) p (fun q => ?_) (fun q => h1 i (by omega) q) rfl rfl
    have := ih (i + 1) (by omega) (fun j hj => by
      by_cases e : j = i
      · rw [e]; exact q
      · exact hn j (by omega))
    rw [nI_succ] at this
    exact this
def dpC (j k : Nat) : Prop := j = 2 ∧ (k = 7 ∨ k = 8 ∨ k = 9)
theorem sp_X7_drop {x : Int32} (hO : OBJ σ S ob fi) (hC : CS σ S) (hS : SZ S) (hW : WF S) (hA : (x < 0 ∨ ∃ p, p < S.1 ∧ x = nI p ∧ ∀ i, i < ob → fi i ≠ p) → X xA σ) (h0 : nI S.1 ≤ x → Q (some (.int 0)) σ) (h1 : ∀ i, i < ob → x = nI (fi i) → ∀ τ, CS τ (cutS S (fi i)) → Fr dpC σ τ → τ.1 2 9 = nI i → Q (some (.int (nI (S.1 - fi i)))) τ) : P_X7_drop [.ref 0, .int x] σ Q X := by
  have hz := hS.1
  have hO' := hO
  obtain ⟨o1, o2, o3, o4⟩ := hO
  refine ⟨rfl, fun I hI => run_in (stop := fun _ => false) hI 60 ?_⟩
  refine And.intro (fun g => ?_) (fun g => ⟨Nat.le_refl _, hA (Or.inl (Int32.not_le.mp g))⟩)
  obtain ⟨p, hp, rfl⟩ := nI_of (Int32.not_lt.mpr g)
  refine pk_lt p S.1 (fun g2 => ?_) (fun g2 => h0 (nI_le g2 hp)) rfl hC.1
  refine ⟨by decide, rfl, fun I hI => run_in (stop := fun pc => Nat.beq pc 2) hI 20 ?_⟩
  refine lp_begin hO' hS g2 (fun hn => ?_) (fun i hi hq => ?_) hI ob 0 (by omega) (fun j hj => absurd hj (Nat.not_lt_zero j))
  · exact And.intro (fun z => absurd rfl z) (fun _ => ⟨Nat.le_refl _, hA (Or.inr ⟨p, g2, rfl, hn⟩)⟩)
  · refine And.intro (fun _ => ?_) (fun z => absurd z (nIm1 (by omega)))
    subst hq
    obtain ⟨⟨f1, f2, f3⟩, f4, f5, f6⟩ := o4 i hi
    have e14 : el σ 14 (nI i) = nI (fi i) := by rw [el_nI (by decide) (by omega)]; exact f1
    have hin : vp_in (nI i) 4000 := nI_in (show i < 4000 by omega) (by decide)
    obtain ⟨a1, a2⟩ := ldc (i := 4) hC hS (by omega) g2
    have a2 : el σ 13 (nI (fi i)) = nI (sr S (fi i)) := by rw [show el σ 13 (nI (fi i)) = S.2.1 4 (fi i) from a2, (hW (fi i) g2).1.2.2.1.1]
    refine ⟨by decide, rfl, fun I hI => run_in (stop := fun pc => Nat.beq pc 34) hI 60 ?_⟩
    refine And.intro (fun z => absurd z (nI_pos (by omega))) (fun _ => ?_)
    refine pk_le ob i (fun z => by omega) (fun _ => ?_) o1 rfl
    refine ⟨rfl, hin, ?_⟩
    rw [e14]
    refine ⟨Nat.le_refl _, sp_X4_has (b := true) ⟨fun _ => ⟨nI_pos0 (by omega), by rw [hC.1]; exact nI_lt g2 (by omega)⟩, fun _ => rfl⟩ (fun r hr => ?_)⟩
    subst hr
    refine And.intro (fun _ => ?_) (fun z => absurd z (by decide))
    refine ⟨rfl, hin, ?_⟩
    rw [e14]
    show I 0 34 [some (.ref 2), some (.int (nI i)), some (.int (nI (fi i))), none] [] σ
    refine run_in (stop := fun _ => false) hI 40 ?_
    refine ⟨rfl, a1, ?_⟩
    rw [a2]
    have hsub : σ.1 2 7 - nI (fi i) = nI (S.1 - fi i) := by rw [hC.1]; exact nI_sub (by omega)
    have hq := h1 i hi rfl (sM (sM (sM σ 2 8 (nI (sr S (fi i)))) 2 7 (nI (fi i))) 2 9 (nI i)) (hC.cut (cut_ex hW g2) (fun _ => trivial) _ ?_ ?_ (fun j k h1 h2 => ?_) (fun k => ?_)) (((Fr.rf.s (by simp [dpC])).s (by simp [dpC])).s (by simp [dpC])) sM_s
    · rw [← hsub] at hq
      exact hq
    · rw [sM_o (by omega), sM_s]; rfl
    · rw [sM_o (by omega), sM_o (by omega), sM_s]; rfl
    · rw [sM_o (by omega), sM_o (by omega), sM_o (by omega)]
    · rw [sM_o (by omega), sM_o (by omega), sM_o (by omega)]
end DP
