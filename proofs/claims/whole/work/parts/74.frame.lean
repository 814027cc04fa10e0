/-! ===== PURE: frames; the draft ===== -/
theorem nIm1 {k : Nat} (h : k < 2 ^ 31) : ¬ nI k = -1 := fun e => absurd (show nI k < 0 by rw [e]; decide) (nI_pos h)
theorem mx1 {k j : Nat} (h1 : 1 ≤ j) (h : j < 2 ^ 31) : nI k + (if (1 : Int32) < nI j then nI j else 1) = nI (k + j) := by
  by_cases e : j = 1
  · subst e
    rw [if_neg (by decide)]
    exact nI_add k 1
  · rw [if_pos (show (1 : Int32) < nI j from nI_lt (a := 1) (by omega) h), nI_add]
theorem sM_s {σ : Sg} {j k : Nat} {v : Int32} : (sM σ j k v).1 j k = v := by simp [sM, upd2, upd]
theorem sM_o {σ : Sg} {j k i m : Nat} {v : Int32} (h : i ≠ j ∨ m ≠ k) : (sM σ j k v).1 i m = σ.1 i m := by
  simp only [sM, upd2, upd]
  by_cases h1 : i = j
  · subst h1
    rw [if_pos rfl]
    rcases h with h | h
    · exact absurd rfl h
    · exact pk_un h
  · rw [if_neg h1]
def Fr (P : Nat → Nat → Prop) (σ τ : Sg) : Prop := τ.2 = σ.2 ∧ ∀ j k, ¬ P j k → τ.1 j k = σ.1 j k
theorem Fr.rf {P : Nat → Nat → Prop} {σ : Sg} : Fr P σ σ := ⟨rfl, fun _ _ _ => rfl⟩
theorem Fr.tr {P : Nat → Nat → Prop} {σ τ υ : Sg} (h1 : Fr P σ τ) (h2 : Fr P τ υ) : Fr P σ υ := ⟨h2.1.trans h1.1, fun j k h => (h2.2 j k h).trans (h1.2 j k h)⟩
theorem Fr.w {P P' : Nat → Nat → Prop} {σ τ : Sg} (h : Fr P σ τ) (hp : ∀ j k, P j k → P' j k) : Fr P' σ τ := ⟨h.1, fun j k g => h.2 j k (fun z => g (hp j k z))⟩
theorem Fr.s {P : Nat → Nat → Prop} {σ τ : Sg} {j k : Nat} {v : Int32} (h : Fr P σ τ) (hp : P j k) : Fr P σ (sM τ j k v) := by
  refine ⟨h.1, fun i m g => ?_⟩
  rw [sM_o (by
    by_cases h1 : i = j
    · by_cases h2 : m = k
      · subst h1; subst h2; exact absurd hp g
      · exact Or.inr h2
    · exact Or.inl h1)]
  exact h.2 i m g
theorem TapeC.fr {σ τ : Sg} {n : Nat} {t : Nat → Nat} (h : TapeC σ n t) (h1 : τ.1 1 1 = σ.1 1 1) (h8 : ∀ k, τ.1 8 k = σ.1 8 k) : TapeC τ n t := ⟨h1.trans h.1, h.2.1, fun k hk => by rw [h8]; exact h.2.2.1 k hk, h.2.2.2⟩
theorem TapeM.fr {σ τ : Sg} {n : Nat} {t : Nat → Nat} (h : TapeM σ n t) (h1 : τ.1 7 1 = σ.1 7 1) (h8 : ∀ k, τ.1 20 k = σ.1 20 k) : TapeM τ n t := ⟨h1.trans h.1, h.2.1, fun k hk => by rw [h8]; exact h.2.2.1 k hk, h.2.2.2⟩
/-- bytes drafted behind the u that are used -/
def SC (σ : Sg) (n : Nat) (t : Nat → Nat) (u : Nat) (l : List Nat) : Prop := TapeC σ n t ∧ σ.1 2 8 = nI u ∧ u ≤ 32768 ∧ σ.1 2 10 = nI l.length ∧ (∀ i, i < l.length → u + i < 32768 → σ.1 15 (u + i) &&& 255 = nI (gD l i))
theorem SC.fr {σ τ : Sg} {n : Nat} {t : Nat → Nat} {u : Nat} {l : List Nat} (h : SC σ n t u l) (hf : ∀ j k, (j = 1 ∨ j = 2 ∨ j = 8 ∨ j = 15) → τ.1 j k = σ.1 j k) : SC τ n t u l := by
  obtain ⟨h1, h2, h3, h4, h5⟩ := h
  refine ⟨h1.fr (hf 1 1 (by simp)) (fun k => hf 8 k (by simp)), by rw [hf 2 8 (by simp)]; exact h2, h3, by rw [hf 2 10 (by simp)]; exact h4, fun i hi hu => by rw [hf 15 _ (by simp)]; exact h5 i hi hu⟩
theorem SC.m {σ : Sg} {n : Nat} {t : Nat → Nat} {u : Nat} {l : List Nat} {j k : Nat} {v : Int32} (h : SC σ n t u l) (hj : j ≠ 1 ∧ j ≠ 2 ∧ j ≠ 8 ∧ j ≠ 15) : SC (sM σ j k v) n t u l := h.fr (fun i m hi => sM_o (Or.inl (by omega)))
def drP (u j k : Nat) : Prop := (j = 2 ∧ k = 10) ∨ (j = 15 ∧ u ≤ k)
theorem gD_app {l : List Nat} {b i : Nat} : gD (l ++ [b]) i = if i < l.length then gD l i else if i = l.length then b else 0 := by
  unfold gD
  by_cases h : i < l.length
  · rw [if_pos h]
    simp [h, List.getElem?_append_left h]
  · rw [if_neg h]
    by_cases h2 : i = l.length
    · subst h2; simp
    · rw [if_neg h2]
      simp [List.getElem?_append_right (Nat.le_of_not_lt h)]
      rw [List.getElem?_eq_none (by simp; omega)]
      rfl
theorem nar_b (b : Nat) : (vp_nar .byte (nI b).toInt8.toInt32) = (nI b).toInt8.toInt32 := pk_vb _
theorem byte_255 : ∀ b, b < 256 → (nI b).toInt8.toInt32 &&& 255 = nI b := by decide +kernel
section DR
variable {σ : Sg} {Q : Po} {X : Xo} {n u : Nat} {t : Nat → Nat} {l : List Nat}
theorem sp_X4_draft {b : Nat} (hS : SC σ n t u l) (hl : l.length < 1000000) (hb : b < 256) (h : ∀ τ, SC τ n t u (l ++ [b]) → Fr (drP u) σ τ → Q none τ) : P_X4_draft [.ref 2, .int (nI b)] σ Q X := by
  obtain ⟨h1, h2, h3, h4, h5⟩ := hS
  have hat : σ.1 2 8 + σ.1 2 10 = nI (u + l.length) := by rw [h2, h4, nI_add]
  have hd : σ.1 2 10 + 1 = nI (l.length + 1) := by rw [h4]; exact (nI_succ _).symm
  refine ⟨rfl, fun I hI => run_in (stop := fun _ => false) hI 60 ?_⟩
  refine ⟨by decide, ?_⟩
  refine pk_le 32768 (u + l.length) (fun g => ?_) (fun g => ?_) rfl hat
  · refine h _ ⟨h1.fr (sM_o (by simp)) (fun k => sM_o (by simp)), (sM_o (by simp)).trans h2, h3, ?_, fun i hi hu => ?_⟩ (Fr.rf.s (Or.inl ⟨rfl, rfl⟩))
    · rw [sM_s, hd]
      simp
    · rw [sM_o (by simp), gD_app]
      have hi' : i < l.length := by simp at hi; omega
      rw [if_pos hi']
      exact h5 i hi' hu
  · refine ⟨rfl, pk_in (u + l.length) 32768 (by omega) hat, ?_⟩
    refine h _ ⟨(h1.fr (τ := sM σ 15 _ _) (sM_o (by simp)) (fun k => sM_o (by simp))).fr (sM_o (by simp)) (fun k => sM_o (by simp)), ((sM_o (by simp)).trans (sM_o (by simp))).trans h2, h3, ?_, fun i hi hu => ?_⟩ ((Fr.rf.s (Or.inr ⟨rfl, ?_⟩)).s (Or.inl ⟨rfl, rfl⟩))
    · rw [sM_s]
      show (sM σ 15 _ _).1 2 10 + 1 = _
      rw [sM_o (by simp), hd]
      simp
    · rw [sM_o (by simp), gD_app, pk_cl (u + l.length) hat]
      by_cases hi' : i < l.length
      · rw [if_pos hi', sM_o (by right; omega)]
        exact h5 i hi' hu
      · have : i = l.length := by simp at hi; omega
        subst this
        rw [if_neg hi', if_pos rfl, sM_s, nar_b, byte_255 b hb]
    · rw [pk_cl (u + l.length) hat]
      omega
end DR
