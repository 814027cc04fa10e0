/-! ===== PURE: the store ===== -/
/-- nodes; fields (0 kind, 1 value, 2 extra, 3 end, 4 start, 5 depth) of a node; bytes used; bytes -/
abbrev St : Type := Nat × (Nat → Nat → Int32) × Nat × (Nat → Nat)
def adS (S : St) (what : Nat) (v x : Int32) (l : List Nat) (dp : Nat) : St :=
  (S.1 + 1, fun i k => if k = S.1 then (if i = 0 then nI what else if i = 1 then v else if i = 2 then x else if i = 3 then nI (S.1 + 1) else if i = 4 then nI S.2.2.1 else nI dp) else S.2.1 i k, S.2.2.1 + l.length, fun i => if i < S.2.2.1 then S.2.2.2 i else gD l (i - S.2.2.1))
def inc (S : St) (c : Nat) : St := (S.1, fun i k => if i = 1 ∧ k = c then S.2.1 1 c + 1 else S.2.1 i k, S.2.2.1, S.2.2.2)
def cls (S : St) (c : Nat) : St := (S.1, fun i k => if i = 3 ∧ k = c then nI S.1 else S.2.1 i k, S.2.2.1, S.2.2.2)
/-- the store lies in the class's cells; in the model's -/
def CS (σ : Sg) (S : St) : Prop := σ.1 2 7 = nI S.1 ∧ σ.1 2 8 = nI S.2.2.1 ∧ (∀ i k, i < 5 → k < S.1 → σ.1 (9 + i) k = S.2.1 i k) ∧ (∀ i, i < S.2.2.1 → σ.1 15 i &&& 255 = nI (S.2.2.2 i))
def mc (i : Nat) : Nat := if i = 0 then 21 else if i = 1 then 22 else if i = 2 then 23 else if i = 3 then 25 else 24
def MS (σ : Sg) (S : St) : Prop := σ.1 7 3 = nI S.1 ∧ σ.1 7 9 = nI S.2.2.1 ∧ (∀ i k, i < 5 → k < S.1 → σ.1 (mc i) k = S.2.1 i k) ∧ (∀ i, i < S.2.2.1 → σ.1 26 i = nI (S.2.2.2 i))
def SZ (S : St) : Prop := S.1 ≤ 4000 ∧ S.2.2.1 ≤ 32768
theorem CS.fr {σ τ : Sg} {S : St} (h : CS σ S) (h1 : τ.1 2 7 = σ.1 2 7) (h2 : τ.1 2 8 = σ.1 2 8) (h3 : ∀ j k, 9 ≤ j → j ≤ 13 → τ.1 j k = σ.1 j k) (h4 : ∀ k, k < S.2.2.1 → τ.1 15 k = σ.1 15 k) : CS τ S :=
  ⟨h1.trans h.1, h2.trans h.2.1, fun i k hi hk => (h3 _ k (by omega) (by omega)).trans (h.2.2.1 i k hi hk), fun i hi => by rw [h4 i hi]; exact h.2.2.2 i hi⟩
theorem MS.fr {σ τ : Sg} {S : St} (h : MS σ S) (h1 : τ.1 7 3 = σ.1 7 3) (h2 : τ.1 7 9 = σ.1 7 9) (h3 : ∀ j k, 21 ≤ j → j ≤ 26 → τ.1 j k = σ.1 j k) : MS τ S :=
  ⟨h1.trans h.1, h2.trans h.2.1, fun i k hi hk => (h3 _ k (by unfold mc; split <;> (try split) <;> (try split) <;> (try split) <;> omega) (by unfold mc; split <;> (try split) <;> (try split) <;> (try split) <;> omega)).trans (h.2.2.1 i k hi hk), fun i hi => by rw [h3 26 i (by omega) (by omega)]; exact h.2.2.2 i hi⟩
theorem CS.m {σ : Sg} {S : St} {j k : Nat} {v : Int32} (h : CS σ S) (hj : (j ≠ 2 ∨ (k ≠ 7 ∧ k ≠ 8)) ∧ (j < 9 ∨ 13 < j) ∧ j ≠ 15) : CS (sM σ j k v) S := h.fr (sM_o (by omega)) (sM_o (by omega)) (fun i m h1 h2 => sM_o (by omega)) (fun m hm => sM_o (by omega))
theorem MS.m {σ : Sg} {S : St} {j k : Nat} {v : Int32} (h : MS σ S) (hj : (j ≠ 7 ∨ (k ≠ 3 ∧ k ≠ 9)) ∧ (j < 21 ∨ 26 < j)) : MS (sM σ j k v) S := h.fr (sM_o (by omega)) (sM_o (by omega)) (fun i m h1 h2 => sM_o (by omega))
theorem CS.tk {σ τ : Sg} {S : St} (h : CS σ S) (hf : Fr (tkP S.2.2.1) σ τ) : CS τ S := h.fr (hf.2 2 7 (by simp [tkP, drP])) (hf.2 2 8 (by simp [tkP, drP])) (fun j k h1 h2 => hf.2 j k (by simp [tkP, drP]; omega)) (fun k hk => hf.2 15 k (by simp [tkP, drP]; omega))
theorem MS.lk {σ τ : Sg} {S : St} (h : MS σ S) (hf : Fr lkP σ τ) : MS τ S := h.fr (hf.2 7 3 (by simp [lkP])) (hf.2 7 9 (by simp [lkP])) (fun j k h1 h2 => hf.2 j k (by simp [lkP]; omega))
section STO
variable {σ : Sg} {Q : Po} {X : Xo} {S : St}
theorem ldc {i k : Nat} (hC : CS σ S) (hS : SZ S) (hi : i < 5) (hk : k < S.1) : vp_in (nI k) (ak (9 + i)).2 ∧ el σ (9 + i) (nI k) = S.2.1 i k := by
  have := hS.1
  have h4 : (ak (9 + i)).2 = 4000 := by
    rcases i with _ | _ | _ | _ | _ | i <;> first | rfl | omega
  refine ⟨by rw [h4]; exact nI_in (show k < 4000 by omega) (by decide), ?_⟩
  rw [el_nI (by omega) (by omega)]
  exact hC.2.2.1 i k hi hk
theorem ldm {i k : Nat} (hC : MS σ S) (hS : SZ S) (hi : i < 5) (hk : k < S.1) : vp_in (nI k) (ak (mc i)).2 ∧ el σ (mc i) (nI k) = S.2.1 i k := by
  have := hS.1
  have h4 : (ak (mc i)).2 = 4000 ∧ mc i < 40 := by
    rcases i with _ | _ | _ | _ | _ | i <;> first | exact ⟨rfl, by decide⟩ | omega
  refine ⟨by rw [h4.1]; exact nI_in (show k < 4000 by omega) (by decide), ?_⟩
  rw [el_nI h4.2 (by omega)]
  exact hC.2.2.1 i k hi hk
theorem sp_X4_kindOf {j : Nat} (hC : CS σ S) (hS : SZ S) (hj : j < S.1) (h : ∀ r, r = S.2.1 0 j → Q (some (.int r)) σ) : P_X4_kindOf [.ref 2, .int (nI j)] σ Q X := by
  have := hS.1
  obtain ⟨l1, l2⟩ := ldc (i := 0) hC hS (by omega) hj
  refine ⟨rfl, fun I hI => run_in (stop := fun _ => false) hI 30 ?_⟩
  refine And.intro (fun g => absurd g (nI_pos (by omega))) (fun _ => ?_)
  refine pk_le S.1 j (fun g => by omega) (fun g => ?_) hC.1 rfl
  exact ⟨Or.inl rfl, l1, h _ l2⟩
theorem sp_X4_kindOf_no {x : Int32} (hx : x < 0) (h : Q (some (.int (-1))) σ) : P_X4_kindOf [.ref 2, .int x] σ Q X := by
  refine ⟨rfl, fun I hI => run_in (stop := fun _ => false) hI 30 ?_⟩
  exact And.intro (fun _ => h) (fun g => absurd hx g)
theorem sp_X4_valueOf {j : Nat} (hC : CS σ S) (hS : SZ S) (hj : j < S.1) (h : ∀ r, r = S.2.1 1 j → Q (some (.int r)) σ) : P_X4_valueOf [.ref 2, .int (nI j)] σ Q X := by
  have := hS.1
  obtain ⟨l1, l2⟩ := ldc (i := 1) hC hS (by omega) hj
  refine ⟨rfl, fun I hI => run_in (stop := fun _ => false) hI 30 ?_⟩
  refine And.intro (fun g => absurd g (nI_pos (by omega))) (fun _ => ?_)
  refine pk_le S.1 j (fun g => by omega) (fun g => ?_) hC.1 rfl
  exact ⟨rfl, l1, h _ l2⟩
theorem sp_X4_extraOf {j : Nat} (hC : CS σ S) (hS : SZ S) (hj : j < S.1) (h : ∀ r, r = S.2.1 2 j → Q (some (.int r)) σ) : P_X4_extraOf [.ref 2, .int (nI j)] σ Q X := by
  have := hS.1
  obtain ⟨l1, l2⟩ := ldc (i := 2) hC hS (by omega) hj
  refine ⟨rfl, fun I hI => run_in (stop := fun _ => false) hI 30 ?_⟩
  refine And.intro (fun g => absurd g (nI_pos (by omega))) (fun _ => ?_)
  refine pk_le S.1 j (fun g => by omega) (fun g => ?_) hC.1 rfl
  exact ⟨rfl, l1, h _ l2⟩
theorem sp_X4_endOf {j : Nat} (hC : CS σ S) (hS : SZ S) (hj : j < S.1) (h : ∀ r, r = S.2.1 3 j → Q (some (.int r)) σ) : P_X4_endOf [.ref 2, .int (nI j)] σ Q X := by
  have := hS.1
  obtain ⟨l1, l2⟩ := ldc (i := 3) hC hS (by omega) hj
  refine ⟨rfl, fun I hI => run_in (stop := fun _ => false) hI 30 ?_⟩
  refine And.intro (fun g => absurd g (nI_pos (by omega))) (fun _ => ?_)
  refine pk_le S.1 j (fun g => by omega) (fun g => ?_) hC.1 rfl
  exact ⟨rfl, l1, h _ l2⟩
theorem sp_X4_has {x : Int32} {b : Bool} (hb : b = true ↔ (0 ≤ x ∧ x < σ.1 2 7)) (h : ∀ r, r = bI b → Q (some (.int r)) σ) : P_X4_has [.ref 2, .int x] σ Q X := by
  refine ⟨rfl, fun I hI => run_in (stop := fun _ => false) hI 30 ?_⟩
  refine And.intro (fun g => ⟨bo0, h _ ?_⟩) (fun g => And.intro (fun g2 => ⟨bo0, h _ ?_⟩) (fun g2 => ⟨bo1, h _ ?_⟩))
  · have : b = false := by
      cases b with
      | false => rfl
      | true => exact absurd (hb.mp rfl).1 (Int32.not_le.mpr g)
    rw [this]; rfl
  · have : b = false := by
      cases b with
      | false => rfl
      | true => exact absurd (hb.mp rfl).2 (Int32.not_lt.mpr g2)
    rw [this]; rfl
  · have : b = true := hb.mpr ⟨Int32.not_lt.mp g, Int32.not_le.mp g2⟩
    rw [this]; rfl
theorem sp_X4_addPart {j : Nat} (hC : CS σ S) (hS : SZ S) (hj : j < S.1) (h : ∀ τ, CS τ (inc S j) → τ = sM σ 10 j (S.2.1 1 j + 1) → Q none τ) : P_X4_addPart [.ref 2, .int (nI j)] σ Q X := by
  have := hS.1
  obtain ⟨l1, l2⟩ := ldc (i := 1) hC hS (by omega) hj
  refine ⟨rfl, fun I hI => run_in (stop := fun _ => false) hI 30 ?_⟩
  refine And.intro (fun g => absurd g (nI_pos (by omega))) (fun _ => ?_)
  refine pk_le S.1 j (fun g => by omega) (fun g => ?_) hC.1 rfl
  refine ⟨rfl, l1, rfl, l1, ?_⟩
  show Q none (sM σ 10 (nI j).toNatClampNeg (el σ 10 (nI j) + 1))
  rw [nI_clamp (by omega), show el σ 10 (nI j) = S.2.1 1 j from l2]
  refine h _ ⟨(sM_o (by omega)).trans hC.1, (sM_o (by omega)).trans hC.2.1, fun i k hi hk => ?_, fun i hi => by rw [sM_o (by omega)]; exact hC.2.2.2 i hi⟩ rfl
  show _ = if i = 1 ∧ k = j then S.2.1 1 j + 1 else S.2.1 i k
  by_cases e : i = 1 ∧ k = j
  · rw [if_pos e, e.1, e.2, sM_s]
  · rw [if_neg e, sM_o (by omega)]
    exact hC.2.2.1 i k hi hk
theorem sp_X4_addPart_no {x : Int32} (hx : x < 0) (h : Q none σ) : P_X4_addPart [.ref 2, .int x] σ Q X := by
  refine ⟨rfl, fun I hI => run_in (stop := fun _ => false) hI 30 ?_⟩
  exact And.intro (fun _ => h) (fun g => absurd hx g)
theorem sp_X4_close {j : Nat} (hC : CS σ S) (hS : SZ S) (hj : j < S.1) (h : ∀ τ, CS τ (cls S j) → τ = sM σ 12 j (nI S.1) → Q none τ) : P_X4_close [.ref 2, .int (nI j)] σ Q X := by
  have := hS.1
  obtain ⟨l1, l2⟩ := ldc (i := 3) hC hS (by omega) hj
  refine ⟨rfl, fun I hI => run_in (stop := fun _ => false) hI 30 ?_⟩
  refine And.intro (fun g => absurd g (nI_pos (by omega))) (fun _ => ?_)
  refine pk_le S.1 j (fun g => by omega) (fun g => ?_) hC.1 rfl
  refine ⟨rfl, l1, ?_⟩
  show Q none (sM σ 12 (nI j).toNatClampNeg (σ.1 2 7))
  rw [nI_clamp (by omega), hC.1]
  refine h _ ⟨(sM_o (by omega)).trans hC.1, (sM_o (by omega)).trans hC.2.1, fun i k hi hk => ?_, fun i hi => by rw [sM_o (by omega)]; exact hC.2.2.2 i hi⟩ rfl
  show _ = if i = 3 ∧ k = j then nI S.1 else S.2.1 i k
  by_cases e : i = 3 ∧ k = j
  · rw [if_pos e, e.1, e.2, sM_s]
  · rw [if_neg e, sM_o (by omega)]
    exact hC.2.2.1 i k hi hk
theorem nar_k : ∀ b, b < 10 → vp_nar .byte (nI b).toInt8.toInt32 = nI b := by
  intro b hb
  rw [nar_b]
  revert b
  decide +kernel
def adP (j k : Nat) : Prop := (j = 2 ∧ (k = 7 ∨ k = 8 ∨ k = 10)) ∨ (9 ≤ j ∧ j ≤ 13)
theorem sp_X4_add {n : Nat} {t : Nat → Nat} {what : Nat} {v x : Int32} {l : List Nat} (dp : Nat) (hC : CS σ S) (hS : SZ S) (hD : SC σ n t S.2.2.1 l) (hl : l.length < 1000000) (hw : what < 10)
    (h0 : (4000 ≤ S.1 ∨ 32768 < S.2.2.1 + l.length) → Q (some (.int (-1))) σ)
    (h1 : S.1 < 4000 → S.2.2.1 + l.length ≤ 32768 → ∀ τ, CS τ (adS S what v x l dp) → Fr adP σ τ → SC τ n t (S.2.2.1 + l.length) [] → Q (some (.int (nI S.1))) τ) : P_X4_add [.ref 2, .int (nI what), .int v, .int x] σ Q X := by
  obtain ⟨z1, z2⟩ := hS
  have hsum : σ.1 2 8 + σ.1 2 10 = nI (S.2.2.1 + l.length) := by rw [hC.2.1, hD.2.2.2.1, nI_add]
  refine ⟨rfl, fun I hI => run_in (stop := fun _ => false) hI 120 ?_⟩
  refine pk_le 4000 S.1 (fun g => h0 (Or.inl g)) (fun g => ?_) rfl hC.1
  refine pk_le (S.2.2.1 + l.length) 32768 (fun g2 => ?_) (fun g2 => h0 (Or.inr g2)) hsum rfl
  have hin : vp_in (σ.1 2 7) 4000 := pk_in S.1 4000 g hC.1
  have hcl : (σ.1 2 7).toNatClampNeg = S.1 := pk_cl S.1 hC.1
  refine ⟨rfl, hin, rfl, hin, rfl, hin, rfl, hin, rfl, hin, ?_⟩
  have hE := h1 g g2 (sM (sM (sM (sM (sM (sM (sM (sM σ 9 S.1 (nI what)) 10 S.1 v) 11 S.1 x) 12 S.1 (nI (S.1 + 1))) 13 S.1 (nI S.2.2.1)) 2 7 (nI (S.1 + 1))) 2 8 (nI (S.2.2.1 + l.length))) 2 10 0)
  have hq : Q (some (.int (nI S.1))) (sM (sM (sM (sM (sM (sM (sM (sM σ 9 S.1 (nI what)) 10 S.1 v) 11 S.1 x) 12 S.1 (nI (S.1 + 1))) 13 S.1 (nI S.2.2.1)) 2 7 (nI (S.1 + 1))) 2 8 (nI (S.2.2.1 + l.length))) 2 10 0) := by
    refine hE ⟨?_, ?_, fun i k hi hk => ?_, fun i hi => ?_⟩ ?_ ⟨hD.1.fr ?_ (fun k => ?_), ?_, ?_, ?_, ?_⟩
    · simp only [sM, upd2, upd]; simp; rfl
    · simp only [sM, upd2, upd]; simp; rfl
    · show _ = if k = S.1 then _ else S.2.1 i k
      by_cases e : k = S.1
      · subst e
        rw [if_pos rfl]
        rcases i with _ | _ | _ | _ | _ | i
        · simp [sM, upd2, upd]
        · simp [sM, upd2, upd]
        · simp [sM, upd2, upd]
        · simp [sM, upd2, upd]
        · simp [sM, upd2, upd]
        · omega
      · rw [if_neg e, ← hC.2.2.1 i k hi (by have : k < S.1 + 1 := hk; omega)]
        rw [sM_o (by omega), sM_o (by omega), sM_o (by omega), sM_o (by omega), sM_o (by omega), sM_o (by omega), sM_o (by omega), sM_o (by omega)]
    · show _ = nI (if i < S.2.2.1 then S.2.2.2 i else gD l (i - S.2.2.1))
      rw [sM_o (by omega), sM_o (by omega), sM_o (by omega), sM_o (by omega), sM_o (by omega), sM_o (by omega), sM_o (by omega), sM_o (by omega)]
      by_cases e : i < S.2.2.1
      · rw [if_pos e]
        exact hC.2.2.2 i e
      · rw [if_neg e]
        have hi' : i < S.2.2.1 + l.length := hi
        have := hD.2.2.2.2 (i - S.2.2.1) (by omega) (by omega)
        rw [show S.2.2.1 + (i - S.2.2.1) = i by omega] at this
        exact this
    · exact ((((((((Fr.rf.s (Or.inr (by omega))).s (Or.inr (by omega))).s (Or.inr (by omega))).s (Or.inr (by omega))).s (Or.inr (by omega))).s (Or.inl (by omega))).s (Or.inl (by omega))).s (Or.inl (by omega)))
    · rw [sM_o (by omega), sM_o (by omega), sM_o (by omega), sM_o (by omega), sM_o (by omega), sM_o (by omega), sM_o (by omega), sM_o (by omega)]
    · rw [sM_o (by omega), sM_o (by omega), sM_o (by omega), sM_o (by omega), sM_o (by omega), sM_o (by omega), sM_o (by omega), sM_o (by omega)]
    · rw [sM_o (by omega), sM_s]
    · exact g2
    · rw [sM_s]; rfl
    · intro i hi
      exact absurd hi (by simp)
  rw [← nar_k what hw] at hq
  rw [show nI (S.1 + 1) = σ.1 2 7 + 1 by rw [hC.1, nI_succ], ← hsum, ← hC.2.1, ← hC.1] at hq
  rw [← hcl] at hq
  exact hq
end STO
