/-! ===== PURE: the model writes, whole ===== -/
theorem pel_up {S : St} {b root : Nat} : ∀ m l, (pel S b root m l).length ≤ l.length + 3 * m := by
  intro m
  induction m with
  | zero => intro l; exact Nat.le_refl _
  | succ m ih =>
    intro l
    simp only [pel]
    refine Nat.le_trans (ih _) ?_
    split
    · rw [List.length_append]
      have : (clg S (root + m)).length ≤ 3 := by unfold clg; split <;> simp
      omega
    · omega
theorem wrl_b {S : St} {root : Nat} (hW : WF S) (hS : SZ S) : ∀ m, root + m ≤ S.1 → (wrl S root m []).length ≤ m * 113000 := by
  intro m
  induction m with
  | zero => intro _; simp [wrl]
  | succ m ih =>
    intro hm
    have hz := hS.1
    have h1 := ih (by omega)
    have h2 := pn_len hW hS (show root + m < S.1 by omega)
    have h3 := pel_up (S := S) (b := root + m + 1) (root := root) (m + 1) ((if m = 0 then wrl S root m [] else wrl S root m [] ++ [32]) ++ pn S (root + m))
    have h4 : (if m = 0 then wrl S root m [] else wrl S root m [] ++ [32]).length ≤ (wrl S root m []).length + 1 := by
      split
      · omega
      · simp
    rw [List.length_append] at h3
    show (pel S (root + m + 1) root (m + 1) ((if m = 0 then wrl S root m [] else wrl S root m [] ++ [32]) ++ pn S (root + m))).length ≤ _
    omega
def wn0 (j k : Nat) : Prop := (j = 7 ∧ (k = 0 ∨ k = 20)) ∨ j = 30
def wn1 (j k : Nat) : Prop := wn0 j k ∨ (j = 7 ∧ k = 18) ∨ j = 29
section WM4
variable {σ : Sg} {Q : Po} {X : Xo} {l : List Nat} {S : St}
theorem wm_n0 {τ : Sg} (h : Fr wmP σ τ) : Fr wn0 σ τ := h.w (fun j k z => by unfold wmP at z; unfold wn0; omega)
theorem lp_copy {σ0 : Sg} {x r : Int32} {L : List Nat} (hl : L.length ≤ 65536) (h : ∀ τ, Fr wn1 σ0 τ → τ.1 7 0 = σ0.1 7 0 → τ.1 7 18 = nI L.length → (∀ i, i < L.length → τ.1 29 i = nI (gD L i)) → Q (some (.int (nI L.length))) τ) {I : Jt} (hI : Cl (FM (cutN 116 t_X8_write) e_X8_write xn0 0 sws0 false Q X) I) :
    ∀ m i (σ : Sg), i + m = L.length → DW σ L → σ.1 7 18 = nI L.length → (∀ j, j < i → σ.1 29 j = nI (gD L j)) → Fr wn1 σ0 σ → σ.1 7 0 = σ0.1 7 0 → I 0 85 [some (.ref 7), some (.int x), some (.int r), some (.int (nI i))] [] σ := by
  intro m
  induction m with
  | zero =>
    intro i σ hi hw e18 h29 hF e0
    refine run_in (stop := fun pc => Nat.beq pc 85) hI 40 ?_
    refine pk_le L.length i (fun g => ?_) (fun g => by omega) hw.1 rfl
    have := h σ hF e0 e18 (fun j hj => h29 j (by omega))
    rw [← e18] at this
    exact this
  | succ m ih =>
    intro i σ hi hw e18 h29 hF e0
    refine run_in (stop := fun pc => Nat.beq pc 85) hI 40 ?_
    refine pk_le L.length i (fun g => by omega) (fun g => ?_) hw.1 rfl
    refine ⟨rfl, nI_in (show i < 65536 by omega) (by decide), rfl, nI_in (show i < 65536 by omega) (by decide), ?_⟩
    rw [el_nI (by decide) (by omega), hw.2 i (by omega) (by omega), nI_clamp (by omega)]
    have := ih (i + 1) (sM σ 29 i (nI (gD L i))) (by omega) ⟨(sM_o (by omega)).trans hw.1, fun j h1 h2 => (sM_o (by omega)).trans (hw.2 j h1 h2)⟩ ((sM_o (by omega)).trans e18) (fun j hj => ?_) (hF.s (by simp [wn1])) ((sM_o (by omega)).trans e0)
    · rw [nI_succ] at this
      exact this
    · by_cases e : j = i
      · rw [e, sM_s]
      · rw [sM_o (by omega)]
        exact h29 j (by omega)
theorem lp_write {σ0 : Sg} {x : Int32} {root : Nat} (hB : ∀ i, i < S.2.2.1 → bt1 S i < 256) (hS : SZ S) (hW : WF S) (hr : root < S.1) (h9 : ¬ KD S root 9) (h0 : 65536 < (WL S root).length → ∀ τ, Fr wn0 σ0 τ → τ.1 7 0 = σ0.1 7 0 → Q (some (.int (-7))) τ) (h1 : (WL S root).length ≤ 65536 → ∀ τ, Fr wn1 σ0 τ → τ.1 7 0 = σ0.1 7 0 → τ.1 7 18 = nI (WL S root).length → (∀ i, i < (WL S root).length → τ.1 29 i = nI (gD (WL S root) i)) → Q (some (.int (nI (WL S root).length))) τ) {I : Jt} (hI : Cl (FM (cutN 116 t_X8_write) e_X8_write xn0 0 sws0 false Q X) I) :
    ∀ j m (σ : Sg), m + j = en S root - root → MS σ S → DW σ (wrl S root m []) → Fr wmP σ0 σ → I 0 23 [some (.ref 7), some (.int x), some (.int (nI root)), some (.int (nI (root + m)))] [] σ := by
  have hz := hS.1
  have he := (hW root hr).1.1
  intro j
  induction j with
  | zero =>
    intro m σ hm hM hw hF
    obtain ⟨a1, a2⟩ := ldm (i := 3) hM hS (by omega) hr
    have a2 : el σ 25 (nI root) = nI (en S root) := by rw [show el σ 25 (nI root) = S.2.1 3 root from a2, he.1]
    have hbd := wrl_b (root := root) hW hS m (by omega)
    have hWL : wrl S root m [] = WL S root := by unfold WL; rw [show en S root - root = m by omega]
    rw [hWL] at hw hbd
    have e0 : σ.1 7 0 = σ0.1 7 0 := hF.2 7 0 (by simp [wmP])
    refine run_in (stop := fun pc => Nat.beq pc 85) hI 40 ?_
    refine ⟨rfl, a1, ?_⟩
    rw [a2]
    refine pk_le (en S root) (root + m) (fun g => ?_) (fun g => by omega) rfl rfl
    refine pk_le (WL S root).length 65536 (fun g => ?_) (fun g => ?_) hw.1 rfl
    · have := lp_copy (x := x) (r := nI root) g (h1 g) hI (WL S root).length 0 (sM σ 7 18 (nI (WL S root).length)) (by omega) ⟨(sM_o (by omega)).trans hw.1, fun i h1 h2 => (sM_o (by omega)).trans (hw.2 i h1 h2)⟩ sM_s (fun j hj => absurd hj (Nat.not_lt_zero j)) (((wm_n0 hF).w (fun _ _ z => Or.inl z)).s (by simp [wn1])) ((sM_o (by omega)).trans e0)
      rw [← hw.1] at this
      exact this
    · exact h0 g σ (wm_n0 hF) e0
  | succ j ih =>
    intro m σ hm hM hw hF
    obtain ⟨a1, a2⟩ := ldm (i := 3) hM hS (by omega) hr
    have a2 : el σ 25 (nI root) = nI (en S root) := by rw [show el σ 25 (nI root) = S.2.1 3 root from a2, he.1]
    have hk : root + m < S.1 := by omega
    have hbd := wrl_b (root := root) hW hS m (by omega)
    have hbd2 := wrl_b (root := root) hW hS (m + 1) (by omega)
    have hk9 : ¬ KD S (root + m) 9 := by
      by_cases e : m = 0
      · subst e; exact h9
      · exact ((hW (root + m) hk).2.2.1 root (by omega) (by omega)).2.2
    have m44 : ∀ τ, DW τ (if m = 0 then wrl S root m [] else wrl S root m [] ++ [32]) → Fr wmP σ τ → I 0 44 [some (.ref 7), some (.int x), some (.int (nI root)), some (.int (nI (root + m)))] [] τ := by
      intro τ q1 q2
      refine run_in (stop := fun pc => Nat.beq pc 23) hI 40 ?_
      have hlen : (if m = 0 then wrl S root m [] else wrl S root m [] ++ [32]).length < 1900000000 := by
        split
        · omega
        · simp only [List.length_append, List.length_singleton]; omega
      have hM1 := hM.wm q2
      refine ⟨Nat.le_refl _, sp_X8_putNode hB hM1 hS hW hk hk9 q1 hlen (fun υ r1 r2 => ?_)⟩
      refine ⟨Nat.le_refl _, ?_⟩
      show P_X8_putEnds [.ref 7, .int (nI root), .int (nI (root + m) + 1)] υ _ _
      rw [← nI_succ]
      have hb3 : (pel S (root + m + 1) root (m + 1) ((if m = 0 then wrl S root m [] else wrl S root m [] ++ [32]) ++ pn S (root + m))).length ≤ (m + 1) * 113000 := hbd2
      refine sp_X8_putEnds (m := m + 1) hS hW (by omega) (by omega) (hM1.wm r2) r1 (by omega) (fun ω s1 s2 => ?_)
      have := ih (m + 1) ω (by omega) ((hM1.wm r2).wm s2) s1 (((hF.tr q2).tr r2).tr s2)
      rw [← Nat.add_assoc, nI_succ] at this
      exact this
    refine run_in (stop := fun pc => Nat.beq pc 44) hI 40 ?_
    refine ⟨rfl, a1, ?_⟩
    rw [a2]
    refine pk_le (en S root) (root + m) (fun g => by omega) (fun g => ?_) rfl rfl
    refine pk_le (root + m) root (fun g2 => ?_) (fun g2 => ?_) rfl rfl
    · exact m44 σ (by rw [if_pos (by omega)]; exact hw) Fr.rf
    · exact ⟨Nat.le_refl _, sp_X8_put1 (b := 32) hw (by omega) (fun τ q1 q2 => m44 τ (by rw [if_neg (by omega)]; exact q1) q2)⟩
theorem sp_X8_write {x : Int32} (hB : ∀ i, i < S.2.2.1 → bt1 S i < 256) (hM : MS σ S) (hS : SZ S) (hW : WF S) (hx0 : (x < 0 ∨ nI S.1 ≤ x) → Q (some (.int 0)) (sM σ 7 0 1)) (h0 : ∀ i, i < S.1 → x = nI i → 65536 < (WL S (unw S i)).length → ∀ τ, Fr wn0 σ τ → τ.1 7 0 = 0 → Q (some (.int (-7))) τ) (h1 : ∀ i, i < S.1 → x = nI i → (WL S (unw S i)).length ≤ 65536 → ∀ τ, Fr wn1 σ τ → τ.1 7 0 = 0 → τ.1 7 18 = nI (WL S (unw S i)).length → (∀ j, j < (WL S (unw S i)).length → τ.1 29 j = nI (gD (WL S (unw S i)) j)) → Q (some (.int (nI (WL S (unw S i)).length))) τ) : P_X8_write [.ref 7, .int x] σ Q X := by
  have hz := hS.1
  refine ⟨rfl, fun I hI => run_in (stop := fun pc => Nat.beq pc 23) hI 60 ?_⟩
  rcases pk_ix x (n := S.1) (by omega) with g | g | ⟨j, hj, hx⟩
  · refine ⟨Nat.le_refl _, sp_X8_isWrong_no hM (Or.inl g) ?_⟩
    exact And.intro (fun z => absurd z (by decide)) (fun _ => hx0 (Or.inl g))
  · refine ⟨Nat.le_refl _, sp_X8_isWrong_no hM (Or.inr g) ?_⟩
    exact And.intro (fun z => absurd z (by decide)) (fun _ => hx0 (Or.inr g))
  subst hx
  have hM0 : MS (sM σ 7 0 0) S := hM.f0
  obtain ⟨u1, u2, u3, u4⟩ := unw_b hW hS hj
  have he := (hW (unw S j) u1).1.1
  refine ⟨Nat.le_refl _, sp_X8_isWrong_ok hM hS hj ?_⟩
  refine And.intro (fun _ => ?_) (fun z => absurd rfl z)
  refine ⟨Nat.le_refl _, sp_X8_dictionaryOf hM0 hS hW hj ?_⟩
  have hf0 : Fr wn0 σ (sM (sM σ 7 0 0) 7 20 0) := (Fr.rf.s (by simp [wn0])).s (by simp [wn0])
  have e0 : (sM (sM σ 7 0 0) 7 20 0).1 7 0 = 0 := (sM_o (by omega)).trans sM_s
  exact lp_write (σ0 := sM (sM σ 7 0 0) 7 20 0) hB hS hW u1 u4 (fun g τ q1 q2 => h0 j hj rfl g τ (hf0.tr q1) (q2.trans e0)) (fun g τ q1 q2 q3 q4 => h1 j hj rfl g τ ((hf0.w (fun _ _ z => Or.inl z)).tr q1) (q2.trans e0) q3 q4) hI (en S (unw S j) - unw S j) 0 _ (by omega) (hM0.m (by omega)) ⟨sM_s, fun i hi => absurd hi (Nat.not_lt_zero i)⟩ Fr.rf
end WM4
