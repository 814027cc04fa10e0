/-! ===== PURE: names; any token, in the class ===== -/
section TK3
variable {σ0 : Sg} {Q : Po} {X : Xo} {n u : Nat} {t : Nat → Nat}
theorem lp_seekName {a e : Nat} {R : Bool × List Nat} (hT0 : ∀ k, k < n → t k < 256) (hen : e ≤ n) (he : ∀ i, a < i → i < e → rg (t i) = true) (hend : rg (tg n t e) = false) (h : ∀ τ, TP σ0 τ n t u 6 a e (if R.1 = true ∨ 127 < R.2.length then 4 else 0) R.2 → Q none τ) {I : Jt} (hI : Cl (FM (cutN 158 t_X6_seekName) e_X6_seekName xn0 0 sws0 false Q X) I) :
    ∀ m k z l x z3 z4 z5 (σ : Sg), e ≤ k + m → k ≤ e → a < k → l.length ≤ k → nam n t e m k z l = R → SC σ n t u l → Fr (tkP u) σ0 σ → σ.1 4 2 = nI 6 → σ.1 4 3 = nI a → σ.1 4 4 = nI e → σ.1 4 5 = (if z = true then -4 else 0) →
      I 0 32 [some (.ref 4), some (.int x), some (.int (nI k)), z3, z4, z5] [] σ := by
  have ended : ∀ k z l x z3 z4 z5 (σ : Sg), k = e → l.length ≤ k → n ≤ 65536 → R = (z, l) → SC σ n t u l → Fr (tkP u) σ0 σ → σ.1 4 2 = nI 6 → σ.1 4 3 = nI a → σ.1 4 4 = nI e → σ.1 4 5 = (if z = true then -4 else 0) →
      I 0 32 [some (.ref 4), some (.int x), some (.int (nI k)), z3, z4, z5] [] σ := by
    intro k z l x z3 z4 z5 σ hk hl hn hR hS hF e2 e3 e4 e5
    refine run_in (stop := fun pc => Nat.beq pc 32) hI 40 ?_
    refine pk_le e k (fun g => ?_) (fun g => by omega) e4 rfl
    refine pk_le l.length 127 (fun g => ?_) (fun g => ?_) hS.2.2.2.1 rfl
    · refine h _ ⟨hF, e2, e3, ?_, fun _ => ⟨e4, by rw [hR]; exact hS⟩⟩
      rw [e5, hR]
      cases z <;> simp [wrI, Nat.not_lt.mpr g]
    · refine h _ ⟨hF.s (Or.inl rfl), (sM_o (by simp)).trans e2, (sM_o (by simp)).trans e3, ?_, ?_⟩
      · rw [sM_s, hR]
        simp [wrI, g]
      · intro h0
        rw [hR] at h0
        simp [g] at h0
  intro m
  induction m with
  | zero =>
    intro k z l x z3 z4 z5 σ hm hke hak hl hR hS hF e2 e3 e4 e5
    exact ended k z l x z3 z4 z5 σ (by omega) hl hS.1.2.1 (by rw [← hR]; rfl) hS hF e2 e3 e4 e5
  | succ m ih =>
    intro k z l x z3 z4 z5 σ hm hke hak hl hR hS hF e2 e3 e4 e5
    by_cases hk : e ≤ k
    · exact ended k z l x z3 z4 z5 σ (by omega) hl hS.1.2.1 (by rw [← hR]; simp [nam, hk]) hS hF e2 e3 e4 e5
    have hT := hS.1
    have h2 := hT.2.1
    have hb := tg_c (σ := σ) hT0
    have hnb := nmb_b hT0 (fun i h1 h2 => he i (by omega) h2) hend hen (show k < e by omega)
    obtain ⟨b1, b2, b3⟩ := hnb
    have hnm : nam n t e m (k + (nmb n t k).1) (z || decide ((nmb n t k).2 = 0)) (l ++ [(nmb n t k).2]) = R := by
      rw [← hR]
      simp only [nam]
      rw [if_neg hk]
    refine run_in (stop := fun pc => Nat.beq pc 32 || Nat.beq pc 110) hI 80 ?_
    refine pk_le e k (fun g => by omega) (fun g => ?_) e4 rfl
    refine ⟨Nat.le_refl _, sp_X5_get hT (by omega) (fun r hr => ?_)⟩
    subst hr
    refine ⟨Nat.le_refl _, ?_⟩
    show P_X5_get [.ref 1, .int (nI k + 1)] _ _ _
    rw [show nI k + 1 = nI (k + 1) from (nI_succ k).symm]
    refine sp_X5_get hT (by omega) (fun r hr => ?_)
    subst hr
    refine ⟨Nat.le_refl _, sp_X0_hexOf (hb _) (fun r hr => ?_)⟩
    subst hr
    refine ⟨Nat.le_refl _, ?_⟩
    show P_X5_get [.ref 1, .int (nI k + 2)] _ _ _
    rw [show nI k + 2 = nI (k + 2) from nI_add k 2]
    refine sp_X5_get hT (by omega) (fun r hr => ?_)
    subst hr
    refine ⟨Nat.le_refl _, sp_X0_hexOf (hb _) (fun r hr => ?_)⟩
    subst hr
    have go : ∀ (j c : Nat), nmb n t k = (j, c) → I 0 110 [some (.ref 4), some (.int (nI j)), some (.int (nI k)), some (.int (nI c)), some (.int (wI (hv (tg n t (k + 1))))), some (.int (wI (hv (tg n t (k + 2)))))] [] σ := by
      intro j c hjc
      rw [hjc] at b1 b2 b3 hnm
      simp only at b1 b2 b3 hnm
      have nx : ∀ (σ : Sg) (z' : Bool), z' = (z || decide (c = 0)) → SC σ n t u l → Fr (tkP u) σ0 σ → σ.1 4 2 = nI 6 → σ.1 4 3 = nI a → σ.1 4 4 = nI e → σ.1 4 5 = (if z' = true then -4 else 0) →
          I 0 120 [some (.ref 4), some (.int (nI j)), some (.int (nI k)), some (.int (nI c)), some (.int (wI (hv (tg n t (k + 1))))), some (.int (wI (hv (tg n t (k + 2)))))] [] σ := by
        intro σ z' hz hS hF e2 e3 e4 e5
        refine run_in (stop := fun pc => Nat.beq pc 32) hI 30 ?_
        refine ⟨Nat.le_refl _, sp_X4_draft hS (by omega) b3 (fun τ hS2 hF2 => ?_)⟩
        have := ih (k + j) z' (l ++ [c]) (nI j) (some (.int (nI c))) (some (.int (wI (hv (tg n t (k + 1)))))) (some (.int (wI (hv (tg n t (k + 2)))))) τ (by omega) (by omega) (by omega) (by simp; omega) (by rw [hz]; exact hnm) hS2 (hF.tr (dr_tk hF2)) ((dr4 hF2).trans e2) ((dr4 hF2).trans e3) ((dr4 hF2).trans e4) ((dr4 hF2).trans e5)
        rw [← mx1 b1 (by omega)] at this
        exact ⟨Nat.le_refl _, this⟩
      refine run_in (stop := fun pc => Nat.beq pc 120) hI 30 ?_
      refine kne c 0 (fun g => ?_) (fun g => ?_) rfl rfl
      · exact nx σ z (by simp [g]) hS hF e2 e3 e4 e5
      · exact nx _ true (by simp [g]) (hS.m (by decide)) (hF.s (Or.inl rfl)) ((sM_o (by simp)).trans e2) ((sM_o (by simp)).trans e3) ((sM_o (by simp)).trans e4) sM_s
    have hg0 : tg n t k < 256 := by rw [tg_lt (by omega)]; exact hT0 k (by omega)
    have one : ¬ (tg n t k = 35 ∧ hv (tg n t (k + 1)) ≠ 99 ∧ hv (tg n t (k + 2)) ≠ 99) → I 0 110 [some (.ref 4), some (.int (nI 1)), some (.int (nI k)), some (.int (vI (tg n t k))), some (.int (wI (hv (tg n t (k + 1))))), some (.int (wI (hv (tg n t (k + 2)))))] [] σ := by
      intro hne
      rw [vI_lt hg0]
      exact go 1 _ (by unfold nmb; rw [if_neg hne])
    have hx1 := hv_ok _ (hb (k + 1))
    have hx2 := hv_ok _ (hb (k + 2))
    refine And.intro (fun g => ?_) (fun g => ?_)
    · exact one (fun z => g ((vI_eq (hb k) (by decide)).mpr z.1))
    · have g35 := (vI_eq (c := 35) (hb k) (by decide)).mp g
      refine And.intro (fun g => ?_) (fun g => ?_)
      · refine one (fun z => ?_)
        rcases hx1 with q | q
        · exact z.2.1 q.1
        · exact q.2.2.2 g
      · have q1 : hv (tg n t (k + 1)) ≤ 15 ∧ ¬ hv (tg n t (k + 1)) = 99 ∧ wI (hv (tg n t (k + 1))) = nI (hv (tg n t (k + 1))) := by
          rcases hx1 with q | q
          · exact absurd q.2 g
          · exact ⟨q.1, q.2.1, q.2.2.1⟩
        refine And.intro (fun g => ?_) (fun g => ?_)
        · refine one (fun z => ?_)
          rcases hx2 with q | q
          · exact z.2.2 q.1
          · exact q.2.2.2 g
        · have q2 : hv (tg n t (k + 2)) ≤ 15 ∧ ¬ hv (tg n t (k + 2)) = 99 ∧ wI (hv (tg n t (k + 2))) = nI (hv (tg n t (k + 2))) := by
            rcases hx2 with q | q
            · exact absurd q.2 g
            · exact ⟨q.1, q.2.1, q.2.2.1⟩
          have := go 3 (16 * hv (tg n t (k + 1)) + hv (tg n t (k + 2))) (by unfold nmb; rw [if_pos ⟨g35, q1.2.1, q2.2.1⟩])
          have hE : wI (hv (tg n t (k + 1))) * 16 + wI (hv (tg n t (k + 2))) = nI (16 * hv (tg n t (k + 1)) + hv (tg n t (k + 2))) := by
            rw [q1.2.2, q2.2.2, show (16 : Int32) = nI 16 from rfl, nI_mul, nI_add, Nat.mul_comm]
          rw [← hE] at this
          exact this
theorem sp_X6_seekName {σ : Sg} {a : Nat} {R : Bool × List Nat} (hS : SC σ n t u []) (hF : Fr (tkP u) σ0 σ) (ha : a < n) (e3 : σ.1 4 3 = nI a) (e5 : σ.1 4 5 = 0) (hR : nam n t (WD n t (a + 1)) n (a + 1) false [] = R) (h : ∀ τ, TP σ0 τ n t u 6 a (WD n t (a + 1)) (if R.1 = true ∨ 127 < R.2.length then 4 else 0) R.2 → Q none τ) : P_X6_seekName [.ref 4] σ Q X := by
  have hT := hS.1
  have h2 := hT.2.1
  have hW := WD_b (n := n) (t := t) (k := a + 1) (by omega)
  have hS1 : SC (sM σ 4 2 6) n t u [] := hS.m (by decide)
  refine ⟨rfl, fun I hI => run_in (stop := fun pc => Nat.beq pc 32) hI 40 ?_⟩
  refine ⟨Nat.le_refl _, ?_⟩
  show P_X5_pastWord [.ref 1, .int (σ.1 4 3 + 1)] (sM σ 4 2 6) _ _
  rw [e3, show nI a + 1 = nI (a + 1) from (nI_succ a).symm]
  refine sp_X5_pastWord hS1.1 (by omega) (fun r hr => ?_)
  subst hr
  have := lp_seekName hT.2.2.2 hW.2 (fun i h1 h2 => WD_all (by omega) h2) (WD_end (by omega)) h hI n (a + 1) false [] 1 none none none (sM (sM σ 4 2 6) 4 4 (nI (WD n t (a + 1)))) (by omega) hW.1 (by omega) (by simp) hR (hS1.m (by decide)) ((hF.s (Or.inl rfl)).s (Or.inl rfl)) ((sM_o (by simp)).trans sM_s) (((sM_o (by simp)).trans (sM_o (by simp))).trans e3) sM_s (((sM_o (by simp)).trans (sM_o (by simp))).trans e5)
  rw [nI_succ, ← e3] at this
  exact this
/-- any token at k: (sort, from, to, wrong, text) -/
def LKs (n : Nat) (t : Nat → Nat) (a : Nat) : Nat × Nat × Nat × List Nat :=
  if tg n t a = 256 then (0, a, 1, []) else if tg n t a = 91 then (1, a + 1, 0, []) else if tg n t a = 93 then (2, a + 1, 0, []) else
  if tg n t a = 60 then (if tg n t (a + 1) = 60 then (3, a + 2, 0, []) else (5, (hxs t (n - (a + 1)) (a + 1) 99 false []).1 + 1, (if (hxs t (n - (a + 1)) (a + 1) 99 false []).2.1 = true then 1 else if (hxs t (n - (a + 1)) (a + 1) 99 false []).2.2.1 = true then 3 else 0), (hxs t (n - (a + 1)) (a + 1) 99 false []).2.2.2)) else
  if tg n t a = 62 then (if tg n t (a + 1) = 62 then (4, a + 2, 0, []) else (8, a + 1, 0, [])) else
  if tg n t a = 40 then (5, (str n t n (a + 1) 1 []).1, (if (str n t n (a + 1) 1 []).2.1 = true then 1 else 0), (str n t n (a + 1) 1 []).2.2) else
  if tg n t a = 47 then (6, WD n t (a + 1), (if (nam n t (WD n t (a + 1)) n (a + 1) false []).1 = true ∨ 127 < (nam n t (WD n t (a + 1)) n (a + 1) false []).2.length then 4 else 0), (nam n t (WD n t (a + 1)) n (a + 1) false []).2) else
  if rg (tg n t a) = true then (7, WD n t a, 0, []) else (8, a + 1, 0, [])
theorem sp_X6_become {σ : Sg} {s j a : Nat} (hF : Fr (tkP u) σ0 σ) (hS : SC σ n t u []) (e3 : σ.1 4 3 = nI a) (e5 : σ.1 4 5 = 0) (h : ∀ τ, TP σ0 τ n t u s a (a + j) 0 [] → Q none τ) : P_X6_become [.ref 4, .int (nI s), .int (nI j)] σ Q X := by
  refine ⟨rfl, fun I hI => run_in (stop := fun _ => false) hI 20 ?_⟩
  refine h _ ⟨(hF.s (Or.inl rfl)).s (Or.inl rfl), (sM_o (by simp)).trans sM_s, ((sM_o (by simp)).trans (sM_o (by simp))).trans e3, ((sM_o (by simp)).trans (sM_o (by simp))).trans e5, fun _ => ⟨?_, (hS.m (by decide)).m (by decide)⟩⟩
  rw [sM_s]
  show σ.1 4 3 + nI j = _
  rw [e3, nI_add]
end TK3
