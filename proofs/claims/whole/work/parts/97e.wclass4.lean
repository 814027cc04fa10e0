/-! ===== PURE: the class writes, whole ===== -/
/-- from what is open before b to what is open before b + 1 -/
theorem stk_next {S : St} {root b m d d' : Nat} {st st' : Nat → Nat} {l : List Nat} (hW : WF S) (hbS : b < S.1) (hb : b = root + m) (h : STK S root b m d st) (hc : cn S b → d' = (clo S b st d l).1 + 1 ∧ st' = stp st (clo S b st d l).1 b) (hn : ¬ cn S b → d' = (clo S b st d l).1 ∧ st' = st) : STK S root (b + 1) (m + 1) d' st' := by
  obtain ⟨s1, s2⟩ := h
  obtain ⟨k1, k2, k3⟩ := clo_stk (S := S) (b := b) (root := root) (st := st) hW d l (fun i hi => ⟨(s1 i hi).1, by have := (s1 i hi).2.1; omega, by omega, (s1 i hi).2.2.2.1, (s1 i hi).2.2.2.2⟩)
  have heb := (hW b hbS).1.1.2.1
  by_cases c : cn S b
  · obtain ⟨rfl, rfl⟩ := hc c
    generalize (clo S b st d l).1 = e at k1 k2 k3
    have st0 : ∀ i, i < e → stp st e b i = st i := fun i hi => if_neg (by omega)
    have ste : stp st e b e = b := if_pos rfl
    refine ⟨fun i hi => ?_, fun k h1 h2 h3 h4 => ?_⟩
    · by_cases q : i < e
      · rw [st0 i q]
        obtain ⟨a1, a2, a3, a4, a5⟩ := s1 i (by omega)
        exact ⟨a1, by omega, a3, by have := k1 i q; omega, fun j hj => by rw [st0 j (by omega)]; exact a5 j hj⟩
      · have : i = e := by omega
        subst this
        rw [ste]
        exact ⟨by omega, by omega, c, by omega, fun j hj => by rw [st0 j hj]; have := (s1 j (by omega)).2.1; omega⟩
    · by_cases q : k = b
      · exact ⟨e, by omega, by rw [ste, q]⟩
      · obtain ⟨i, hi, hik⟩ := s2 k h1 (by omega) h3 (by omega)
        have : i < e := by
          by_cases y : i < e
          · exact y
          · have := k3 i (by omega) hi
            rw [hik] at this
            omega
        exact ⟨i, by omega, by rw [st0 i this]; exact hik⟩
  · obtain ⟨rfl, rfl⟩ := hn c
    refine ⟨fun i hi => ?_, fun k h1 h2 h3 h4 => ?_⟩
    · obtain ⟨a1, a2, a3, a4, a5⟩ := s1 i (by omega)
      exact ⟨a1, by omega, a3, by have := k1 i hi; omega, a5⟩
    · have q : k ≠ b := fun q => c (by rw [← q]; exact h3)
      obtain ⟨i, hi, hik⟩ := s2 k h1 (by omega) h3 (by omega)
      refine ⟨i, ?_, hik⟩
      by_cases y : i < (clo S b st' d l).1
      · exact y
      · have := k3 i (by omega) hi
        rw [hik] at this
        omega
theorem clo_len {S : St} {b : Nat} {st : Nat → Nat} : ∀ d l, l.length ≤ (clo S b st d l).2.length := by
  intro d
  induction d with
  | zero => intro l; exact Nat.le_refl _
  | succ d ih =>
    intro l
    simp only [clo]
    split
    · exact Nat.le_refl _
    · exact Nat.le_trans (by simp) (ih _)
section WC4
variable {σ : Sg} {Q : Po} {X : Xo} {pg : Nat} {l : List Nat} {S : St} {d : Nat} {st : Nat → Nat}
def cmS (τ : Sg) (pg ob len : Nat) : Sg := sM (sR (sR τ 6 3 pg) 6 5 ob) 6 4 (nI len)
theorem ex_compose {σ0 : Sg} {root : Nat} (hS : SZ S) (hW : WF S) (hd : d ≤ 100) (hst : ∀ i, i < d → st i < S.1) (hne : 0 < d → l ≠ []) (hcn : ∀ i, i < d → cn S (st i)) (hroot : root < S.1) (hL : (clo S (en S root) st d l).2 = WL S root ∨ (65536 < (clo S (en S root) st d l).2.length ∧ 65536 < (WL S root).length)) (h0 : 65536 < (WL S root).length → ∀ τ, Fr (wdP pg) σ0 τ → Q (some (.int (-7))) τ) (h1 : (WL S root).length ≤ 65536 → ∀ τ, CW τ pg (WL S root) → Fr (wdP pg) σ0 τ → Q (some (.int (nI (WL S root).length))) (cmS τ pg (σ0.2.1 6 3) (WL S root).length)) {I : Jt} (hI : Cl (FM (cutN 100 t_X2_compose) e_X2_compose xn0 0 sws0 false Q X) I) (hC : CS σ S) (hw : CW σ pg l) (hs : PS σ d st) (hF : Fr (wdP pg) σ0 σ) {z : Int32} :
    I 0 54 [some (.ref 6), some (.int (nI root)), some (.int (nI (en S root))), some (.int z)] [] σ := by
  have hz := hS.1
  have he := (hW root hroot).1.1
  refine run_in (stop := fun _ => false) hI 60 ?_
  refine ⟨Nat.le_refl _, sp_X2_addEndsBefore hS hW (by omega) hd hst hne hcn hC hw hs (fun τ q1 q2 q3 => ?_)⟩
  have hF2 := hF.tr q3
  show (τ.1 6 7 = 0 → _) ∧ (¬ τ.1 6 7 = 0 → _)
  rw [q1.2.2.2.1]
  refine And.intro (fun g => ?_) (fun g => ?_)
  · have g := of_decide_eq_false (bIf g)
    rcases hL with hL | hL
    · rw [hL] at q1 g
      have hlen : (WL S root).length ≤ 65536 := by omega
      have := h1 hlen τ q1 hF2
      have em : mn6 (WL S root).length = (WL S root).length := if_pos hlen
      have e6 : τ.1 6 6 = nI (WL S root).length := by rw [q1.2.2.1, em]
      unfold cmS at this
      rw [← e6, ← q1.1, ← show τ.2.1 6 3 = σ0.2.1 6 3 by rw [hF2.1]] at this
      exact this
    · omega
  · have g := of_decide_eq_true (bIt g)
    refine h0 ?_ τ hF2
    rcases hL with hL | hL
    · rw [hL] at g; exact g
    · exact hL.2
theorem lp_compose {σ0 : Sg} {root : Nat} (hS : SZ S) (hW : WF S) (hroot : root < S.1) (h9 : ¬ KD S root 9) (h0 : 65536 < (WL S root).length → ∀ τ, Fr (wdP pg) σ0 τ → Q (some (.int (-7))) τ) (h1 : (WL S root).length ≤ 65536 → ∀ τ, CW τ pg (WL S root) → Fr (wdP pg) σ0 τ → Q (some (.int (nI (WL S root).length))) (cmS τ pg (σ0.2.1 6 3) (WL S root).length)) {I : Jt} (hI : Cl (FM (cutN 100 t_X2_compose) e_X2_compose xn0 0 sws0 false Q X) I) :
    ∀ j m d (st : Nat → Nat) l (σ : Sg), m + j = en S root - root → STK S root (root + m) m d st → pel S (root + m) root m l = wrl S root m [] → (0 < m → l ≠ []) → CS σ S → CW σ pg l → PS σ d st → Fr (wdP pg) σ0 σ → I 0 26 [some (.ref 6), some (.int (nI root)), some (.int (nI (en S root))), some (.int (nI (root + m)))] [] σ := by
  have hz := hS.1
  have he := (hW root hroot).1.1
  have stuff : ∀ m d (st : Nat → Nat) l, root + m ≤ en S root → STK S root (root + m) m d st → (0 < m → l ≠ []) → pel S (root + m) root m l = wrl S root m [] → d ≤ 100 ∧ (∀ i, i < d → st i < S.1) ∧ (0 < d → l ≠ []) ∧ (∀ i, i < d → cn S (st i)) ∧ (clo S (root + m) st d l).2 = wrl S root m [] := by
    intro m d st l hm hs h00 hp
    refine ⟨stk_d hW (by omega) (Nat.le_refl _) hs, fun i hi => by have := (hs.1 i hi).2.1; omega, fun hd => ?_, fun i hi => (hs.1 i hi).2.2.1, by rw [clo_pel hW (by omega) m d l (Nat.le_refl _) hs]; exact hp⟩
    have := (hs.1 0 hd).2.1
    have := (hs.1 0 hd).1
    exact h00 (by omega)
  intro j
  induction j with
  | zero =>
    intro m d st l σ hm hs hp h00 hC hw hps hF
    obtain ⟨a1, a2, a3, a4, a5⟩ := stuff m d st l (by omega) hs h00 hp
    have hme : root + m = en S root := by omega
    refine run_in (stop := fun pc => Nat.beq pc 26 || Nat.beq pc 54) hI 40 ?_
    refine pk_le (en S root) (root + m) (fun g => ?_) (fun g => by omega) rfl rfl
    refine ex_compose hS hW a1 a2 a3 a4 hroot (Or.inl ?_) h0 h1 hI hC hw hps hF
    rw [← hme, a5]
    unfold WL
    rw [show m = en S root - root by omega]
  | succ j ih =>
    intro m d st l σ hm hs hp h00 hC hw hps hF
    obtain ⟨a1, a2, a3, a4, a5⟩ := stuff m d st l (by omega) hs h00 hp
    have hb : root + m < S.1 := by omega
    refine run_in (stop := fun pc => Nat.beq pc 26 || Nat.beq pc 54) hI 60 ?_
    refine pk_le (en S root) (root + m) (fun g => by omega) (fun g => ?_) rfl rfl
    show (¬ σ.1 6 7 = 0 → _) ∧ (σ.1 6 7 = 0 → _)
    rw [hw.2.2.2.1]
    refine And.intro (fun q => ?_) (fun q => ?_)
    · have q := of_decide_eq_true (bIt q)
      have hWL : 65536 < (WL S root).length := by
        have h2 := wrl_mono (S := S) (root := root) (m := m) (j + 1)
        have h3 := pel_len (S := S) (b := root + m) (root := root) m l
        rw [hp] at h3
        unfold WL
        rw [← hm]
        omega
      refine ex_compose hS hW a1 a2 a3 a4 hroot (Or.inr ⟨?_, hWL⟩) h0 h1 hI hC hw hps hF
      exact Nat.lt_of_lt_of_le q (clo_len _ _)
    · refine ⟨Nat.le_refl _, sp_X2_addEndsBefore hS hW (by omega) a1 a2 a3 a4 hC hw hps (fun τ q1 q2 q3 => ?_)⟩
      have hC1 := hC.wd hw.2.1 q3
      rw [a5] at q1
      have hk9 : ¬ KD S (root + m) 9 := by
        by_cases e : m = 0
        · subst e; exact h9
        · exact ((hW (root + m) hb).2.2.1 root (by omega) (by omega)).2.2
      have hlt : cn S (root + m) → (clo S (root + m) st d l).1 < 100 := by
        intro c
        have := stk_d hW (show root + m + 1 ≤ S.1 by omega) (by omega) (stk_next (l := l) hW hb rfl hs (fun _ => ⟨rfl, rfl⟩) (fun z => absurd c z))
        omega
      refine ⟨Nat.le_refl _, sp_X2_addNode hC1 hS hW hb hk9 q1 q2 hlt (fun υ d' st' r1 r2 r3 r4 r5 => ?_)⟩
      have := ih (m + 1) d' st' (bt (wrl S root m []) ++ pn S (root + m)) υ (by omega) (stk_next (l := l) hW hb rfl hs r3 r4) ?_ (fun _ => ne_len (by have := pn_pos S (root + m); rw [List.length_append]; omega)) (hC1.wd hw.2.1 r5) r1 r2 ((hF.tr q3).tr r5)
      · rw [← Nat.add_assoc, nI_succ] at this
        exact this
      · show pel S (root + (m + 1)) root (m + 1) _ = pel S (root + m + 1) root (m + 1) _
        rw [Nat.add_assoc]
        congr 2
        unfold bt
        have hl := (wrl_len (S := S) (root := root) m).1
        by_cases e : m = 0
        · subst e
          rfl
        · rw [if_neg e, if_neg (ne_len (by omega))]
theorem sp_X2_compose {root : Nat} (hS : SZ S) (hW : WF S) (hroot : root < S.1) (h9 : ¬ KD S root 9) (hC : CS σ S) (hpg : σ.2.1 6 5 = pg ∧ (pg = 18 ∨ pg = 19)) (h0 : 65536 < (WL S root).length → ∀ τ, Fr (wdP pg) σ τ → Q (some (.int (-7))) τ) (h1 : (WL S root).length ≤ 65536 → ∀ τ, CW τ pg (WL S root) → Fr (wdP pg) σ τ → Q (some (.int (nI (WL S root).length))) (cmS τ pg (σ.2.1 6 3) (WL S root).length)) : P_X2_compose [.ref 6, .int (nI root)] σ Q X := by
  have hp := hpg.2
  refine ⟨rfl, fun I hI => run_in (stop := fun pc => Nat.beq pc 26) hI 40 ?_⟩
  refine ⟨Nat.le_refl _, sp_end hC hS hW hroot ?_⟩
  have he := (hW root hroot).1.1
  refine ⟨Or.inl rfl, ?_⟩
  refine lp_compose (σ0 := σ) hS hW hroot h9 h0 h1 hI (en S root - root) 0 0 (fun _ => 0) [] _ (by omega) ⟨fun i hi => absurd hi (Nat.not_lt_zero i), fun k h1 h2 => by omega⟩ rfl (fun z => absurd z (by omega)) (((hC.m (by omega)).m (by omega)).m (by omega)) ⟨hpg.1, hp, ?_, ?_, fun i hi => absurd hi (Nat.not_lt_zero i)⟩ ⟨?_, fun i hi => absurd hi (Nat.not_lt_zero i)⟩ (((Fr.rf.s (by simp [wdP])).s (by simp [wdP, wcP])).s (by simp [wdP, wcP]))
  · rw [sM_o (by omega), sM_s]; rfl
  · rw [sM_s]; rfl
  · rw [sM_o (by omega), sM_o (by omega), sM_s]; rfl
theorem sp_X7_write {x : Int32} (hS : SZ S) (hW : WF S) (hC : CS σ S) (hpg : σ.2.1 6 5 = pg ∧ (pg = 18 ∨ pg = 19)) (hx0 : (x < 0 ∨ nI S.1 ≤ x) → X xI σ) (h0 : ∀ i, i < S.1 → x = nI i → 65536 < (WL S (unw S i)).length → ∀ τ, Fr (wdP pg) σ τ → Q (some (.int (-7))) τ) (h1 : ∀ i, i < S.1 → x = nI i → (WL S (unw S i)).length ≤ 65536 → ∀ τ, CW τ pg (WL S (unw S i)) → Fr (wdP pg) σ τ → Q (some (.int (nI (WL S (unw S i)).length))) (cmS τ pg (σ.2.1 6 3) (WL S (unw S i)).length)) : P_X7_write [.ref 0, .int x] σ Q X := by
  refine ⟨rfl, fun I hI => run_in (stop := fun _ => false) hI 60 ?_⟩
  refine ⟨Nat.le_refl _, sp_X7_needNode hC hS hx0 (fun i hi hx => ?_)⟩
  subst hx
  obtain ⟨u1, u2, u3, u4⟩ := unw_b hW hS hi
  refine ⟨Nat.le_refl _, sp_X4_unwrap hC hS hW hi ?_⟩
  exact ⟨Nat.le_refl _, sp_X2_compose hS hW u1 u4 hC hpg (h0 i hi rfl) (h1 i hi rfl)⟩
end WC4
