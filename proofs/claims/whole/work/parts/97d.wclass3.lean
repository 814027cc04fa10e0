/-! ===== PURE: the class writes a tree ===== -/
theorem dgl_pos (v e : Nat) : 0 < (dgl v e).length := by
  induction e with
  | zero => simp [dgl]
  | succ e ih =>
    simp only [dgl]
    split
    · simp
    · exact ih
theorem pn_pos (S : St) (k : Nat) : 0 < (pn S k).length := by
  have h := dgl_pos
  unfold pn
  repeat' split
  all_goals simp only [List.length_append, List.length_cons, List.length_nil]
  all_goals (first | omega | (have := h (mag (S.2.1 1 k)) 9; omega) | (have := h (mag (S.2.1 1 k) / 65536) 9; omega) | (have := h (S.2.1 1 k).toNatClampNeg 9; omega))
theorem clg_pos (S : St) (c : Nat) : 0 < (clg S c).length := by
  unfold clg
  split <;> simp
theorem pel_len {S : St} {b root : Nat} : ∀ m l, l.length ≤ (pel S b root m l).length := by
  intro m
  induction m with
  | zero => intro l; exact Nat.le_refl _
  | succ m ih =>
    intro l
    simp only [pel]
    refine Nat.le_trans ?_ (ih _)
    split
    · simp
    · exact Nat.le_refl _
theorem wrl_len {S : St} {root : Nat} : ∀ m, m ≤ (wrl S root m []).length ∧ (wrl S root m []).length ≤ (wrl S root (m + 1) []).length := by
  intro m
  have step : ∀ m, (wrl S root m []).length < (wrl S root (m + 1) []).length := by
    intro m
    have h1 := pel_len (S := S) (b := root + m + 1) (root := root) (m + 1) ((if m = 0 then wrl S root m [] else wrl S root m [] ++ [32]) ++ pn S (root + m))
    have h2 := pn_pos S (root + m)
    have h0 : (wrl S root m []).length ≤ (if m = 0 then wrl S root m [] else wrl S root m [] ++ [32]).length := by
      split
      · exact Nat.le_refl _
      · simp
    rw [List.length_append] at h1
    show _ < (pel S (root + m + 1) root (m + 1) ((if m = 0 then wrl S root m [] else wrl S root m [] ++ [32]) ++ pn S (root + m))).length
    omega
  refine ⟨?_, Nat.le_of_lt (step m)⟩
  induction m with
  | zero => exact Nat.zero_le _
  | succ m ih => have := step m; omega
theorem wrl_mono {S : St} {root m : Nat} : ∀ j, (wrl S root m []).length ≤ (wrl S root (m + j) []).length := by
  intro j
  induction j with
  | zero => exact Nat.le_refl _
  | succ j ih => exact Nat.le_trans ih (wrl_len (m + j)).2
theorem stk_d {S : St} {root b m d : Nat} {st : Nat → Nat} (hW : WF S) (hb : b ≤ S.1) (hm : root + m ≤ b) (h : STK S root b m d st) : d ≤ 100 := by
  have key : ∀ i, i < d → i ≤ dpt S (st i) := by
    intro i
    induction i with
    | zero => intro _; exact Nat.zero_le _
    | succ i ih =>
      intro hi
      obtain ⟨a1, a2, a3, a4, a5⟩ := h.1 (i + 1) hi
      obtain ⟨b1, b2, b3, b4, b5⟩ := h.1 i (by omega)
      have := ((hW (st (i + 1)) (by omega)).2.2.1 (st i) (a5 i (by omega)) (by omega)).1 b3
      have := ih (by omega)
      omega
  by_cases e : d = 0
  · omega
  · have h1 := key (d - 1) (by omega)
    obtain ⟨a1, a2, a3, a4, a5⟩ := h.1 (d - 1) (by omega)
    have := (hW (st (d - 1)) (by omega)).1.2.2.2.2 a3
    omega
def wdP (pg j k : Nat) : Prop := wcP pg j k ∨ (j = 6 ∧ k = 2) ∨ j = 17
def PS (σ : Sg) (d : Nat) (st : Nat → Nat) : Prop := σ.1 6 2 = nI d ∧ ∀ i, i < d → σ.1 17 i = nI (st i)
section WC3
variable {σ : Sg} {Q : Po} {X : Xo} {pg : Nat} {l : List Nat} {S : St} {d : Nat} {st : Nat → Nat}
theorem wc_wd {τ : Sg} (h : Fr (wcP pg) σ τ) : Fr (wdP pg) σ τ := h.w (fun _ _ z => Or.inl z)
theorem PS.wc {τ : Sg} (h : PS σ d st) (hp : pg = 18 ∨ pg = 19) (hf : Fr (wcP pg) σ τ) : PS τ d st := ⟨(hf.2 6 2 (by simp [wcP]; omega)).trans h.1, fun i hi => (hf.2 17 i (by simp [wcP]; omega)).trans (h.2 i hi)⟩
theorem CS.wd {τ : Sg} (h : CS σ S) (hp : pg = 18 ∨ pg = 19) (hf : Fr (wdP pg) σ τ) : CS τ S := h.fr (hf.2 2 7 (by simp [wdP, wcP]; omega)) (hf.2 2 8 (by simp [wdP, wcP]; omega)) (fun j k h1 h2 => hf.2 j k (by simp [wdP, wcP]; omega)) (fun k _ => hf.2 15 k (by simp [wdP, wcP]; omega))
theorem CW.m {j k : Nat} {v : Int32} (h : CW σ pg l) (hj : (j = 6 ∧ k = 2) ∨ j = 17) : CW (sM σ j k v) pg l := by
  obtain ⟨w1, w2, w3, w4, w5⟩ := h
  exact ⟨w1, w2, (sM_o (by omega)).trans w3, (sM_o (by omega)).trans w4, fun i h1 h2 => by rw [sM_o (by omega)]; exact w5 i h1 h2⟩
theorem sp_X2_addBegin {k b : Nat} (hb : b < 256) (hw : CW σ pg l) (hs : PS σ d st) (hd : d < 100) (h : ∀ τ, CW τ pg (bt l ++ (if b = 60 ∨ b = 62 then [b, b] else [b])) → PS τ (d + 1) (stp st d k) → Fr (wdP pg) σ τ → Q none τ) : P_X2_addBegin [.ref 6, .int (nI k), .int (nI b)] σ Q X := by
  refine ⟨rfl, fun I hI => run_in (stop := fun _ => false) hI 40 ?_⟩
  refine ⟨Nat.le_refl _, sp_X2_addBracket hb hw (fun τ q1 q2 => ?_)⟩
  have hs2 := hs.wc hw.2.1 q2
  refine ⟨by decide, ?_⟩
  refine pk_le 100 d (fun g => by omega) (fun g => ?_) rfl hs2.1
  refine ⟨rfl, pk_in d 100 hd hs2.1, ?_⟩
  have hq := h (sM (sM τ 17 d (nI k)) 6 2 (nI (d + 1))) ((q1.m (Or.inr rfl)).m (Or.inl ⟨rfl, rfl⟩)) ⟨sM_s, fun i hi => ?_⟩ (((wc_wd q2).s (by simp [wdP])).s (by simp [wdP]))
  · rw [show nI (d + 1) = τ.1 6 2 + 1 by rw [hs2.1, nI_succ], ← pk_cl d hs2.1] at hq
    exact hq
  · show _ = nI (if i = d then k else st i)
    rw [sM_o (by omega)]
    by_cases e : i = d
    · rw [if_pos e, e, sM_s]
    · rw [if_neg e, sM_o (by omega)]
      exact hs2.2 i (by omega)
theorem bt_ne {l : List Nat} (h : l ≠ []) : bt l = l ++ [32] := if_neg h
theorem ne_len {l : List Nat} (h : 0 < l.length) : l ≠ [] := fun e => by rw [e] at h; simp at h
theorem mag_n {s : Nat} (hs : s ≤ 2147483647) : mag (nI s) = s ∧ sgl (nI s) = [] ∧ numV (nI s) := by
  refine ⟨by unfold mag; rw [nI_toInt (by omega)]; rfl, if_neg (nI_pos (by omega)), s, hs, Or.inl rfl⟩
theorem sp_X2_addNode {k : Nat} (hC : CS σ S) (hS : SZ S) (hW : WF S) (hk : k < S.1) (h9 : ¬ KD S k 9) (hw : CW σ pg l) (hs : PS σ d st) (hd : cn S k → d < 100) (h : ∀ τ d' st', CW τ pg (bt l ++ pn S k) → PS τ d' st' → (cn S k → d' = d + 1 ∧ st' = stp st d k) → (¬ cn S k → d' = d ∧ st' = st) → Fr (wdP pg) σ τ → Q none τ) : P_X2_addNode [.ref 6, .int (nI k)] σ Q X := by
  obtain ⟨⟨j, hj, hkd⟩, v2, v3, v4⟩ := (hW k hk).1.2.2.2.1
  have lf : ∀ τ L, ¬ cn S k → pn S k = L → CW τ pg (bt l ++ L) → Fr (wcP pg) σ τ → Q none τ := by
    intro τ L hn hL q1 q2
    exact h τ d st (by rw [hL]; exact q1) (hs.wc hw.2.1 q2) (fun z => absurd z hn) (fun _ => ⟨rfl, rfl⟩) (wc_wd q2)
  have nc : ∀ c, c < 10 → c ≠ 6 → c ≠ 7 → KD S k c → ¬ cn S k := by
    rintro c hc h6 h7 z (y | y)
    · exact h6 (KD_u z y hc (by omega))
    · exact h7 (KD_u z y hc (by omega))
  unfold pn at lf h
  refine ⟨rfl, fun I hI => run_in (stop := fun _ => false) hI 60 ?_⟩
  refine ⟨Nat.le_refl _, sp_X4_valueOf hC hS hk (fun r hr => ?_)⟩
  subst hr
  refine ⟨Nat.le_refl _, sp_X4_kindOf hC hS hk (fun r hr => ?_)⟩
  subst hr
  refine And.intro (fun g => ?_) (fun g0 => ?_)
  · exact ⟨Nat.le_refl _, sp_X2_addWord (w := 40) (by simp) hw (fun τ q1 q2 => lf τ _ (nc 0 (by omega) (by omega) (by omega) g) (if_pos g) q1 q2)⟩
  have g0 : ¬ S.2.1 0 k = nI 0 := g0
  rw [if_neg g0] at lf h
  refine And.intro (fun g => ?_) (fun g1 => ?_)
  · have g : S.2.1 0 k = nI 1 := g
    rw [if_pos g] at lf
    have hn := nc 1 (by omega) (by omega) (by omega) g
    refine And.intro (fun q => ?_) (fun q => ?_)
    · exact ⟨Nat.le_refl _, sp_X2_addWord (w := 42) (by simp) hw (fun τ q1 q2 => lf τ _ hn (if_neg q) q1 q2)⟩
    · exact ⟨Nat.le_refl _, sp_X2_addWord (w := 41) (by simp) hw (fun τ q1 q2 => lf τ _ hn (if_pos q) q1 q2)⟩
  have g1 : ¬ S.2.1 0 k = nI 1 := g1
  rw [if_neg g1] at lf h
  refine And.intro (fun g => ?_) (fun g2 => ?_)
  · have g : S.2.1 0 k = nI 2 := g
    rw [if_pos g] at lf
    exact ⟨Nat.le_refl _, sp_X2_addInteger (v2 (Or.inl g)) hw (fun τ q1 q2 => lf τ _ (nc 2 (by omega) (by omega) (by omega) g) rfl q1 q2)⟩
  have g2 : ¬ S.2.1 0 k = nI 2 := g2
  rw [if_neg g2] at lf h
  refine And.intro (fun g => ?_) (fun g3 => ?_)
  · have g : S.2.1 0 k = nI 3 := g
    rw [if_pos g] at lf
    exact ⟨Nat.le_refl _, sp_X2_addReal (v2 (Or.inr g)) hw (fun τ q1 q2 => lf τ _ (nc 3 (by omega) (by omega) (by omega) g) rfl q1 q2)⟩
  have g3 : ¬ S.2.1 0 k = nI 3 := g3
  rw [if_neg g3] at lf h
  refine And.intro (fun g => ?_) (fun g4 => ?_)
  · have g : S.2.1 0 k = nI 4 := g
    rw [if_pos g] at lf
    obtain ⟨n0, l1, l2, l3, l4⟩ := tx_ok hW hS hk (Or.inl g)
    rw [l4] at lf
    exact ⟨Nat.le_refl _, sp_X2_addString hC hS hW hk (Or.inl g) l1 l3 hw (fun τ q1 q2 => lf τ _ (nc 4 (by omega) (by omega) (by omega) g) rfl q1 q2)⟩
  have g4 : ¬ S.2.1 0 k = nI 4 := g4
  rw [if_neg g4] at lf h
  refine And.intro (fun g => ?_) (fun g5 => ?_)
  · have g : S.2.1 0 k = nI 5 := g
    rw [if_pos g] at lf
    obtain ⟨n0, l1, l2, l3, l4⟩ := tx_ok hW hS hk (Or.inr g)
    rw [l4] at lf
    exact ⟨Nat.le_refl _, sp_X2_addName hC hS hW hk (Or.inr g) l1 l3 hw (fun τ q1 q2 => lf τ _ (nc 5 (by omega) (by omega) (by omega) g) rfl q1 q2)⟩
  have g5 : ¬ S.2.1 0 k = nI 5 := g5
  rw [if_neg g5] at lf h
  refine And.intro (fun g => ?_) (fun g6 => ?_)
  · have g : S.2.1 0 k = nI 6 := g
    rw [if_pos g] at h
    exact ⟨Nat.le_refl _, sp_X2_addBegin (b := 91) (by omega) hw hs (hd (Or.inl g)) (fun τ q1 q2 q3 => h τ _ _ q1 q2 (fun _ => ⟨rfl, rfl⟩) (fun z => absurd (Or.inl g) z) q3)⟩
  have g6 : ¬ S.2.1 0 k = nI 6 := g6
  rw [if_neg g6] at lf h
  refine And.intro (fun g => ?_) (fun g7 => ?_)
  · have g : S.2.1 0 k = nI 7 := g
    rw [if_pos g] at h
    exact ⟨Nat.le_refl _, sp_X2_addBegin (b := 60) (by omega) hw hs (hd (Or.inr g)) (fun τ q1 q2 q3 => h τ _ _ q1 q2 (fun _ => ⟨rfl, rfl⟩) (fun z => absurd (Or.inr g) z) q3)⟩
  have g7 : ¬ S.2.1 0 k = nI 7 := g7
  rw [if_neg g7] at lf h
  refine And.intro (fun g => ?_) (fun g8 => ?_)
  · have g : S.2.1 0 k = nI 8 := g
    obtain ⟨p, q, hp, hq, e1, e2⟩ := v3 g
    have hn := nc 8 (by omega) (by omega) (by omega) g
    rw [e1, e2, nI_clamp (by omega), nI_clamp (by omega)] at lf
    rw [e1]
    obtain ⟨m1, m2, m3⟩ := mag_n (s := p) (by omega)
    obtain ⟨m4, m5, m6⟩ := mag_n (s := q) (by omega)
    refine ⟨Nat.le_refl _, sp_X2_addInteger m3 hw (fun τ1 a1 a2 => ?_)⟩
    rw [m1, m2] at a1
    have hC1 := hC.wc hw.2.1 a2
    refine ⟨Nat.le_refl _, sp_X4_extraOf hC1 hS hk (fun r hr => ?_)⟩
    rw [e2] at hr
    subst hr
    refine ⟨Nat.le_refl _, sp_X2_addInteger m6 a1 (fun τ2 b1 b2 => ?_)⟩
    rw [m4, m5] at b1
    refine ⟨Nat.le_refl _, sp_X2_addWord (w := 43) (by simp) b1 (fun τ3 c1 c2 => ?_)⟩
    have d1 := dgl_pos p 9
    have d2 := dgl_pos q 9
    rw [bt_ne (ne_len (by simp only [List.length_append, List.nil_append]; omega)), bt_ne (ne_len (by simp only [List.length_append, List.nil_append]; omega))] at c1
    refine lf τ3 _ hn rfl ?_ ((a2.tr b2).tr c2)
    simp only [List.nil_append, List.append_assoc] at c1 ⊢
    exact c1
  · exfalso
    have : ∀ c, c < 10 → S.2.1 0 k = nI c → c = 9 := by
      intro c hc z
      have n8 : ¬ S.2.1 0 k = nI 8 := g8
      rcases c with _ | _ | _ | _ | _ | _ | _ | _ | _ | _ | c
      · exact absurd z g0
      · exact absurd z g1
      · exact absurd z g2
      · exact absurd z g3
      · exact absurd z g4
      · exact absurd z g5
      · exact absurd z g6
      · exact absurd z g7
      · exact absurd z n8
      · rfl
      · omega
    have := this j hj hkd
    subst this
    exact h9 hkd
theorem lp_addEnds {σ0 : Sg} {b : Nat} {o : Nat × List Nat} (hS : SZ S) (hW : WF S) (hb : b < 2 ^ 31) (h : ∀ τ, CW τ pg o.2 → PS τ o.1 st → Fr (wdP pg) σ0 τ → Q none τ) {I : Jt} (hI : Cl (FM (cutN 78 t_X2_addEndsBefore) e_X2_addEndsBefore xn0 0 sws0 false Q X) I) :
    ∀ d l z (σ : Sg), d ≤ 100 → (∀ i, i < d → st i < S.1) → (0 < d → l ≠ []) → (∀ i, i < d → cn S (st i)) → clo S b st d l = o → CS σ S → CW σ pg l → PS σ d st → Fr (wdP pg) σ0 σ → I 0 5 [some (.ref 6), some (.int (nI b)), some (.int (nI d)), z] [] σ := by
  have hz := hS.1
  intro d
  induction d with
  | zero =>
    intro l z σ hd hst hne hcn ho hC hw hs hF
    refine run_in (stop := fun pc => Nat.beq pc 5) hI 40 ?_
    refine And.intro (fun _ => ?_) (fun z => absurd (by decide) z)
    exact h σ (by rw [← ho]; exact hw) (by rw [← ho]; exact hs) hF
  | succ d ih =>
    intro l z σ hd hst hne hcn ho hC hw hs hF
    have hsd := hst d (by omega)
    have he := (hW (st d) hsd).1.1
    have hx : nI (d + 1) - 1 = nI d := nI_pred d
    simp only [clo] at ho
    refine run_in (stop := fun pc => Nat.beq pc 5) hI 60 ?_
    refine pk_le (d + 1) 0 (fun g => by omega) (fun g => ?_) rfl rfl
    refine ⟨by decide, ?_⟩
    refine pk_lt 100 (d + 1) (fun g => by omega) (fun g => ?_) rfl rfl
    refine ⟨rfl, pk_in d 100 (by omega) hx, ?_⟩
    rw [hx, el_nI (by decide) (by omega), hs.2 d (by omega)]
    refine ⟨Nat.le_refl _, sp_end hC hS hW hsd ?_⟩
    refine pk_le (en S (st d)) b (fun g2 => ?_) (fun g2 => ?_) rfl rfl
    · rw [if_neg (by omega)] at ho
      have hbt : bt l = l ++ [32] := bt_ne (hne (by omega))
      have fin : ∀ τ, CW τ pg (l ++ clg S (st d)) → Fr (wcP pg) σ τ → I 0 5 [some (.ref 6), some (.int (nI b)), some (.int (nI (d + 1) + (-1))), some (.int (nI (st d)))] [] (sM τ 6 2 (nI (d + 1) - 1)) := by
        intro τ q1 q2
        rw [hx, pk_m1 d]
        have hs2 := hs.wc hw.2.1 q2
        refine ih (l ++ clg S (st d)) _ _ (by omega) (fun i hi => hst i (by omega)) (fun _ => ne_len (by have := clg_pos S (st d); rw [List.length_append]; omega)) (fun i hi => hcn i (by omega)) ho ((hC.wc hw.2.1 q2).m (by omega)) (q1.m (Or.inl ⟨rfl, rfl⟩)) ⟨sM_s, fun i hi => (sM_o (by omega)).trans (hs2.2 i (by omega))⟩ ((hF.tr (wc_wd q2)).s (by simp [wdP]))
      refine ⟨Nat.le_refl _, sp_X4_kindOf hC hS hsd (fun r hr => ?_)⟩
      subst hr
      refine And.intro (fun q => ?_) (fun q => ?_)
      · have hcl : clg S (st d) = [32, 62, 62] := if_neg q
        refine ⟨Nat.le_refl _, sp_X2_addBracket (b := 62) (by omega) hw (fun τ q1 q2 => ?_)⟩
        refine fin τ ?_ q2
        rw [hcl]
        rw [hbt, List.append_assoc] at q1
        exact q1
      · have hcl : clg S (st d) = [32, 93] := if_pos q
        refine ⟨Nat.le_refl _, sp_X2_addBracket (b := 93) (by omega) hw (fun τ q1 q2 => ?_)⟩
        refine fin τ ?_ q2
        rw [hcl]
        rw [hbt, List.append_assoc] at q1
        exact q1
    · rw [if_pos g2] at ho
      exact h σ (by rw [← ho]; exact hw) (by rw [← ho]; exact hs) hF
theorem sp_X2_addEndsBefore {b : Nat} (hS : SZ S) (hW : WF S) (hb : b < 2 ^ 31) (hd : d ≤ 100) (hst : ∀ i, i < d → st i < S.1) (hne : 0 < d → l ≠ []) (hcn : ∀ i, i < d → cn S (st i)) (hC : CS σ S) (hw : CW σ pg l) (hs : PS σ d st) (h : ∀ τ, CW τ pg (clo S b st d l).2 → PS τ (clo S b st d l).1 st → Fr (wdP pg) σ τ → Q none τ) : P_X2_addEndsBefore [.ref 6, .int (nI b)] σ Q X := by
  refine ⟨rfl, fun I hI => run_in (stop := fun pc => Nat.beq pc 5) hI 20 ?_⟩
  have := lp_addEnds hS hW hb h hI d l none σ hd hst hne hcn rfl hC hw hs Fr.rf
  rw [← hs.1] at this
  exact this
end WC3
