/-! ===== PURE: numbers, in the class ===== -/
section CN
variable {σ : Sg} {Q : Po} {X : Xo} {n : Nat} {t : Nat → Nat}
theorem sp_X1_inParts {w p : Nat} (hw : w ≤ 1099511627776) (hp : p < 1000000000) (h : ∀ r, r = lN (if 2147483647 < w * 65536 + rnd p then 2147483647 else w * 65536 + rnd p) → Q (some (.long r)) σ) : P_X1_inParts [.long (lN w), .long (lN p)] σ Q X := by
  refine ⟨rfl, fun I hI => run_in (stop := fun _ => false) hI 40 ?_⟩
  have hr : rnd p ≤ 65536 := by unfold rnd; omega
  refine ⟨by decide, ?_⟩
  refine ⟨Nat.le_refl _, h _ ?_⟩
  show (if (2147483647 : Int64) < lN w * 65536 + (lN p * 65536 + 500000000) / 1000000000 then 2147483647 else lN w * 65536 + (lN p * 65536 + 500000000) / 1000000000) = _
  have hE : lN w * 65536 + (lN p * 65536 + 500000000) / 1000000000 = lN (w * 65536 + rnd p) := by
    rw [show (65536 : Int64) = lN 65536 from rfl, show (500000000 : Int64) = lN 500000000 from rfl, show (1000000000 : Int64) = lN 1000000000 from rfl, lN_mul, lN_mul, lN_add, pk_lDiv (by omega) (by omega) (by omega), lN_add]
    rfl
  rw [hE, show (2147483647 : Int64) = lN 2147483647 from rfl]
  by_cases g : 2147483647 < w * 65536 + rnd p
  · rw [if_pos g, if_pos ((pk_lLT (a := 2147483647) (by omega) (by omega)).mpr g)]
  · rw [if_neg g, if_neg (fun z => g ((pk_lLT (a := 2147483647) (by omega) (by omega)).mp z))]
def szC (pt : Bool) (w p : Nat) : Nat := if (pt || decide (2147483647 < w)) = true then (if 2147483647 < w * 65536 + rnd p then 2147483647 else w * 65536 + rnd p) else w
theorem ex_takes {a b sg : Int32} {pt : Bool} {d w p : Nat} {u : Int64} {at' : Int32} {z1 z2 : Option Value} (hd : d < 2 ^ 31) (hw : w ≤ 1099511627776) (hp : p < 1000000000) {I : Jt} (hI : Cl (FM (cutN 221 t_X1_takes) e_X1_takes xn0 0 sws0 true Q X) I)
    (h0 : d = 0 → Q (some (.int 0)) σ) (h1 : 0 < d → Q (some (.int 1)) (sM (sM σ 5 0 (bI (pt || decide (2147483647 < w)))) 5 1 (if sg = 45 then - lN (szC pt w p) else lN (szC pt w p)).toInt32)) :
    I 0 148 [some (.ref 5), some (.ref 1), some (.int a), some (.int b), some (.int sg), some (.int (bI pt)), some (.int (nI d)), some (.long (lN w)), none, some (.long (lN p)), none, some (.long u), none, some (.int at'), z1, z2] [] σ := by
  have end2 : ∀ (rl : Bool) (s : Nat) (z2 : Option Value), rl = (pt || decide (2147483647 < w)) → s = szC pt w p → 0 < d → I 0 197 [some (.ref 5), some (.ref 1), some (.int a), some (.int b), some (.int sg), some (.int (bI pt)), some (.int (nI d)), some (.long (lN w)), none, some (.long (lN p)), none, some (.long u), none, some (.int at'), z1, z2] [.long (lN s)] (sM σ 5 0 (bI rl)) := by
    intro rl s z2 hrl hs hd0
    have hq := h1 hd0
    rw [← hrl, ← hs] at hq
    refine run_in (stop := fun _ => false) hI 40 ?_
    refine And.intro (fun g => ?_) (fun g => ?_)
    · rw [if_neg g] at hq
      exact ⟨bo1, hq⟩
    · rw [if_pos g] at hq
      exact ⟨bo1, hq⟩
  have end1 : ∀ (rl : Bool) (z2 : Option Value), rl = (pt || decide (2147483647 < w)) → 0 < d → I 0 178 [some (.ref 5), some (.ref 1), some (.int a), some (.int b), some (.int sg), some (.int (bI pt)), some (.int (nI d)), some (.long (lN w)), none, some (.long (lN p)), none, some (.long u), none, some (.int at'), z1, z2] [] (sM σ 5 0 (bI rl)) := by
    intro rl z2 hrl hd0
    refine run_in (stop := fun pc => Nat.beq pc 197) hI 40 ?_
    show (bI rl = 0 → _) ∧ (¬ bI rl = 0 → _)
    refine And.intro (fun g => ?_) (fun g => ?_)
    · have g := bIf g
      exact end2 rl w z2 hrl (by rw [szC, ← hrl, g, if_neg (by simp)]) hd0
    · have g := bIt g
      refine ⟨Nat.le_refl _, sp_X1_inParts hw hp (fun r hr => ?_)⟩
      subst hr
      exact end2 rl _ z2 hrl (by rw [szC, ← hrl, g, if_pos rfl]) hd0
  refine run_in (stop := fun pc => Nat.beq pc 178) hI 60 ?_
  refine kne d 0 (fun g => ?_) (fun g => ⟨bo0, h0 g⟩) rfl rfl
  refine And.intro (fun g1 => ?_) (fun g1 => ?_)
  · have g1 := bIt g1
    exact ⟨Or.inr rfl, end1 true z2 (by rw [g1, Bool.true_or]) (by omega)⟩
  · have g1 := bIf g1
    refine klc w 2147483647 (fun g2 => ?_) (fun g2 => ?_) rfl rfl
    · exact ⟨Or.inl rfl, end1 false z2 (by rw [g1, Bool.false_or]; simp; omega) (by omega)⟩
    · exact ⟨Or.inr rfl, end1 true z2 (by rw [g1, Bool.false_or]; simp; omega) (by omega)⟩
theorem lp_takes {a b : Nat} {sg : Int32} (hT : TapeC σ n t) (hbn : b ≤ n) {R : Option (Bool × Nat × Nat × Nat)} {I : Jt} (hI : Cl (FM (cutN 221 t_X1_takes) e_X1_takes xn0 0 sws0 true Q X) I)
    (hN : R = none → Q (some (.int 0)) σ) (h0 : ∀ pt w p, R = some (pt, 0, w, p) → Q (some (.int 0)) σ) (h1 : ∀ pt d w p, R = some (pt, d, w, p) → 0 < d → Q (some (.int 1)) (sM (sM σ 5 0 (bI (pt || decide (2147483647 < w)))) 5 1 (if sg = 45 then - lN (szC pt w p) else lN (szC pt w p)).toInt32)) :
    ∀ m k pt d w p u z1 z2, k + m = b → d ≤ k → w ≤ 1099511627776 → p + u * 10 ≤ 1000000000 → p < 1000000000 → nu (sb t m k) pt d w p u = R →
      I 0 47 [some (.ref 5), some (.ref 1), some (.int (nI a)), some (.int (nI b)), some (.int sg), some (.int (bI pt)), some (.int (nI d)), some (.long (lN w)), none, some (.long (lN p)), none, some (.long (lN u)), none, some (.int (nI k)), z1, z2] [] σ := by
  have h2 := hT.2.1
  intro m
  induction m with
  | zero =>
    intro k pt d w p u z1 z2 hk hdk hw hpu hp hR
    have hR : R = some (pt, d, w, p) := by rw [← hR]; rfl
    refine run_in (stop := fun pc => Nat.beq pc 47 || Nat.beq pc 148) hI 40 ?_
    refine pk_le b k (fun g => ?_) (fun g => by omega) rfl rfl
    exact ex_takes (by omega) hw hp hI (fun e => h0 pt w p (by rw [hR, e])) (fun e => h1 pt d w p hR e)
  | succ m ih =>
    intro k pt d w p u z1 z2 hk hdk hw hpu hp hR
    have ht := hT.2.2.2 k (by omega)
    have nx : ∀ pt' d' w' p' u' (kk : Int32), kk = nI k → d' ≤ k + 1 → w' ≤ 1099511627776 → p' + u' * 10 ≤ 1000000000 → p' < 1000000000 → nu (sb t m (k + 1)) pt' d' w' p' u' = R → I 0 142 [some (.ref 5), some (.ref 1), some (.int (nI a)), some (.int (nI b)), some (.int sg), some (.int (bI pt')), some (.int (nI d')), some (.long (lN w')), none, some (.long (lN p')), none, some (.long (lN u')), none, some (.int kk), some (.int (vI (t k))), some (.int (wI (dv (t k))))] [] σ := by
      intro pt' d' w' p' u' kk e1 e2 e3 e4 e5 e6
      subst e1
      refine run_in (stop := fun pc => Nat.beq pc 47) hI 20 ?_
      have := ih (k + 1) pt' d' w' p' u' (some (.int (vI (t k)))) (some (.int (wI (dv (t k))))) (by omega) e2 e3 e4 e5 e6
      rw [nI_succ] at this
      exact this
    obtain ⟨d1, d2⟩ := dv_dg (t k) (by omega)
    refine run_in (stop := fun pc => Nat.beq pc 47 || Nat.beq pc 86 || Nat.beq pc 142) hI 80 ?_
    refine pk_le b k (fun g => by omega) (fun g => ?_) rfl rfl
    refine ⟨Nat.le_refl _, sp_X5_get hT (by omega) (fun r hr => ?_)⟩
    subst hr
    rw [tg_lt (by omega)]
    refine ⟨Nat.le_refl _, sp_X0_digitOf (by omega) (fun r hr => ?_)⟩
    subst hr
    have rest : ¬ (t k = 46 ∧ pt = false) → I 0 86 [some (.ref 5), some (.ref 1), some (.int (nI a)), some (.int (nI b)), some (.int sg), some (.int (bI pt)), some (.int (nI d)), some (.long (lN w)), none, some (.long (lN p)), none, some (.long (lN u)), none, some (.int (nI k)), some (.int (vI (t k))), some (.int (wI (dv (t k))))] [] σ := by
      intro hne
      refine run_in (stop := fun pc => Nat.beq pc 142) hI 80 ?_
      cases he : dg (t k) with
      | false =>
        refine And.intro (fun g => absurd (d2 he) g) (fun g => ⟨bo0, hN ?_⟩)
        rw [← hR]
        simp [sb, nu, hne, he]
      | true =>
        obtain ⟨e1, e2, e3, e4⟩ := d1 he
        have e5 := dg_b _ he
        refine And.intro (fun _ => ?_) (fun g => absurd g e2)
        refine And.intro (fun g => ?_) (fun g => ?_)
        · have g := bIf g
          have hE : lN w * 10 + (wI (dv (t k))).toInt64 = lN (w * 10 + (t k - 48)) := by
            rw [e1, nI_l (by omega), show (10 : Int64) = lN 10 from rfl, lN_mul, lN_add]
          refine ⟨Nat.le_refl _, ?_⟩
          have hmn := mnP_b (w * 10 + (t k - 48))
          have := nx pt (d + 1) (mnP (w * 10 + (t k - 48))) p u (nI k) rfl (by omega) (by omega) hpu hp (by rw [← hR]; simp [sb, nu, he, g, show ¬ t k = 46 from fun z => hne ⟨z, g⟩])
          have hM : lN (mnP (w * 10 + (t k - 48))) = (if (1099511627776 : Int64) < lN w * 10 + (wI (dv (t k))).toInt64 then 1099511627776 else lN w * 10 + (wI (dv (t k))).toInt64) := by
            rw [hE, show (1099511627776 : Int64) = lN 1099511627776 from rfl]
            rcases hmn with ⟨q, e⟩ | ⟨q, e⟩
            · rw [e, if_pos ((pk_lLT (a := 1099511627776) (by omega) (by omega)).mpr q)]
            · rw [e, if_neg (fun z => absurd ((pk_lLT (a := 1099511627776) (by omega) (by omega)).mp z) (by omega))]
          rw [hM, nI_succ] at this
          exact this
        · have g := bIt g
          have hE : lN p + lN u * (wI (dv (t k))).toInt64 = lN (p + u * (t k - 48)) := by
            rw [e1, nI_l (by omega), lN_mul, lN_add]
          have hu : u * (t k - 48) ≤ u * 9 := Nat.mul_le_mul_left _ (by omega)
          have hu2 : u / 10 * 10 ≤ u := Nat.div_mul_le_self u 10
          have := nx pt (d + 1) w (p + u * (t k - 48)) (u / 10) (nI k) rfl (by omega) hw (by omega) (by omega) (by rw [← hR]; simp [sb, nu, he, g, show ¬ t k = 46 from fun z => by rw [z] at he; cases he])
          rw [← hE, nI_succ] at this
          have hD : lN u / 10 = lN (u / 10) := pk_lDiv (a := u) (b := 10) (by omega) (by omega) (by omega)
          rw [← hD] at this
          exact ⟨by decide, this⟩
    refine And.intro (fun g => ?_) (fun g => ?_)
    · have g : ¬ t k = 46 := fun e => g ((vI_eq (by omega) (by decide)).mpr e)
      exact rest (fun z => g z.1)
    · have g : t k = 46 := (vI_eq (c := 46) (by omega) (by decide)).mp g
      refine And.intro (fun g2 => ?_) (fun g2 => ?_)
      · have g2 := bIt g2
        exact rest (fun z => by rw [g2] at z; cases z.2)
      · have g2 := bIf g2
        exact nx true d w p u (nI k) rfl (by omega) hw hpu hp (by rw [← hR]; simp [sb, nu, g, g2])
theorem sb_sgn {a b : Nat} (hab : a < b) : gD (sb t (b - a) a) 0 = t a ∧ sgn (sb t (b - a) a) = (if t a = 43 ∨ t a = 45 then 1 else 0) ∧ bdy (sb t (b - a) a) = (if t a = 43 ∨ t a = 45 then sb t (b - (a + 1)) (a + 1) else sb t (b - a) a) := by
  obtain ⟨m, hm⟩ : ∃ m, b - a = m + 1 := ⟨b - a - 1, by omega⟩
  have hm2 : b - (a + 1) = m := by omega
  rw [hm, hm2]
  refine ⟨rfl, rfl, ?_⟩
  unfold bdy
  by_cases h : t a = 43 ∨ t a = 45
  · simp only [sb, sgn, if_pos h, List.drop_succ_cons, List.drop_zero]
  · simp only [sb, sgn, if_neg h, List.drop_zero]
theorem sz_eq {w : List Nat} {v p : Nat} (e4 : v = whN w ∨ (2147483647 < v ∧ 2147483647 < whN w)) (e6 : p = ps 100000000 ((fB (bdy w)).getD [])) : ((fB (bdy w)).isSome || decide (2147483647 < v)) = rlN w ∧ szC (fB (bdy w)).isSome v p = szN w := by
  have hrl : ((fB (bdy w)).isSome || decide (2147483647 < v)) = rlN w := by
    unfold rlN
    congr 1
    rw [decide_eq_decide]
    omega
  refine ⟨hrl, ?_⟩
  unfold szC szN
  rw [hrl, e6]
  generalize rnd (ps 100000000 ((fB (bdy w)).getD [])) = x
  by_cases hR : rlN w = true
  · rw [if_pos hR, if_pos hR]
    rcases e4 with e4 | e4
    · rw [e4]
    · rw [if_pos (by omega), if_pos (by omega)]
  · rw [if_neg hR, if_neg hR]
    simp only [rlN, Bool.or_eq_true, decide_eq_true_eq, not_or] at hR
    omega
theorem fn_takes {a b : Nat} (hT : TapeC σ n t) (hab : a < b) (hb : b ≤ n)
    (h0 : isN (sb t (b - a) a) = false → Q (some (.int 0)) σ)
    (h1 : isN (sb t (b - a) a) = true → Q (some (.int 1)) (sM (sM σ 5 0 (bI (rlN (sb t (b - a) a)))) 5 1 (amN (sb t (b - a) a)))) :
    ∀ (k m : Nat) {I : Jt} (hI : Cl (FM (cutN 221 t_X1_takes) e_X1_takes xn0 0 sws0 true Q X) I), bdy (sb t (b - a) a) = sb t m k → k + m = b → I 0 47 [some (.ref 5), some (.ref 1), some (.int (nI a)), some (.int (nI b)), some (.int (vI (t a))), some (.int (bI false)), some (.int (nI 0)), some (.long (lN 0)), none, some (.long (lN 0)), none, some (.long (lN 100000000)), none, some (.int (nI k)), none, none] [] σ := by
  have h2 := hT.2.1
  have ht := hT.2.2.2 a (by omega)
  obtain ⟨q1, -, -⟩ := sb_sgn (t := t) hab
  generalize sb t (b - a) a = w at h0 h1 q1
  obtain ⟨n0, n1⟩ := nu_isN w
  intro k m I hI hbd hk
  rw [hbd] at n0 n1
  refine lp_takes (R := nu (sb t m k) false 0 0 0 100000000) hT hb hI (fun e => ?_) (fun pt v p e => ?_) (fun pt d v p e hd => ?_) m k false 0 0 0 100000000 none none hk (by omega) (by omega) (by omega) (by omega) rfl
  · cases hN : isN w with
    | false => exact h0 hN
    | true =>
      obtain ⟨d, v, p, e2, -⟩ := n1 hN
      rw [e] at e2
      cases e2
  · cases hN : isN w with
    | false => exact h0 hN
    | true =>
      obtain ⟨d, v, p, e2, e3, -⟩ := n1 hN
      rw [e] at e2
      have e2 := Option.some.inj e2
      have := congrArg (fun x => x.2.1) e2
      simp only at this
      omega
  · cases hN : isN w with
    | false =>
      rcases n0 hN with e2 | ⟨_, _, _, e2⟩
      · rw [e] at e2; cases e2
      · rw [e] at e2
        have e2 := Option.some.inj e2
        have := congrArg (fun x => x.2.1) e2
        simp only at this
        omega
    | true =>
      obtain ⟨d', v', p', e2, -, e4, e5, e6, e7⟩ := n1 hN
      rw [e] at e2
      have e2 := Option.some.inj e2
      have i1 : pt = (fB (sb t m k)).isSome := congrArg (fun x => x.1) e2
      have i2 : v = v' := congrArg (fun x => x.2.2.1) e2
      have i3 : p = p' := congrArg (fun x => x.2.2.2) e2
      subst i2 i3
      rw [← hbd] at i1 e6
      obtain ⟨z1, z2⟩ := sz_eq e4 e6
      have hq := h1 hN
      rw [i1, z1, z2]
      unfold amN at hq
      rw [q1] at hq
      by_cases g : t a = 45
      · rw [if_pos g] at hq
        rw [if_pos (show vI (t a) = 45 from (vI_eq (by omega) (by decide)).mpr g)]
        exact hq
      · rw [if_neg g] at hq
        rw [if_neg (show ¬ vI (t a) = 45 from fun z => g ((vI_eq (c := 45) (by omega) (by decide)).mp z))]
        exact hq
theorem sp_X1_takes {a b : Nat} (hT : TapeC σ n t) (hab : a < b) (hb : b ≤ n)
    (h0 : isN (sb t (b - a) a) = false → Q (some (.int 0)) σ)
    (h1 : isN (sb t (b - a) a) = true → Q (some (.int 1)) (sM (sM σ 5 0 (bI (rlN (sb t (b - a) a)))) 5 1 (amN (sb t (b - a) a)))) :
    P_X1_takes [.ref 5, .ref 1, .int (nI a), .int (nI b)] σ Q X := by
  have h2 := hT.2.1
  have ht := hT.2.2.2 a (by omega)
  obtain ⟨q1, q2, q3⟩ := sb_sgn (t := t) hab
  refine ⟨rfl, fun I hI => run_in (stop := fun pc => Nat.beq pc 13) hI 40 ?_⟩
  refine ⟨Nat.le_refl _, sp_X5_get hT (by omega) (fun r hr => ?_)⟩
  subst hr
  rw [tg_lt (by omega)]
  have m47 : ∀ k, (k = a ∧ ¬ (t a = 43 ∨ t a = 45) ∨ k = a + 1 ∧ (t a = 43 ∨ t a = 45)) → I 0 47 [some (.ref 5), some (.ref 1), some (.int (nI a)), some (.int (nI b)), some (.int (vI (t a))), some (.int (bI false)), some (.int (nI 0)), some (.long (lN 0)), none, some (.long (lN 0)), none, some (.long (lN 100000000)), none, some (.int (nI k)), none, none] [] σ := by
    intro k hk
    rcases hk with ⟨rfl, e⟩ | ⟨rfl, e⟩
    · exact fn_takes hT hab hb h0 h1 k (b - k) hI (by rw [q3, if_neg e]) (by omega)
    · exact fn_takes hT hab hb h0 h1 (a + 1) (b - (a + 1)) hI (by rw [q3, if_pos e]) (by omega)
  have m24 : I 0 24 [some (.ref 5), some (.ref 1), some (.int (nI a)), some (.int (nI b)), some (.int (vI (t a))), some (.int (bI false)), some (.int (nI 0)), some (.long (lN 0)), none, some (.long (lN 0)), none, some (.long (lN 100000000)), none, none, none, none] [] σ := by
    refine run_in (stop := fun pc => Nat.beq pc 47) hI 40 ?_
    have one : (t a = 43 ∨ t a = 45) → I 0 47 [some (.ref 5), some (.ref 1), some (.int (nI a)), some (.int (nI b)), some (.int (vI (t a))), some (.int (bI false)), some (.int (nI 0)), some (.long (lN 0)), none, some (.long (lN 0)), none, some (.long (lN 100000000)), none, some (.int (nI a + 1)), none, none] [] σ := by
      intro e
      have := m47 (a + 1) (Or.inr ⟨rfl, e⟩)
      rw [nI_succ a] at this
      exact this
    refine And.intro (fun g => ?_) (fun g => ?_)
    · exact one (Or.inr ((vI_eq (c := 45) (by omega) (by decide)).mp g))
    · have g45 : ¬ t a = 45 := fun e => g ((vI_eq (by omega) (by decide)).mpr e)
      refine And.intro (fun g => ?_) (fun g => ?_)
      · have g43 : ¬ t a = 43 := fun e => g ((vI_eq (by omega) (by decide)).mpr e)
        exact m47 a (Or.inl ⟨rfl, by omega⟩)
      · exact one (Or.inl ((vI_eq (c := 43) (by omega) (by decide)).mp g))
  have m19 : I 0 19 [some (.ref 5), some (.ref 1), some (.int (nI a)), some (.int (nI b)), some (.int (vI (t a))), some (.int (bI false)), some (.int (nI 0)), some (.long (lN 0)), none, some (.long (lN 0)), none, none, none, none, none, none] [] σ := by
    refine run_in (stop := fun pc => Nat.beq pc 24) hI 10 ?_
    rw [show lN 100000000 = (100000000 : Int64) from rfl] at m24
    exact m24
  have m13 : I 0 13 [some (.ref 5), some (.ref 1), some (.int (nI a)), some (.int (nI b)), some (.int (vI (t a))), some (.int (bI false)), some (.int (nI 0)), none, none, none, none, none, none, none, none, none] [] σ := by
    refine run_in (stop := fun pc => Nat.beq pc 19) hI 10 ?_
    exact m19
  exact m13
end CN
