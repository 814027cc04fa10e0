/-! ===== PURE: reading, in the abstract ===== -/
/-- the store, the depth, what is open, whether a key is due -/
abbrev Rd : Type := St × Nat × (Nat → Nat) × Bool
def fI (f : Nat) : Int32 := match f with
  | 0 => 0
  | 1 => -1
  | 2 => -2
  | 3 => -3
  | 4 => -4
  | 5 => -5
  | 6 => -6
  | 7 => -7
  | 8 => -8
  | 9 => -9
  | _ => -10
def stp (st : Nat → Nat) (d c : Nat) : Nat → Nat := fun i => if i = d then c else st i
def kd0 (S : St) (d : Nat) (st : Nat → Nat) : Bool := decide (0 < d ∧ S.2.1 0 (st (d - 1)) = nI 7)
def val1 (S : St) (d : Nat) (st : Nat → Nat) : Rd := if d = 0 then (S, d, st, false) else (inc S (st (d - 1)), d, st, kd0 S d st)
def leaf (R : Rd) (what : Nat) (v x : Int32) (l : List Nat) (b : Nat) : Nat × Rd × Nat :=
  if 4000 ≤ R.1.1 ∨ 32768 < R.1.2.2.1 + l.length then (7, R, b) else (0, val1 (adS R.1 what v x l R.2.1) R.2.1 R.2.2.1, b)
def opn (R : Rd) (what b : Nat) : Nat × Rd × Nat :=
  if 100 ≤ R.2.1 then (6, R, b) else if 4000 ≤ R.1.1 then (7, R, b) else (0, (adS R.1 what 0 0 [] R.2.1, R.2.1 + 1, stp R.2.2.1 R.2.1 R.1.1, decide (what = 7)), b)
def cl1 (R : Rd) (b : Nat) : Nat × Rd × Nat := (0, val1 (cls R.1 (R.2.2.1 (R.2.1 - 1))) (R.2.1 - 1) R.2.2.1, b)
def key1 (R : Rd) (l : List Nat) (b : Nat) : Nat × Rd × Nat :=
  if 4000 ≤ R.1.1 ∨ 32768 < R.1.2.2.1 + l.length then (7, R, b) else (0, (adS R.1 5 (nI l.length) 0 l R.2.1, R.2.1, R.2.2.1, false), b)
/-- a reference's generation and end; its number too -/
def rf2 (n : Nat) (t : Nat → Nat) (b : Nat) : Option (Nat × Nat) := match IX 65535 (sb t (WD n t (SK n t b) - SK n t b) (SK n t b)) with
  | none => none
  | some g => if sb t (WD n t (SK n t (WD n t (SK n t b))) - SK n t (WD n t (SK n t b))) (SK n t (WD n t (SK n t b))) = [82] then some (g, WD n t (SK n t (WD n t (SK n t b)))) else none
def rfr (n : Nat) (t : Nat → Nat) (b : Nat) (w : List Nat) : Option (Nat × Nat × Nat) := match IX 8388607 w with
  | none => none
  | some v => match rf2 n t b with
    | none => none
    | some q => some (v, q.1, q.2)
def wrd (n : Nat) (t : Nat → Nat) (R : Rd) (w : List Nat) (b : Nat) : Nat × Rd × Nat := match rfr n t b w with
  | some q => leaf R 8 (nI q.1) (nI q.2.1) [] q.2.2
  | none => if w = [110, 117, 108, 108] then leaf R 0 0 0 [] b else if w = [116, 114, 117, 101] then leaf R 1 1 0 [] b else if w = [102, 97, 108, 115, 101] then leaf R 1 0 0 [] b else
    if isN w = true then leaf R (if rlN w = true then 3 else 2) (amN w) 0 [] b else (2, R, b)
/-- a token that is right in itself -/
def tkn (n : Nat) (t : Nat → Nat) (R : Rd) (a s b : Nat) (l : List Nat) : Nat × Rd × Nat :=
  if R.2.2.2 = true then (if s = 4 then cl1 R b else if s = 6 then key1 R l b else (5, R, b)) else
  if s = 1 then opn R 6 b else if s = 3 then opn R 7 b else
  if s = 2 then (if 0 < R.2.1 ∧ R.1.2.1 0 (R.2.2.1 (R.2.1 - 1)) = nI 6 then cl1 R b else (2, R, b)) else
  if s = 5 then leaf R 4 (nI l.length) 0 l b else if s = 6 then leaf R 5 (nI l.length) 0 l b else
  if s = 7 then wrd n t R (sb t (b - a) a) b else (2, R, b)
def trn (n : Nat) (t : Nat → Nat) (R : Rd) (a : Nat) : Nat × Rd × Nat :=
  if (LKs n t a).2.2.1 = 0 then tkn n t R a (LKs n t a).1 (LKs n t a).2.1 (LKs n t a).2.2.2 else ((LKs n t a).2.2.1, R, 0)
/-- a whole object: the fault (0: none), the state, the place -/
def rdo (n : Nat) (t : Nat → Nat) : Nat → Rd → Nat → Nat × Rd × Nat
  | 0, R, k => (1, R, k)
  | m + 1, R, k => if (trn n t R (SK n t k)).1 = 0 then (if (trn n t R (SK n t k)).2.1.2.1 = 0 then (0, (trn n t R (SK n t k)).2.1, (trn n t R (SK n t k)).2.2) else rdo n t m (trn n t R (SK n t k)).2.1 (trn n t R (SK n t k)).2.2) else ((trn n t R (SK n t k)).1, (trn n t R (SK n t k)).2.1, if (trn n t R (SK n t k)).1 = 1 then n else SK n t k)
/-- what holds of a reader at any time -/
def OKR (R : Rd) : Prop := SZ R.1 ∧ R.2.1 ≤ 100 ∧ (∀ i, i < R.2.1 → R.2.2.1 i < R.1.1) ∧ (R.2.2.2 = true → 0 < R.2.1 ∧ R.1.2.1 0 (R.2.2.1 (R.2.1 - 1)) = nI 7)
theorem val1_ok {S : St} {d : Nat} {st : Nat → Nat} (h1 : SZ S) (h2 : d ≤ 100) (h3 : ∀ i, i < d → st i < S.1) : OKR (val1 S d st) := by
  unfold val1
  split
  · rename_i e
    exact ⟨h1, h2, h3, fun z => by cases z⟩
  · refine ⟨h1, h2, h3, fun z => ?_⟩
    have := of_decide_eq_true z
    refine ⟨this.1, ?_⟩
    show (if (0 : Nat) = 1 ∧ st (d - 1) = st (d - 1) then S.2.1 1 (st (d - 1)) + 1 else S.2.1 0 (st (d - 1))) = nI 7
    rw [if_neg (by omega)]
    exact this.2
theorem leaf_ok {R : Rd} {what b : Nat} {v x : Int32} {l : List Nat} (h : OKR R) : OKR (leaf R what v x l b).2.1 := by
  obtain ⟨h1, h2, h3, h4⟩ := h
  unfold leaf
  split
  · exact ⟨h1, h2, h3, h4⟩
  · refine val1_ok ⟨?_, ?_⟩ h2 (fun i hi => ?_)
    · show R.1.1 + 1 ≤ 4000; omega
    · show R.1.2.2.1 + l.length ≤ 32768; omega
    · have := h3 i hi
      show R.2.2.1 i < R.1.1 + 1; omega
theorem opn_ok {R : Rd} {what b : Nat} (h : OKR R) (hw : what = 6 ∨ what = 7) : OKR (opn R what b).2.1 := by
  obtain ⟨h1, h2, h3, h4⟩ := h
  unfold opn
  split
  · exact ⟨h1, h2, h3, h4⟩
  · split
    · exact ⟨h1, h2, h3, h4⟩
    · refine ⟨⟨?_, ?_⟩, ?_, fun i hi => ?_, fun z => ⟨?_, ?_⟩⟩
      · show R.1.1 + 1 ≤ 4000; omega
      · show R.1.2.2.1 + 0 ≤ 32768; exact h1.2
      · show R.2.1 + 1 ≤ 100; omega
      · show (if i = R.2.1 then R.1.1 else R.2.2.1 i) < R.1.1 + 1
        have hi' : i < R.2.1 + 1 := hi
        split
        · omega
        · have := h3 i (by omega)
          omega
      · show 0 < R.2.1 + 1; omega
      · have z' : what = 7 := of_decide_eq_true z
        show (if (if R.2.1 + 1 - 1 = R.2.1 then R.1.1 else R.2.2.1 (R.2.1 + 1 - 1)) = R.1.1 then _ else _) = nI 7
        rw [if_pos (by simp), if_pos rfl, z']
theorem cl1_ok {R : Rd} {b : Nat} (h : OKR R) : OKR (cl1 R b).2.1 := by
  obtain ⟨h1, h2, h3, h4⟩ := h
  exact val1_ok h1 (by omega) (fun i hi => h3 i (by omega))
theorem key1_ok {R : Rd} {b : Nat} {l : List Nat} (h : OKR R) : OKR (key1 R l b).2.1 := by
  obtain ⟨h1, h2, h3, h4⟩ := h
  unfold key1
  split
  · exact ⟨h1, h2, h3, h4⟩
  · refine ⟨⟨?_, ?_⟩, h2, fun i hi => ?_, fun z => by cases z⟩
    · show R.1.1 + 1 ≤ 4000; omega
    · show R.1.2.2.1 + l.length ≤ 32768; omega
    · have := h3 i hi
      show R.2.2.1 i < R.1.1 + 1; omega
theorem wrd_ok {n : Nat} {t : Nat → Nat} {R : Rd} {w : List Nat} {b : Nat} (h : OKR R) : OKR (wrd n t R w b).2.1 := by
  unfold wrd
  split
  · exact leaf_ok h
  · split
    · exact leaf_ok h
    · split
      · exact leaf_ok h
      · split
        · exact leaf_ok h
        · split
          · exact leaf_ok h
          · exact h
theorem tkn_ok {n : Nat} {t : Nat → Nat} {R : Rd} {a s b : Nat} {l : List Nat} (h : OKR R) : OKR (tkn n t R a s b l).2.1 := by
  unfold tkn
  split
  · split
    · exact cl1_ok h
    · split
      · exact key1_ok h
      · exact h
  · split
    · exact opn_ok h (Or.inl rfl)
    · split
      · exact opn_ok h (Or.inr rfl)
      · split
        · split
          · exact cl1_ok h
          · exact h
        · split
          · exact leaf_ok h
          · split
            · exact leaf_ok h
            · split
              · exact wrd_ok h
              · exact h
theorem trn_ok {n : Nat} {t : Nat → Nat} {R : Rd} {a : Nat} (h : OKR R) : OKR (trn n t R a).2.1 := by
  unfold trn
  split
  · exact tkn_ok h
  · exact h
/-- a token that is right goes on -/
theorem hxs_b (t : Nat → Nat) : ∀ m k h bad l, k ≤ (hxs t m k h bad l).1 ∧ (hxs t m k h bad l).1 ≤ k + m ∧ ((hxs t m k h bad l).2.1 = false → (hxs t m k h bad l).1 < k + m) := by
  intro m
  induction m with
  | zero => intro k h bad l; simp [hxs]
  | succ m ih =>
    intro k h bad l
    simp only [hxs]
    split
    · simp
    · split
      · split
        · obtain ⟨i1, i2, i3⟩ := ih (k + 1) h bad l
          exact ⟨by omega, by omega, fun z => by have := i3 z; omega⟩
        · obtain ⟨i1, i2, i3⟩ := ih (k + 1) h true l
          exact ⟨by omega, by omega, fun z => by have := i3 z; omega⟩
      · split
        · obtain ⟨i1, i2, i3⟩ := ih (k + 1) (hv (t k)) bad l
          exact ⟨by omega, by omega, fun z => by have := i3 z; omega⟩
        · obtain ⟨i1, i2, i3⟩ := ih (k + 1) 99 bad (l ++ [16 * h + hv (t k)])
          exact ⟨by omega, by omega, fun z => by have := i3 z; omega⟩
theorem str_b (n : Nat) (t : Nat → Nat) : ∀ m k d l, k ≤ (str n t m k d l).1 ∧ ((str n t m k d l).2.1 = false → (str n t m k d l).1 ≤ n) := by
  intro m
  induction m with
  | zero => intro k d l; simp [str]
  | succ m ih =>
    intro k d l
    simp only [str]
    split
    · simp
    · split
      · obtain ⟨i1, i2⟩ := ih (k + 1 + (esc n t (k + 1)).1) d (l ++ (esc n t (k + 1)).2)
        exact ⟨by omega, fun z => i2 z⟩
      · split
        · obtain ⟨i1, i2⟩ := ih (k + lnl n t k) d (l ++ [10])
          exact ⟨by omega, fun z => i2 z⟩
        · split
          · obtain ⟨i1, i2⟩ := ih (k + 1) (d + 1) (l ++ [40])
            exact ⟨by omega, fun z => i2 z⟩
          · split
            · split
              · refine ⟨by simp, fun _ => ?_⟩
                show k + 1 ≤ n
                omega
              · obtain ⟨i1, i2⟩ := ih (k + 1) (d - 1) (l ++ [41])
                exact ⟨by omega, fun z => i2 z⟩
            · obtain ⟨i1, i2⟩ := ih (k + 1) d (l ++ [t k])
              exact ⟨by omega, fun z => i2 z⟩
theorem tg_in {n a : Nat} {t : Nat → Nat} (h : ¬ tg n t a = 256) : a < n := by
  by_cases q : a < n
  · exact q
  · exact absurd (tg_ge (by omega)) h
theorem LKs_b {n a : Nat} {t : Nat → Nat} (hT : ∀ k, k < n → t k < 256) (h : (LKs n t a).2.2.1 = 0) : a < (LKs n t a).2.1 ∧ (LKs n t a).2.1 ≤ n := by
  unfold LKs at h ⊢
  split at h
  · cases h
  · rename_i g0
    have ha := tg_in g0
    rw [if_neg g0]
    split
    · exact ⟨by simp, ha⟩
    · split
      · exact ⟨by simp, ha⟩
      · rename_i g91 g93
        rw [if_neg g91, if_neg g93] at h
        split
        · rename_i g60
          rw [if_pos g60] at h
          split
          · rename_i g
            have := tg_in (n := n) (a := a + 1) (t := t) (by rw [g]; decide)
            exact ⟨by simp, this⟩
          · rename_i g
            rw [if_neg g] at h
            have q := hxs_b t (n - (a + 1)) (a + 1) 99 false []
            simp only at h ⊢
            split at h
            · cases h
            · rename_i g5
              have := q.2.2 (by simpa using g5)
              omega
        · rename_i g60
          rw [if_neg g60] at h
          split
          · split
            · rename_i g62 g
              have := tg_in (n := n) (a := a + 1) (t := t) (by rw [g]; decide)
              exact ⟨by simp, this⟩
            · exact ⟨by simp, ha⟩
          · rename_i g62
            rw [if_neg g62] at h
            split
            · rename_i g40
              rw [if_pos g40] at h
              have q := str_b n t n (a + 1) 1 []
              simp only at h ⊢
              split at h
              · cases h
              · rename_i g5
                have := q.2 (by simpa using g5)
                omega
            · split
              · have := WD_b (n := n) (t := t) (k := a + 1) (by omega)
                simp only
                omega
              · split
                · rename_i gr
                  have q := WD_pos (n := n) (t := t) ha
                  have q2 := WD_b (n := n) (t := t) (k := a) (by omega)
                  rw [tg_lt ha] at gr
                  have := q.1 gr
                  simp only
                  omega
                · exact ⟨by simp, ha⟩
theorem leaf_b {R : Rd} {what b : Nat} {v x : Int32} {l : List Nat} : (leaf R what v x l b).2.2 = b := by
  unfold leaf
  split <;> rfl
theorem wrd_b {n : Nat} {t : Nat → Nat} {R : Rd} {w : List Nat} {b : Nat} (hb : b ≤ n) : b ≤ (wrd n t R w b).2.2 ∧ (wrd n t R w b).2.2 ≤ n := by
  unfold wrd
  split
  · rename_i q hq
    rw [leaf_b]
    unfold rfr rf2 at hq
    split at hq
    · cases hq
    · split at hq
      · cases hq
      · rename_i q2 hq2
        split at hq2
        · cases hq2
        · split at hq2
          · have e := Option.some.inj hq
            have e2 := Option.some.inj hq2
            rw [← e, ← e2]
            have s1 := SK_b (n := n) (t := t) hb
            have w1 := WD_b (n := n) (t := t) s1.2
            have s2 := SK_b (n := n) (t := t) w1.2
            have w2 := WD_b (n := n) (t := t) s2.2
            simp only
            omega
          · cases hq2
  · split
    · rw [leaf_b]; omega
    · split
      · rw [leaf_b]; omega
      · split
        · rw [leaf_b]; omega
        · split
          · rw [leaf_b]; omega
          · simp only; omega
theorem trn_b {n : Nat} {t : Nat → Nat} {R : Rd} {a : Nat} (hT : ∀ k, k < n → t k < 256) (h : (trn n t R a).1 = 0) : a < (trn n t R a).2.2 ∧ (trn n t R a).2.2 ≤ n := by
  unfold trn at h ⊢
  split at h
  · rename_i g
    rw [if_pos g]
    have hb := LKs_b hT g
    have hc : ∀ b, (cl1 R b).2.2 = b := fun b => rfl
    have ho : ∀ b w, (opn R w b).2.2 = b := by
      intro b w
      unfold opn
      split
      · rfl
      · split <;> rfl
    have hk : ∀ b l, (key1 R l b).2.2 = b := by
      intro b l
      unfold key1
      split <;> rfl
    have hw := wrd_b (t := t) (R := R) (w := sb t ((LKs n t a).2.1 - a) a) hb.2
    unfold tkn
    split
    · split
      · rw [hc]; exact hb
      · split
        · rw [hk]; exact hb
        · exact hb
    · split
      · rw [ho]; exact hb
      · split
        · rw [ho]; exact hb
        · split
          · split
            · rw [hc]; exact hb
            · exact hb
          · split
            · rw [leaf_b]; exact hb
            · split
              · rw [leaf_b]; exact hb
              · split
                · omega
                · exact hb
  · rename_i g
    exact absurd h g
/-- how long a token's text can be -/
theorem hxs_l (t : Nat → Nat) : ∀ m k h bad l, (hxs t m k h bad l).2.2.2.length ≤ l.length + m + 1 := by
  intro m
  induction m with
  | zero => intro k h bad l; simp only [hxs]; split <;> simp
  | succ m ih =>
    intro k h bad l
    simp only [hxs]
    split
    · split
      · simp only; omega
      · simp only [List.length_append, List.length_singleton]; omega
    · split
      · split
        · have := ih (k + 1) h bad l; omega
        · have := ih (k + 1) h true l; omega
      · split
        · have := ih (k + 1) (hv (t k)) bad l; omega
        · have := ih (k + 1) 99 bad (l ++ [16 * h + hv (t k)]); simp at this; omega
theorem str_l (n : Nat) (t : Nat → Nat) : ∀ m k d l, (str n t m k d l).2.2.length ≤ l.length + m := by
  intro m
  induction m with
  | zero => intro k d l; simp [str]
  | succ m ih =>
    intro k d l
    simp only [str]
    split
    · simp
    · split
      · have := ih (k + 1 + (esc n t (k + 1)).1) d (l ++ (esc n t (k + 1)).2)
        have := (esc_b n t (k + 1)).2
        simp at *
        omega
      · split
        · have := ih (k + lnl n t k) d (l ++ [10]); simp at this; omega
        · split
          · have := ih (k + 1) (d + 1) (l ++ [40]); simp at this; omega
          · split
            · split
              · simp
              · have := ih (k + 1) (d - 1) (l ++ [41]); simp at this; omega
            · have := ih (k + 1) d (l ++ [t k]); simp at this; omega
theorem nam_l (n : Nat) (t : Nat → Nat) (e : Nat) : ∀ m k z l, (nam n t e m k z l).2.length ≤ l.length + m := by
  intro m
  induction m with
  | zero => intro k z l; simp [nam]
  | succ m ih =>
    intro k z l
    simp only [nam]
    split
    · simp
    · have := ih (k + (nmb n t k).1) (z || decide ((nmb n t k).2 = 0)) (l ++ [(nmb n t k).2])
      simp at this
      omega
theorem LKs_l (n : Nat) (t : Nat → Nat) (a : Nat) : (LKs n t a).2.2.2.length ≤ n + 1 := by
  have h1 := hxs_l t (n - (a + 1)) (a + 1) 99 false []
  have h2 := str_l n t n (a + 1) 1 []
  have h3 := nam_l n t (WD n t (a + 1)) n (a + 1) false []
  simp only [List.length_nil] at h1 h2 h3
  unfold LKs
  split
  · simp
  · split
    · simp
    · split
      · simp
      · split
        · split
          · simp
          · simp only; omega
        · split
          · split
            · simp
            · simp
          · split
            · simp only; omega
            · split
              · simp only; omega
              · split <;> simp
theorem ixl_b (most : Nat) : ∀ l v w, ixl most v l = some w → v ≤ most → w ≤ most := by
  intro l
  induction l with
  | nil => intro v w h hv; simp only [ixl] at h; have := Option.some.inj h; omega
  | cons c l ih =>
    intro v w h hv
    simp only [ixl] at h
    split at h
    · split at h
      · rename_i g
        exact ih _ _ h g
      · cases h
    · cases h
theorem IX_b {most v : Nat} {w : List Nat} (h : IX most w = some v) : v ≤ most := by
  unfold IX at h
  split at h
  · cases h
  · exact ixl_b most _ 0 v h (by omega)
