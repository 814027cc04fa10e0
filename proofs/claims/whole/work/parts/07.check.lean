/-! ===== a table of instructions held against the code ===== -/
def isSw (i : Instr) : Bool := match i with
  | .tableswitch _ _ _ _ => true
  | .lookupswitch _ _ => true
  | _ => false
def chkD (cc : ByteArray) (pc : Nat) (i : Instr) : Bool := match decode cc pc with
  | .ok (i', n) => decide (i' = i) && (isSw i || decide (n = ln i))
  | .error _ => false
def fldOk (own : String) (idx x y : Nat) (w : Bool) : Bool := match vwCl[x]? with
  | some (_, T, _) => (decide (Cond.fieldLink own idx (T y).1 (T y).2.1 (T y).2.2.1 ∈ lw_tbl) || decide (Cond.fieldLinkNest own idx (T y).1 (T y).2.1 (T y).2.2.1 "SheetObjects" ∈ lw_tbl)) && (!w || !(T y).2.2.2)
  | none => false
def tsw (pc : Nat) : Int → List Int → List (Int × Int)
  | _, [] => []
  | lo, o :: r => (lo, (pc : Int) + o) :: tsw pc (lo + 1) r
def chkA (own : String) (nL : Nat) (sws : Nat → List (Int32 × Nat)) (pc : Nat) (e : Ent) : Bool := match e with
  | (i, x, y, c, d) => match i with
    | .astore_n k => decide (k.val < nL)
    | .astore k => decide (k < nL)
    | .istore_n k => decide (k.val < nL)
    | .istore k => decide (k < nL)
    | .lstore_n k => decide (k.val + 1 < nL)
    | .lstore k => decide (k + 1 < nL)
    | .iinc _ n => decide (Int32.ofInt n = c)
    | .iconst n => decide (Int32.ofInt n = c)
    | .bipush n => decide ((Int8.ofInt n).toInt32 = c)
    | .sipush n => decide ((Int16.ofInt n).toInt32 = c)
    | .lconst n => decide (Int64.ofNat n.val = d)
    | .ldc idx => bif Nat.beq x 0 then decide (Cond.constant own idx c ∈ lw_tbl) else (own == "SheetObjectsModel" && strT.any (fun q => q.1 == idx && q.2.2 == x))
    | .ldc_w idx => (own == "SheetObjectsModel" && strT.any (fun q => q.1 == idx && q.2.2 == x))
    | .ldc2_w idx => decide (Cond.constantLong own idx d ∈ lw_tbl)
    | .goto o => decide ((pc : Int) + o = (x : Int))
    | .if_icmp _ o => decide ((pc : Int) + o = (x : Int))
    | .ifCond _ o => decide ((pc : Int) + o = (x : Int))
    | .getfield idx => decide (x < 8) && fldOk own idx x y false
    | .putfield idx => decide (x < 8) && fldOk own idx x y true
    | .getstatic idx => decide (40 ≤ x) && decide (x < 47) && (decide (Cond.fieldLink own idx "SheetObjects" (wn x) "[B" ∈ lw_tbl) || decide (Cond.fieldLinkNest own idx "SheetObjects" (wn x) "[B" "SheetObjects" ∈ lw_tbl))
    | .tableswitch df lo hi os => decide ((sws pc).map (fun q => (q.1.toInt, (q.2 : Int))) = tsw pc lo os.toList) && decide (hi + 1 = lo + os.toList.length) && decide ((pc : Int) + df = (x : Int))
    | .lookupswitch df ps => decide ((sws pc).map (fun q => (q.1.toInt, (q.2 : Int))) = ps.toList.map (fun q => (q.1, (pc : Int) + q.2))) && (ps.toList.zip (ps.toList.drop 1)).all (fun (a, next) => a.1 < next.1) && decide ((pc : Int) + df = (x : Int))
    | _ => true
def chk (own : String) (cc : ByteArray) (nL : Nat) (sws : Nat → List (Int32 × Nat)) (pc : Nat) (e : Ent) : Bool := chkD cc pc e.1 && chkA own nL sws pc e
theorem chk_d {own : String} {cc : ByteArray} {nL : Nat} {sws : Nat → List (Int32 × Nat)} {pc : Nat} {e : Ent} (h : chk own cc nL sws pc e = true) : ∃ n, decode cc pc = .ok (e.1, n) ∧ (isSw e.1 = false → n = ln e.1) := by
  have h1 : chkD cc pc e.1 = true := (Bool.and_eq_true_iff.mp h).1
  unfold chkD at h1
  split at h1
  · rename_i i' n hd
    simp only [Bool.and_eq_true, Bool.or_eq_true, decide_eq_true_eq] at h1
    obtain ⟨rfl, h2⟩ := h1
    exact ⟨n, hd, fun hs => by rcases h2 with h2 | h2; (· rw [hs] at h2; cases h2); (· exact h2)⟩
  · cases h1
theorem chk_a {own : String} {cc : ByteArray} {nL : Nat} {sws : Nat → List (Int32 × Nat)} {pc : Nat} {e : Ent} (h : chk own cc nL sws pc e = true) : chkA own nL sws pc e = true := (Bool.and_eq_true_iff.mp h).2
/-- the table of a method: entries below N -/
def cutN (N : Nat) (t : Nat → Option Ent) : Nat → Option Ent := fun pc => bif Nat.ble N pc then none else t pc
theorem cutN_chk {N : Nat} {t : Nat → Option Ent} {f : Nat → Ent → Bool} (h : (List.range N).all (fun pc => match t pc with | some e => f pc e | none => true) = true) : ∀ pc e, cutN N t pc = some e → f pc e = true := by
  intro pc e he
  unfold cutN at he
  cases hb : Nat.ble N pc with
  | true => rw [hb] at he; cases he
  | false =>
    rw [hb] at he
    have hlt : pc < N := by
      rcases Nat.lt_or_ge pc N with q | q
      · exact q
      · rw [Nat.ble_eq_true_of_le q] at hb; cases hb
    have h1 := List.all_eq_true.mp h pc (List.mem_range.mpr hlt)
    have he' : t pc = some e := he
    rw [he'] at h1
    exact h1
/-! what a step asks of stack and locals -/
theorem ldI_s {o : Option Value} {k : Int32 → Prop} (h : ldI o k) : ∃ x, o = some (.int x) ∧ k x := by
  unfold ldI at h
  split at h
  · exact ⟨_, rfl, h⟩
  · exact h.elim
theorem ldL_s {o : Option Value} {k : Int64 → Prop} (h : ldL o k) : ∃ x, o = some (.long x) ∧ k x := by
  unfold ldL at h
  split at h
  · exact ⟨_, rfl, h⟩
  · exact h.elim
theorem ldR_s {o : Option Value} {k : Nat → Prop} (h : ldR o k) : ∃ x, o = some (.ref x) ∧ k x := by
  unfold ldR at h
  split at h
  · exact ⟨_, rfl, h⟩
  · exact h.elim
theorem po1_s {st : List Value} {k : Int32 → List Value → Prop} (h : po1 st k) : ∃ x r, st = .int x :: r ∧ k x r := by
  unfold po1 at h
  split at h
  · exact ⟨_, _, rfl, h⟩
  · exact h.elim
theorem po2_s {st : List Value} {k : Int32 → Int32 → List Value → Prop} (h : po2 st k) : ∃ x y r, st = .int y :: .int x :: r ∧ k x y r := by
  unfold po2 at h
  split at h
  · exact ⟨_, _, _, rfl, h⟩
  · exact h.elim
theorem poL_s {st : List Value} {k : Int64 → List Value → Prop} (h : poL st k) : ∃ x r, st = .long x :: r ∧ k x r := by
  unfold poL at h
  split at h
  · exact ⟨_, _, rfl, h⟩
  · exact h.elim
theorem poLL_s {st : List Value} {k : Int64 → Int64 → List Value → Prop} (h : poLL st k) : ∃ x y r, st = .long y :: .long x :: r ∧ k x y r := by
  unfold poLL at h
  split at h
  · exact ⟨_, _, _, rfl, h⟩
  · exact h.elim
theorem poR_s {st : List Value} {k : Nat → List Value → Prop} (h : poR st k) : ∃ x r, st = .ref x :: r ∧ k x r := by
  unfold poR at h
  split at h
  · exact ⟨_, _, rfl, h⟩
  · exact h.elim
theorem sw_s {x : Int32} {k : Nat → Prop} {d : Nat} : ∀ {L : List (Int32 × Nat)}, sw x L k d → (∃ (n : Nat) (q : Int32 × Nat), L[n]? = some q ∧ x = q.1 ∧ k q.2 ∧ ∀ (n' : Nat) (q' : Int32 × Nat), n' < n → L[n']? = some q' → ¬ x = q'.1) ∨ ((∀ q ∈ L, ¬ x = q.1) ∧ k d) := by
  intro L
  induction L with
  | nil => intro h; exact Or.inr ⟨fun q hq => (nomatch hq), h⟩
  | cons z r ih =>
    intro h
    obtain ⟨v, t⟩ := z
    by_cases hx : x = v
    · exact Or.inl ⟨0, (v, t), rfl, hx, h.1 hx, fun n' q' hn => absurd hn (Nat.not_lt_zero _)⟩
    · rcases ih (h.2 hx) with ⟨n, q, h1, h2, h3, h4⟩ | ⟨h1, h2⟩
      · refine Or.inl ⟨n + 1, q, by simpa using h1, h2, h3, fun n' q' hn hq => ?_⟩
        cases n' with
        | zero => simp at hq; rw [← hq]; exact hx
        | succ m => exact h4 m q' (by omega) (by simpa using hq)
      · refine Or.inr ⟨fun q hq => ?_, h2⟩
        rcases List.mem_cons.mp hq with e | hq
        · rw [e]; exact hx
        · exact h1 q hq
theorem tsw_at {pc : Nat} : ∀ {os : List Int} {lo : Int} {n : Nat} {q : Int × Int}, (tsw pc lo os)[n]? = some q → q.1 = lo + n ∧ ∃ o, os[n]? = some o ∧ q.2 = (pc : Int) + o := by
  intro os
  induction os with
  | nil => intro lo n q h; simp [tsw] at h
  | cons o r ih =>
    intro lo n q h
    cases n with
    | zero => simp [tsw] at h; subst h; exact ⟨by simp, o, rfl, rfl⟩
    | succ n =>
      simp only [tsw, List.getElem?_cons_succ] at h
      obtain ⟨h1, o', h2, h3⟩ := ih h
      exact ⟨by rw [h1]; push_cast; omega, o', by simpa using h2, h3⟩
theorem tsw_len {pc : Nat} : ∀ {os : List Int} {lo : Int}, (tsw pc lo os).length = os.length := by
  intro os
  induction os with
  | nil => intro lo; rfl
  | cons o r ih => intro lo; simp [tsw, ih]
