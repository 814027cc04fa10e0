/-! ===== THE ABSTRACT MACHINE: values, locals, cells; one step of it as a transformer of predicates ===== -/
/-- the state: numbers of cell j at place k (fields of objects, elements of arrays), the cells that two fields of the page name, the law's out -/
abbrev Sg : Type := (Nat → Nat → Int32) × (Nat → Nat → Nat) × (Nat → Int64)
abbrev Lc : Type := List (Option Value)
abbrev Jt : Type := Nat → Nat → Lc → List Value → Sg → Prop
abbrev Po : Type := Option Value → Sg → Prop
abbrev Xo : Type := String → Sg → Prop
abbrev Ct : Type := List Value → Sg → Po → Xo → Prop
abbrev Ent : Type := Instr × Nat × Nat × Int32 × Int64
def upd2 (M : Nat → Nat → Int32) (j k : Nat) (v : Int32) : Nat → Nat → Int32 := fun i => if i = j then upd (M j) k v else M i
def sM (σ : Sg) (j k : Nat) (v : Int32) : Sg := (upd2 σ.1 j k v, σ.2)
def sR (σ : Sg) (j k r : Nat) : Sg := (σ.1, fun i n => if i = j ∧ n = k then r else σ.2.1 i n, σ.2.2)
def sO (σ : Sg) (i : Nat) (v : Int64) : Sg := (σ.1, σ.2.1, vp_updL σ.2.2 i v)
/-- a whole row replaced -/
def sA (σ : Sg) (j : Nat) (f : Nat → Int32) : Sg := (fun i => if i = j then f else σ.1 i, σ.2)
def gl : Lc → Nat → Option Value
  | [], _ => none
  | x :: _, 0 => x
  | _ :: xs, n + 1 => gl xs n
def ml : Lc → Nat → (Option Value → Option Value) → Lc
  | [], _, _ => []
  | x :: xs, 0, f => f x :: xs
  | x :: xs, n + 1, f => x :: ml xs n f
def kl (o : Option Value) : Option Value := match o with
  | some (.long _) => none
  | some (.double _) => none
  | some v => some v
  | none => none
/-- a store of one word at k: a long before it is gone -/
def st1 (l : Lc) (k : Nat) (o : Option Value) : Lc := match k with
  | 0 => ml l 0 (fun _ => o)
  | k + 1 => ml (ml l k kl) (k + 1) (fun _ => o)
/-- a store of two words at k -/
def st2 (l : Lc) (k : Nat) (o : Option Value) : Lc := ml (st1 l k o) (k + 1) (fun _ => none)
/-- which number in the list of classes an object cell has -/
def oc (j : Nat) : Nat := match j with
  | 0 => 6
  | 1 => 4
  | 2 => 3
  | 3 => 2
  | 4 => 5
  | 5 => 0
  | 6 => 1
  | 7 => 7
  | _ => 99
/-- arrays: 1 int, 2 byte, 3 long, 4 static byte, 0 none; the length -/
def ak (j : Nat) : Nat × Nat := match j with
  | 8 => (2, 65536)
  | 9 => (2, 4000)
  | 10 => (1, 4000)
  | 11 => (1, 4000)
  | 12 => (1, 4000)
  | 13 => (1, 4000)
  | 14 => (1, 4000)
  | 15 => (2, 32768)
  | 16 => (1, 100)
  | 17 => (1, 100)
  | 18 => (2, 65536)
  | 19 => (2, 65536)
  | 20 => (1, 65536)
  | 21 => (1, 4000)
  | 22 => (1, 4000)
  | 23 => (1, 4000)
  | 24 => (1, 4000)
  | 25 => (1, 4000)
  | 26 => (1, 32768)
  | 27 => (1, 4000)
  | 28 => (1, 4000)
  | 29 => (1, 65536)
  | 30 => (1, 65536)
  | 31 => (1, 65536)
  | 32 => (1, 100)
  | 33 => (3, 1)
  | 40 => (4, 4)
  | 41 => (4, 4)
  | 42 => (4, 5)
  | 43 => (4, 1)
  | 44 => (4, 3)
  | 45 => (4, 6)
  | 46 => (4, 6)
  | _ => (0, 0)
/-- the fields: how many, and of each: (0, _) int, (1, _) boolean, (2, r) the cell r, (3, _) the cell that the state names -/
def fl (j : Nat) : List (Nat × Nat) := match j with
  | 0 => [(2, 1), (2, 2), (2, 3), (2, 6)]
  | 1 => [(2, 8), (0, 0)]
  | 2 => [(2, 9), (2, 10), (2, 11), (2, 12), (2, 13), (2, 14), (2, 15), (0, 0), (0, 0), (0, 0), (0, 0)]
  | 3 => [(2, 1), (2, 2), (2, 4), (2, 5), (2, 16), (0, 0), (1, 0), (0, 0), (0, 0), (1, 0), (0, 0), (0, 0), (0, 0)]
  | 4 => [(2, 1), (2, 2), (0, 0), (0, 0), (0, 0), (0, 0)]
  | 5 => [(1, 0), (0, 0)]
  | 6 => [(2, 2), (2, 17), (0, 0), (3, 0), (0, 0), (3, 0), (0, 0), (1, 0)]
  | 7 => [(0, 0), (0, 0), (2, 20), (0, 0), (2, 21), (2, 22), (2, 23), (2, 24), (2, 25), (0, 0), (2, 26), (0, 0), (2, 27), (2, 28), (1, 0), (0, 0), (0, 0), (0, 0), (0, 0), (2, 29), (0, 0), (2, 30), (0, 0), (0, 0), (0, 0), (0, 0), (0, 0), (2, 31), (0, 0), (0, 0), (2, 32), (1, 0), (0, 0)]
  | _ => []
def fg : List (Nat × Nat) → Nat → Nat × Nat
  | [], _ => (9, 0)
  | x :: _, 0 => x
  | _ :: xs, n + 1 => fg xs n
/-- the bytes of the static words -/
def wb (w : Nat) : List Int32 := match w with
  | 40 => [110, 117, 108, 108]
  | 41 => [116, 114, 117, 101]
  | 42 => [102, 97, 108, 115, 101]
  | 43 => [82]
  | 44 => [111, 98, 106]
  | 45 => [101, 110, 100, 111, 98, 106]
  | 46 => [115, 116, 114, 101, 97, 109]
  | _ => []
/-- an array's element, whatever the array -/
def el (σ : Sg) (j : Nat) (i : Int32) : Int32 := if j < 40 then σ.1 j i.toNatClampNeg else (wb j).getD i.toNatClampNeg 0
/-- how long an instruction is (switches apart) -/
def ln (i : Instr) : Nat := match i with
  | .aload _ => 2
  | .astore _ => 2
  | .iload _ => 2
  | .istore _ => 2
  | .lload _ => 2
  | .lstore _ => 2
  | .bipush _ => 2
  | .ldc _ => 2
  | .newarray _ => 2
  | .sipush _ => 3
  | .ldc_w _ => 3
  | .ldc2_w _ => 3
  | .getfield _ => 3
  | .putfield _ => 3
  | .getstatic _ => 3
  | .invokevirtual _ => 3
  | .invokestatic _ => 3
  | .invokespecial _ => 3
  | .new _ => 3
  | .goto _ => 3
  | .if_icmp _ _ => 3
  | .ifCond _ _ => 3
  | .iinc _ _ => 3
  | _ => 1
def cmpI (c : Jvm.ClassFile.Cond) (x y : Int32) (A B : Prop) : Prop := match c with
  | .eq => (x = y → A) ∧ (¬ x = y → B)
  | .ne => (¬ x = y → A) ∧ (x = y → B)
  | .lt => (x < y → A) ∧ (¬ x < y → B)
  | .ge => (y ≤ x → A) ∧ (¬ y ≤ x → B)
  | .gt => (y < x → A) ∧ (¬ y < x → B)
  | .le => (x ≤ y → A) ∧ (¬ x ≤ y → B)
def cmp0 (c : Jvm.ClassFile.Cond) (x : Int32) (A B : Prop) : Prop := match c with
  | .eq => (x = 0 → A) ∧ (¬ x = 0 → B)
  | .ne => (¬ x = 0 → A) ∧ (x = 0 → B)
  | .lt => (x < 0 → A) ∧ (¬ x < 0 → B)
  | .ge => (0 ≤ x → A) ∧ (¬ 0 ≤ x → B)
  | .gt => (0 < x → A) ∧ (¬ 0 < x → B)
  | .le => (x ≤ 0 → A) ∧ (¬ x ≤ 0 → B)
def ldI (o : Option Value) (k : Int32 → Prop) : Prop := match o with
  | some (.int x) => k x
  | _ => False
def ldL (o : Option Value) (k : Int64 → Prop) : Prop := match o with
  | some (.long x) => k x
  | _ => False
def ldR (o : Option Value) (k : Nat → Prop) : Prop := match o with
  | some (.ref x) => k x
  | _ => False
def po1 (st : List Value) (k : Int32 → List Value → Prop) : Prop := match st with
  | .int x :: r => k x r
  | _ => False
def po2 (st : List Value) (k : Int32 → Int32 → List Value → Prop) : Prop := match st with
  | .int y :: .int x :: r => k x y r
  | _ => False
def poL (st : List Value) (k : Int64 → List Value → Prop) : Prop := match st with
  | .long x :: r => k x r
  | _ => False
def poLL (st : List Value) (k : Int64 → Int64 → List Value → Prop) : Prop := match st with
  | .long y :: .long x :: r => k x y r
  | _ => False
def poR (st : List Value) (k : Nat → List Value → Prop) : Prop := match st with
  | .ref x :: r => k x r
  | _ => False
/-- the cases of a switch, in their order, then what is left -/
def sw (x : Int32) : List (Int32 × Nat) → (Nat → Prop) → Nat → Prop
  | [], k, d => k d
  | (v, t) :: r, k, d => (x = v → k t) ∧ (¬ x = v → sw x r k d)
/-- a load out of array j -/
def aLd (σ : Sg) (ok : Prop) (j : Nat) (i : Int32) (k : Int32 → Prop) : Prop := ok ∧ vp_in i (ak j).2 ∧ k (el σ j i)
/-- getfield of slot y of the object cell j, a thing of the kind x -/
def gF (σ : Sg) (j x y : Nat) (k : Value → Prop) : Prop := bif Nat.beq (oc j) x then (match fg (fl j) y with
  | (0, _) => k (.int (σ.1 j y))
  | (1, _) => k (.int (σ.1 j y))
  | (2, r) => k (.ref r)
  | (3, _) => k (.ref (σ.2.1 j y))
  | _ => False) else False
/-- putfield -/
def pF (σ : Sg) (j x y : Nat) (v : Value) (k : Sg → Prop) : Prop := bif Nat.beq (oc j) x then (match fg (fl j) y, v with
  | (0, _), .int z => k (sM σ j y z)
  | (1, _), .int z => (z = 0 ∨ z = 1) ∧ k (sM σ j y z)
  | (3, _), .ref r => k (sR σ j y r)
  | _, _ => False) else False
/-- the exception E leaves the call at pc: caught by the row that hd names (the handler begins with a store into a local), or on to the caller -/
def hX (hd : String → Option (Nat × Nat)) (Xt : String → Nat → Sg → Prop) (J : Jt) (l : Lc) (T : Nat) (E : String) (σ : Sg) : Prop := match hd E with
  | some (h, k) => J T h (st1 l k none) [] σ
  | none => Xt E T σ
/-- ONE STEP. tb: the instructions, with numbers of ours (x, y), constants (c, d); ce: the callees (what they make, what they do); hd: handlers; sc: the script; xn: exceptions; mc: what may be made; Rt, Xt: the ends -/
def Step (tb : Nat → Option Ent) (ce : Nat → Nat × Ct) (hd : Nat → String → Option (Nat × Nat)) (sc : Nat × (Nat → Int32)) (xn : Nat → String) (mc : Nat) (sws : Nat → List (Int32 × Nat))
    (Rt : Option Value → Nat → Sg → Prop) (Xt : String → Nat → Sg → Prop) (J : Jt) : Jt := fun T pc l st σ =>
  match tb pc with
  | none => False
  | some (i, x, y, c, d) => match i with
    | .aload_n k => ldR (gl l k.val) fun j => J T (pc + 1) l (.ref j :: st) σ
    | .aload k => ldR (gl l k) fun j => J T (pc + 2) l (.ref j :: st) σ
    | .iload_n k => ldI (gl l k.val) fun v => J T (pc + 1) l (.int v :: st) σ
    | .iload k => ldI (gl l k) fun v => J T (pc + 2) l (.int v :: st) σ
    | .lload_n k => ldL (gl l k.val) fun v => J T (pc + 1) l (.long v :: st) σ
    | .lload k => ldL (gl l k) fun v => J T (pc + 2) l (.long v :: st) σ
    | .astore_n k => poR st fun j r => J T (pc + 1) (st1 l k.val (some (.ref j))) r σ
    | .astore k => poR st fun j r => J T (pc + 2) (st1 l k (some (.ref j))) r σ
    | .istore_n k => po1 st fun v r => J T (pc + 1) (st1 l k.val (some (.int v))) r σ
    | .istore k => po1 st fun v r => J T (pc + 2) (st1 l k (some (.int v))) r σ
    | .lstore_n k => poL st fun v r => J T (pc + 1) (st2 l k.val (some (.long v))) r σ
    | .lstore k => poL st fun v r => J T (pc + 2) (st2 l k (some (.long v))) r σ
    | .iinc k _ => ldI (gl l k) fun v => J T (pc + 3) (st1 l k (some (.int (v + c)))) st σ
    | .iconst _ => J T (pc + 1) l (.int c :: st) σ
    | .bipush _ => J T (pc + 2) l (.int c :: st) σ
    | .sipush _ => J T (pc + 3) l (.int c :: st) σ
    | .lconst _ => J T (pc + 1) l (.long d :: st) σ
    | .ldc2_w _ => J T (pc + 3) l (.long d :: st) σ
    | .ldc _ => bif Nat.beq x 0 then J T (pc + 2) l (.int c :: st) σ else J T (pc + 2) l (.ref x :: st) σ
    | .ldc_w _ => J T (pc + 3) l (.ref x :: st) σ
    | .getstatic _ => J T (pc + 3) l (.ref x :: st) σ
    | .dup => match st with
      | .ref j :: r => J T (pc + 1) l (.ref j :: .ref j :: r) σ
      | .int v :: r => J T (pc + 1) l (.int v :: .int v :: r) σ
      | _ => False
    | .dup2 => match st with
      | .int v :: .ref j :: r => J T (pc + 1) l (.int v :: .ref j :: .int v :: .ref j :: r) σ
      | _ => False
    | .iadd => po2 st fun v w r => J T (pc + 1) l (.int (v + w) :: r) σ
    | .isub => po2 st fun v w r => J T (pc + 1) l (.int (v - w) :: r) σ
    | .imul => po2 st fun v w r => J T (pc + 1) l (.int (v * w) :: r) σ
    | .idiv => po2 st fun v w r => ¬ w = 0 ∧ J T (pc + 1) l (.int (v / w) :: r) σ
    | .irem => po2 st fun v w r => ¬ w = 0 ∧ J T (pc + 1) l (.int (v - v / w * w) :: r) σ
    | .iand => po2 st fun v w r => J T (pc + 1) l (.int (v &&& w) :: r) σ
    | .ishr => po2 st fun v w r => J T (pc + 1) l (.int (v >>> (w &&& 31)) :: r) σ
    | .iushr => po2 st fun v w r => J T (pc + 1) l (.int ((v.toUInt32 >>> (w.toUInt32 &&& Int32.toUInt32 31)).toInt32) :: r) σ
    | .i2l => po1 st fun v r => J T (pc + 1) l (.long v.toInt64 :: r) σ
    | .i2b => po1 st fun v r => J T (pc + 1) l (.int v.toInt8.toInt32 :: r) σ
    | .l2i => poL st fun v r => J T (pc + 1) l (.int v.toInt32 :: r) σ
    | .ladd => poLL st fun v w r => J T (pc + 1) l (.long (v + w) :: r) σ
    | .lsub => poLL st fun v w r => J T (pc + 1) l (.long (v - w) :: r) σ
    | .lmul => poLL st fun v w r => J T (pc + 1) l (.long (v * w) :: r) σ
    | .ldiv => poLL st fun v w r => ¬ w = 0 ∧ J T (pc + 1) l (.long (v / w) :: r) σ
    | .lrem => poLL st fun v w r => ¬ w = 0 ∧ J T (pc + 1) l (.long (v - v / w * w) :: r) σ
    | .lneg => poL st fun v r => J T (pc + 1) l (.long (-v) :: r) σ
    | .lcmp => poLL st fun v w r => J T (pc + 1) l (.int (lg_cmp v w) :: r) σ
    | .goto _ => J T x l st σ
    | .if_icmp q _ => po2 st fun v w r => cmpI q v w (J T x l r σ) (J T (pc + 3) l r σ)
    | .ifCond q _ => po1 st fun v r => cmp0 q v (J T x l r σ) (J T (pc + 3) l r σ)
    | .tableswitch _ _ _ _ => po1 st fun v r => sw v (sws pc) (fun t => J T t l r σ) x
    | .lookupswitch _ _ => po1 st fun v r => sw v (sws pc) (fun t => J T t l r σ) x
    | .getfield _ => poR st fun j r => gF σ j x y fun v => J T (pc + 3) l (v :: r) σ
    | .putfield _ => match st with
      | v :: .ref j :: r => pF σ j x y v fun σ => J T (pc + 3) l r σ
      | _ => False
    | .arraylength => poR st fun j r => bif Nat.beq j 50 then (x = 1 ∧ J T (pc + 1) l (.int (Int32.ofNat sc.1) :: r) σ) else (¬ (ak j).1 = 0 ∧ J T (pc + 1) l (.int (Int32.ofNat (ak j).2) :: r) σ)
    | .iaload => po1 st fun v r => poR r fun j r => bif Nat.beq j 50 then (x = 1 ∧ vp_in v sc.1 ∧ J T (pc + 1) l (.int (sc.2 v.toNatClampNeg) :: r) σ) else aLd σ ((ak j).1 = 1) j v fun z => J T (pc + 1) l (.int z :: r) σ
    | .baload => po1 st fun v r => poR r fun j r => aLd σ ((ak j).1 = 2 ∨ (ak j).1 = 4) j v fun z => J T (pc + 1) l (.int z :: r) σ
    | .laload => po1 st fun v r => poR r fun j r => (ak j).1 = 3 ∧ vp_in v (ak j).2 ∧ J T (pc + 1) l (.long (σ.2.2 v.toNatClampNeg) :: r) σ
    | .iastore => po2 st fun v w r => poR r fun j r => (ak j).1 = 1 ∧ vp_in v (ak j).2 ∧ J T (pc + 1) l r (sM σ j v.toNatClampNeg w)
    | .bastore => po2 st fun v w r => poR r fun j r => (ak j).1 = 2 ∧ vp_in v (ak j).2 ∧ J T (pc + 1) l r (sM σ j v.toNatClampNeg (vp_nar .byte w))
    | .lastore => poL st fun w r => po1 r fun v r => poR r fun j r => (ak j).1 = 3 ∧ vp_in v (ak j).2 ∧ J T (pc + 1) l r (sO σ v.toNatClampNeg w)
    | .invokevirtual _ => bif Nat.ble y st.length && Nat.ble (st.drop y).length 4 then (T + (ce x).1 ≤ mc ∧ (ce x).2 (st.take y).reverse σ (fun r σ => J (T + (ce x).1) (pc + 3) l (r.toList ++ st.drop y) σ) (fun E σ => hX (hd pc) Xt J l (T + (ce x).1) E σ)) else False
    | .invokestatic _ => bif Nat.ble y st.length && Nat.ble (st.drop y).length 4 then (T + (ce x).1 ≤ mc ∧ (ce x).2 (st.take y).reverse σ (fun r σ => J (T + (ce x).1) (pc + 3) l (r.toList ++ st.drop y) σ) (fun E σ => hX (hd pc) Xt J l (T + (ce x).1) E σ)) else False
    | .new _ => bif Nat.ble st.length 0 then (T + 1 ≤ mc ∧ Xt (xn pc) (T + 1) σ) else False
    | .ireturn => match st with
      | [.int v] => Rt (some (.int v)) T σ
      | _ => False
    | .lreturn => match st with
      | [.long v] => Rt (some (.long v)) T σ
      | _ => False
    | .return_ => match st with
      | [] => Rt none T σ
      | _ => False
    | _ => False
/-- closed under steps -/
def Cl (F : Jt → Jt) (I : Jt) : Prop := ∀ J : Jt, (∀ T pc l st σ, J T pc l st σ → I T pc l st σ) → ∀ T pc l st σ, F J T pc l st σ → I T pc l st σ
/-- what holds of every closed predicate -/
def Lf (F : Jt → Jt) : Jt := fun T pc l st σ => ∀ I : Jt, Cl F I → I T pc l st σ
/-- n steps, but none from the pcs that stop names -/
def run (F : Jt → Jt) (I : Jt) (stop : Nat → Bool) : Nat → Jt
  | 0 => I
  | n + 1 => fun T pc l st σ => F (fun T pc l st σ => bif stop pc then I T pc l st σ else run F I stop n T pc l st σ) T pc l st σ
theorem run_in {F : Jt → Jt} {I : Jt} {stop : Nat → Bool} (hI : Cl F I) : ∀ (n : Nat) {T pc : Nat} {l : Lc} {st : List Value} {σ : Sg}, run F I stop n T pc l st σ → I T pc l st σ := by
  intro n
  induction n with
  | zero => intro T pc l st σ h; exact h
  | succ n ih =>
    intro T pc l st σ h
    refine hI _ (fun T pc l st σ h => ?_) T pc l st σ h
    cases hs : stop pc with
    | true => rw [hs] at h; exact h
    | false => rw [hs] at h; exact ih h
