/-! ===== PURE: bytes (256 is none) ===== -/
abbrev bI (b : Bool) : Int32 := bif b then 1 else 0
def vI (c : Nat) : Int32 := if c = 256 then -1 else nI c
def wh (b : Nat) : Bool := b == 0 || b == 9 || b == 10 || b == 12 || b == 13 || b == 32
def dl (b : Nat) : Bool := b == 40 || b == 41 || b == 60 || b == 62 || b == 91 || b == 93 || b == 123 || b == 125 || b == 47 || b == 37
def rg (b : Nat) : Bool := !(b == 256) && !(wh b) && !(dl b)
def dg (b : Nat) : Bool := Nat.ble 48 b && Nat.ble b 57
def oc8 (b : Nat) : Bool := Nat.ble 48 b && Nat.ble b 55
/-- a digit's worth, 99 if it is none -/
def dv (b : Nat) : Nat := bif dg b then b - 48 else 99
def ov (b : Nat) : Nat := bif oc8 b then b - 48 else 99
def hv (b : Nat) : Nat := bif dg b then b - 48 else bif (Nat.ble 65 b && Nat.ble b 70) then b - 55 else bif (Nat.ble 97 b && Nat.ble b 102) then b - 87 else 99
def wI (c : Nat) : Int32 := if c = 99 then -1 else nI c
def es (b : Nat) : Nat := bif b == 110 then 10 else bif b == 114 then 13 else bif b == 116 then 9 else bif b == 98 then 8 else bif b == 102 then 12 else b
theorem bIt {b : Bool} (h : ¬ bI b = 0) : b = true := by cases b with
  | true => rfl
  | false => exact absurd rfl h
theorem bIf {b : Bool} (h : bI b = 0) : b = false := by cases b with
  | false => rfl
  | true => exact absurd h (by decide)
theorem bo1 : bo (some (.int 1)) := Or.inr rfl
theorem bo0 : bo (some (.int 0)) := Or.inl rfl
def hxd (d : Nat) : Nat := bif Nat.ble d 9 then 48 + d else 55 + d
set_option maxRecDepth 100000 in
theorem sp_X0_isWhite {σ : Sg} {Q : Po} {X : Xo} {b : Nat} (hb : b < 257) (h : ∀ r, r = bI (wh b) → Q (some (.int r)) σ) : P_X0_isWhite [.int (vI b)] σ Q X := by
  refine ⟨rfl, fun I hI => run_in (stop := fun _ => false) hI 80 ?_⟩
  have hA : True := trivial
  repeat' (first | (apply And.intro <;> intro h1 <;> replace hA := And.intro h1 hA <;> clear h1))
  all_goals (first | refine h _ ?_ | refine ⟨bo1, h _ ?_⟩ | refine ⟨bo0, h _ ?_⟩)
  all_goals (clear h; revert b; decide +kernel)
set_option maxRecDepth 100000 in
theorem sp_X0_isRegular {σ : Sg} {Q : Po} {X : Xo} {b : Nat} (hb : b < 257) (h : ∀ r, r = bI (rg b) → Q (some (.int r)) σ) : P_X0_isRegular [.int (vI b)] σ Q X := by
  refine ⟨rfl, fun I hI => run_in (stop := fun _ => false) hI 80 ?_⟩
  have hA : True := trivial
  repeat' (first | (apply And.intro <;> intro h1 <;> replace hA := And.intro h1 hA <;> clear h1))
  all_goals (first | refine h _ ?_ | refine ⟨bo1, h _ ?_⟩ | refine ⟨bo0, h _ ?_⟩)
  all_goals (clear h; revert b; decide +kernel)
set_option maxRecDepth 100000 in
theorem sp_X0_digitOf {σ : Sg} {Q : Po} {X : Xo} {b : Nat} (hb : b < 257) (h : ∀ r, r = wI (dv b) → Q (some (.int r)) σ) : P_X0_digitOf [.int (vI b)] σ Q X := by
  refine ⟨rfl, fun I hI => run_in (stop := fun _ => false) hI 80 ?_⟩
  have hA : True := trivial
  repeat' (first | (apply And.intro <;> intro h1 <;> replace hA := And.intro h1 hA <;> clear h1))
  all_goals (first | refine h _ ?_ | refine ⟨bo1, h _ ?_⟩ | refine ⟨bo0, h _ ?_⟩)
  all_goals (clear h; revert b; decide +kernel)
set_option maxRecDepth 100000 in
theorem sp_X0_octalOf {σ : Sg} {Q : Po} {X : Xo} {b : Nat} (hb : b < 257) (h : ∀ r, r = wI (ov b) → Q (some (.int r)) σ) : P_X0_octalOf [.int (vI b)] σ Q X := by
  refine ⟨rfl, fun I hI => run_in (stop := fun _ => false) hI 80 ?_⟩
  have hA : True := trivial
  repeat' (first | (apply And.intro <;> intro h1 <;> replace hA := And.intro h1 hA <;> clear h1))
  all_goals (first | refine h _ ?_ | refine ⟨bo1, h _ ?_⟩ | refine ⟨bo0, h _ ?_⟩)
  all_goals (clear h; revert b; decide +kernel)
set_option maxRecDepth 100000 in
theorem sp_X0_hexOf {σ : Sg} {Q : Po} {X : Xo} {b : Nat} (hb : b < 257) (h : ∀ r, r = wI (hv b) → Q (some (.int r)) σ) : P_X0_hexOf [.int (vI b)] σ Q X := by
  refine ⟨rfl, fun I hI => run_in (stop := fun _ => false) hI 80 ?_⟩
  have hA : True := trivial
  repeat' (first | (apply And.intro <;> intro h1 <;> replace hA := And.intro h1 hA <;> clear h1) | (refine ⟨Nat.le_refl _, sp_X0_digitOf hb (fun r hr => ?_)⟩; subst hr))
  all_goals (first | refine h _ ?_ | refine ⟨bo1, h _ ?_⟩ | refine ⟨bo0, h _ ?_⟩)
  all_goals (clear h; revert b; decide +kernel)
set_option maxRecDepth 100000 in
theorem sp_X6_escaped {σ : Sg} {Q : Po} {X : Xo} {b : Nat} (hb : b < 257) (h : ∀ r, r = vI (es b) → Q (some (.int r)) σ) : P_X6_escaped [.int (vI b)] σ Q X := by
  refine ⟨rfl, fun I hI => run_in (stop := fun _ => false) hI 80 ?_⟩
  have hA : True := trivial
  repeat' (first | (apply And.intro <;> intro h1 <;> replace hA := And.intro h1 hA <;> clear h1))
  all_goals (first | refine h _ ?_ | refine ⟨bo1, h _ ?_⟩ | refine ⟨bo0, h _ ?_⟩)
  all_goals (clear h; revert b; decide +kernel)
set_option maxRecDepth 100000 in
theorem sp_X2_hexDigit {σ : Sg} {Q : Po} {X : Xo} {b : Nat} (hb : b < 16) (h : ∀ r, r = nI (hxd b) → Q (some (.int r)) σ) : P_X2_hexDigit [.int (nI b)] σ Q X := by
  refine ⟨rfl, fun I hI => run_in (stop := fun _ => false) hI 80 ?_⟩
  have hA : True := trivial
  repeat' (first | (apply And.intro <;> intro h1 <;> replace hA := And.intro h1 hA <;> clear h1))
  all_goals (first | refine h _ ?_ | refine ⟨bo1, h _ ?_⟩ | refine ⟨bo0, h _ ?_⟩)
  all_goals (clear h; revert b; decide +kernel)
set_option maxRecDepth 100000 in
theorem sp_X8_isWhite {σ : Sg} {Q : Po} {X : Xo} {b : Nat} (hb : b < 257) (h : ∀ r, r = bI (wh b) → Q (some (.int r)) σ) : P_X8_isWhite [.int (vI b)] σ Q X := by
  refine ⟨rfl, fun I hI => run_in (stop := fun _ => false) hI 80 ?_⟩
  have hA : True := trivial
  repeat' (first | (apply And.intro <;> intro h1 <;> replace hA := And.intro h1 hA <;> clear h1))
  all_goals (first | refine h _ ?_ | refine ⟨bo1, h _ ?_⟩ | refine ⟨bo0, h _ ?_⟩)
  all_goals (clear h; revert b; decide +kernel)
set_option maxRecDepth 100000 in
theorem sp_X8_isDelimiter {σ : Sg} {Q : Po} {X : Xo} {b : Nat} (hb : b < 257) (h : ∀ r, r = bI (dl b) → Q (some (.int r)) σ) : P_X8_isDelimiter [.int (vI b)] σ Q X := by
  refine ⟨rfl, fun I hI => run_in (stop := fun _ => false) hI 80 ?_⟩
  have hA : True := trivial
  repeat' (first | (apply And.intro <;> intro h1 <;> replace hA := And.intro h1 hA <;> clear h1))
  all_goals (first | refine h _ ?_ | refine ⟨bo1, h _ ?_⟩ | refine ⟨bo0, h _ ?_⟩)
  all_goals (clear h; revert b; decide +kernel)
set_option maxRecDepth 100000 in
theorem sp_X8_isRegular {σ : Sg} {Q : Po} {X : Xo} {b : Nat} (hb : b < 257) (h : ∀ r, r = bI (rg b) → Q (some (.int r)) σ) : P_X8_isRegular [.int (vI b)] σ Q X := by
  refine ⟨rfl, fun I hI => run_in (stop := fun _ => false) hI 80 ?_⟩
  have hA : True := trivial
  repeat' (first | (apply And.intro <;> intro h1 <;> replace hA := And.intro h1 hA <;> clear h1) | (refine ⟨Nat.le_refl _, sp_X8_isWhite hb (fun r hr => ?_)⟩; subst hr) | (refine ⟨Nat.le_refl _, sp_X8_isDelimiter hb (fun r hr => ?_)⟩; subst hr))
  all_goals (first | refine h _ ?_ | refine ⟨bo1, h _ ?_⟩ | refine ⟨bo0, h _ ?_⟩)
  all_goals (clear h; revert b; decide +kernel)
set_option maxRecDepth 100000 in
theorem sp_X8_isDigit {σ : Sg} {Q : Po} {X : Xo} {b : Nat} (hb : b < 257) (h : ∀ r, r = bI (dg b) → Q (some (.int r)) σ) : P_X8_isDigit [.int (vI b)] σ Q X := by
  refine ⟨rfl, fun I hI => run_in (stop := fun _ => false) hI 80 ?_⟩
  have hA : True := trivial
  repeat' (first | (apply And.intro <;> intro h1 <;> replace hA := And.intro h1 hA <;> clear h1))
  all_goals (first | refine h _ ?_ | refine ⟨bo1, h _ ?_⟩ | refine ⟨bo0, h _ ?_⟩)
  all_goals (clear h; revert b; decide +kernel)
set_option maxRecDepth 100000 in
theorem sp_X8_isOctal {σ : Sg} {Q : Po} {X : Xo} {b : Nat} (hb : b < 257) (h : ∀ r, r = bI (oc8 b) → Q (some (.int r)) σ) : P_X8_isOctal [.int (vI b)] σ Q X := by
  refine ⟨rfl, fun I hI => run_in (stop := fun _ => false) hI 80 ?_⟩
  have hA : True := trivial
  repeat' (first | (apply And.intro <;> intro h1 <;> replace hA := And.intro h1 hA <;> clear h1))
  all_goals (first | refine h _ ?_ | refine ⟨bo1, h _ ?_⟩ | refine ⟨bo0, h _ ?_⟩)
  all_goals (clear h; revert b; decide +kernel)
set_option maxRecDepth 100000 in
theorem sp_X8_hex {σ : Sg} {Q : Po} {X : Xo} {b : Nat} (hb : b < 257) (h : ∀ r, r = wI (hv b) → Q (some (.int r)) σ) : P_X8_hex [.int (vI b)] σ Q X := by
  refine ⟨rfl, fun I hI => run_in (stop := fun _ => false) hI 80 ?_⟩
  have hA : True := trivial
  repeat' (first | (apply And.intro <;> intro h1 <;> replace hA := And.intro h1 hA <;> clear h1) | (refine ⟨Nat.le_refl _, sp_X8_isDigit hb (fun r hr => ?_)⟩; subst hr))
  all_goals (first | refine h _ ?_ | refine ⟨bo1, h _ ?_⟩ | refine ⟨bo0, h _ ?_⟩)
  all_goals (clear h; revert b; decide +kernel)
