/-- the strings that the model asks: how long, which letters -/
def P_slen : Ct := fun av σ Q _ => match av with
  | [.ref j] => (60 ≤ j ∧ j < 72) ∧ Q (some (.int (Int32.ofNat (lenS.getD (j - 60) 0)))) σ
  | _ => False
def P_schr : Ct := fun av σ Q _ => match av with
  | [.ref j, .int i] => (60 ≤ j ∧ j < 72) ∧ vp_in i (lenS.getD (j - 60) 0) ∧ Q (some (.int ((bytS.getD (j - 60) []).getD i.toNatClampNeg 0))) σ
  | _ => False
