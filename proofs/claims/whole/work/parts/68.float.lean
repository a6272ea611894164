/-! averages as floats -/
def avF (p q : Int32) : UInt32 := FP.fdiv (FP.i2f p) (FP.i2f q)
theorem avF_g {ρ : Type} {p : Int32} {q : Nat} (hp : -999 ≤ p.toInt ∧ p.toInt ≤ 40) (hq : 1 ≤ q ∧ q ≤ 10) (y : Option ρ) : g32 (avF p (nI q)) y = y := sorry
theorem avF_cmp {p p' : Int32} {q q' : Nat} (hp : -999 ≤ p.toInt ∧ p.toInt ≤ 40) (hq : 1 ≤ q ∧ q ≤ 10) (hp' : -999 ≤ p'.toInt ∧ p'.toInt ≤ 40) (hq' : 1 ≤ q' ∧ q' ≤ 10) : FP.fcmp (avF p (nI q)) (avF p' (nI q')) = some (compare (p.toInt * q') (p'.toInt * q)) := sorry
theorem avF_0 : avF 0 (nI 1) = FP.fconst0 := by decide +kernel
