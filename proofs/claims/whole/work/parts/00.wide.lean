/-! a name of the float laws: the round is read over the whole library from here on -/
theorem w0_good : Jvm.FP.Core.Good Jvm.FP.Core.b32 := Jvm.FP.Core.good_b32
