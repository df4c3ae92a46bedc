/-! making: the class and the reference, run -/
def mkA : Option xHp := xRun 15000 50 1 0 (zEntry 1 [(2, 1)]) [] [[]]
theorem mkA_s : mkA.isSome = true := by decide +kernel
