/-! sets of places as bits -/
def mkN : List Nat → Nat
  | [] => 0
  | a :: l => 2 ^ a ||| mkN l
theorem mk_bit (b : List Nat) (i : Nat) : (mkN b).testBit i = b.contains i := by
  induction b with
  | nil => unfold mkN; simp
  | cons a l ih =>
    unfold mkN
    rw [Nat.testBit_or, ih, Nat.testBit_two_pow, List.contains_cons]
    congr 1
    by_cases e : a = i
    · subst e; simp
    · rw [decide_eq_false e]; symm; exact beq_eq_false_iff_ne.mpr (fun q => e q.symm)
theorem mk_lt {b : List Nat} (h : ∀ z, z ∈ b → z < 12) : mkN b < 2 ^ 12 := by
  induction b with
  | nil => decide
  | cons a l ih =>
    unfold mkN
    refine Nat.or_lt_two_pow ?_ (ih (fun z hz => h z (List.mem_cons_of_mem _ hz)))
    exact Nat.pow_lt_pow_right (by decide) (h a (List.mem_cons_self ..))
theorem tb32 (n : Nat) : (nI n).toBitVec = BitVec.ofNat 32 n := rfl
theorem inj32 {a b : Int32} (h : a.toBitVec = b.toBitVec) : a = b := Int32.toBitVec_inj.mp h
theorem nI_or (a b : Nat) : nI a ||| nI b = nI (a ||| b) := by
  apply inj32
  show BitVec.ofNat 32 a ||| BitVec.ofNat 32 b = BitVec.ofNat 32 (a ||| b)
  apply BitVec.eq_of_getLsbD_eq
  intro i hi
  simp only [BitVec.getLsbD_or, BitVec.getLsbD_ofNat, Nat.testBit_or, hi, decide_true, Bool.true_and]
theorem nI_not {a b c : Nat} (h : ∀ i, i < 32 → c.testBit i = (a.testBit i && !b.testBit i)) : nI a &&& (nI b ^^^ (-1)) = nI c := by
  apply inj32
  show BitVec.ofNat 32 a &&& (BitVec.ofNat 32 b ^^^ BitVec.allOnes 32) = BitVec.ofNat 32 c
  apply BitVec.eq_of_getLsbD_eq
  intro i hi
  simp only [BitVec.getLsbD_and, BitVec.getLsbD_xor, BitVec.getLsbD_ofNat, BitVec.getLsbD_allOnes, hi, decide_true, Bool.true_and, h i hi]
  cases b.testBit i <;> simp
theorem shl1 : ∀ i, i < 12 → (1 : Int32) <<< (nI i &&& 31) = nI (2 ^ i) := by decide +kernel
theorem low1 : ∀ i, i < 12 → ∀ u : llMem, fx_J6_bitCount_0f7a4 u (nI (2 ^ i) - 1) = some (nI i) := by
  intro i hi u
  have : i = 0 ∨ i = 1 ∨ i = 2 ∨ i = 3 ∨ i = 4 ∨ i = 5 ∨ i = 6 ∨ i = 7 ∨ i = 8 ∨ i = 9 ∨ i = 10 ∨ i = 11 := by omega
  unfold fx_J6_bitCount_0f7a4
  simp only [lt_eq]
  rcases this with r | r | r | r | r | r | r | r | r | r | r | r <;> (subst r; decide +kernel)
/-- the differences of two sets -/
theorem mk_diff (R b : List Nat) : nI (mkN R) &&& (nI (mkN b) ^^^ (-1)) = nI (mkN (R.filter (fun z => !b.contains z))) := by
  apply nI_not
  intro i _
  rw [mk_bit, mk_bit, mk_bit]
  cases q : b.contains i
  · rw [Bool.not_false, Bool.and_true]
    cases q2 : R.contains i
    · exact contains_f (fun z => by
        have := (List.mem_filter.mp z).1
        rw [contains_t this] at q2; cases q2)
    · exact contains_t (List.mem_filter.mpr ⟨List.contains_iff_mem.mp q2, by rw [q]; rfl⟩)
  · rw [Bool.not_true, Bool.and_false]
    exact contains_f (fun z => by
      have := (List.mem_filter.mp z).2
      rw [q] at this; cases this)
theorem mk_zero {b : List Nat} : mkN b = 0 ↔ b = [] := by
  constructor
  · intro h
    cases b with
    | nil => rfl
    | cons a l =>
      have := mk_bit (a :: l) a
      rw [h, contains_t (List.mem_cons_self ..)] at this
      simp at this
  · rintro rfl; rfl
