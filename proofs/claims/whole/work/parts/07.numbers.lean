/-! numbers and bits of the two programs -/
theorem of_nor (a b : Nat) : nI a ||| nI b = nI (a ||| b) := by
  apply Int32.toBitVec_inj.1
  show BitVec.ofNat 32 a ||| BitVec.ofNat 32 b = BitVec.ofNat 32 (a ||| b)
  apply BitVec.eq_of_getLsbD_eq
  intro i hi
  simp [hi]
theorem of_bn {a i : Nat} (hi : i < 32) : bt (nI a) i = a.testBit i := by
  show (BitVec.ofNat 32 a).getLsbD i = a.testBit i
  rw [BitVec.getLsbD_ofNat, decide_eq_true hi, Bool.true_and]
theorem of_1b : ∀ i, i < 32 → bt 1 i = decide (i = 0) := by decide +kernel
theorem of_ubit (x : Int32) {k : Nat} (hk : k < 32) : ((x.toUInt32 >>> ((nI k).toUInt32 &&& Int32.toUInt32 31)).toInt32 &&& 1) = if bt x k = true then 1 else 0 := by
  apply b_ext
  intro i hi
  rw [b_and, b_ushr k hk, of_1b i hi]
  rcases Nat.eq_zero_or_pos i with z | z
  · subst z
    rw [decide_eq_true rfl, Bool.and_true, Nat.add_zero]
    cases h : bt x k with
    | true => rw [if_pos rfl]; exact (of_1b 0 (by decide)).symm
    | false => rw [if_neg Bool.false_ne_true]; exact (b_0 0).symm
  · rw [decide_eq_false (by omega : ¬ i = 0), Bool.and_false]
    cases h : bt x k with
    | true => rw [if_pos rfl, of_1b i hi, decide_eq_false (by omega : ¬ i = 0)]
    | false => rw [if_neg Bool.false_ne_true]; exact (b_0 i).symm
theorem of_sbit (x : Int32) {k : Nat} (hk : k < 32) : ((x >>> (nI k &&& 31)) &&& 1) = if bt x k = true then 1 else 0 := by
  apply b_ext
  intro i hi
  rw [b_and, b_sshr k hk x hi, of_1b i hi]
  rcases Nat.eq_zero_or_pos i with z | z
  · subst z
    rw [decide_eq_true rfl, Bool.and_true, Nat.add_zero, if_pos hk]
    cases h : bt x k with
    | true => rw [if_pos rfl]; exact (of_1b 0 (by decide)).symm
    | false => rw [if_neg Bool.false_ne_true]; exact (b_0 0).symm
  · rw [decide_eq_false (by omega : ¬ i = 0), Bool.and_false]
    cases h : bt x k with
    | true => rw [if_pos rfl, of_1b i hi, decide_eq_false (by omega : ¬ i = 0)]
    | false => rw [if_neg Bool.false_ne_true]; exact (b_0 i).symm
theorem of_10 : ¬ (1 : Int32) = 0 := by decide
theorem of_01 : ¬ (0 : Int32) = 1 := by decide
theorem of_if {a b : Bool} : ((if a = true then 1 else 0 : Int32) = if b = true then 1 else 0) ↔ a = b := by
  cases a <;> cases b <;> simp
theorem of_src : ∀ s, s < 32 → ∀ b, b < 32 → nI s &&& (nI b ^^^ (-1)) = nI (of_cl s b) := by decide +kernel
theorem of_shl : ∀ v, v < 32 → (1 : Int32) <<< (nI v &&& 31) = nI (2 ^ v) := by decide +kernel
theorem of_or32 {a b : Nat} (ha : a < 32) (hb : b < 32) : a ||| b < 32 := Nat.or_lt_two_pow (n := 5) ha hb
theorem of_xor32 {a b : Nat} (ha : a < 32) (hb : b < 32) : a ^^^ b < 32 := Nat.xor_lt_two_pow (n := 5) ha hb
theorem of_p32 {v : Nat} (hv : v < 5) : 2 ^ v < 32 := Nat.pow_lt_pow_right (n := 5) (by decide) hv
theorem of_mk_step (g : Nat → Bool) (s : Nat) (hs : s < 32) : of_mk g s ||| ((if g s = true then 1 else 0 : Int32) <<< (nI s &&& 31)) = of_mk g (s + 1) := by
  simp only [of_mk]
  cases h : g s with
  | true => rw [if_pos rfl, if_pos rfl]
  | false =>
    rw [if_neg Bool.false_ne_true, if_neg Bool.false_ne_true]
    apply b_ext
    intro i hi
    rw [b_or, b_shl s hs _ hi, b_0, Bool.and_false, Bool.or_false]
theorem of_big {n : Nat} (hn : n ≤ 5) : 2 ^ n < 2 ^ 31 := by
  have := of_32 hn
  omega
theorem of_le_refl (n : Nat) : nI n ≤ nI n := Int32.le_refl _
theorem of_nle {a b : Nat} (h : a < b) (hb : b < 2 ^ 31) : ¬ nI b ≤ nI a := nI_ge h hb
theorem of_m1 : nI 0 + (-1) < 0 := by decide
theorem of_neg1 {a : Nat} (h : a < 2 ^ 31) : ¬ nI a = -1 := by
  intro e
  have := nI_pos (n := a) h
  rw [e] at this
  exact this (by decide)
theorem of_ix {x : Int32} {n : Nat} (h0 : ¬ x < 0) (h : ¬ nI n ≤ x) (hn : n < 2 ^ 31) : ∃ j, j < n ∧ x = nI j := by
  rcases pk_ix x hn with z | z | z
  · exact absurd z h0
  · exact absurd z h
  · exact z
