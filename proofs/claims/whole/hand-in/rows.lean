section
/-! rows of the kit, pasted (kit/rows/PURE-ROWS, BITS) -/
theorem pk_us {f : Nat → Int32} {k : Nat} {x : Int32} : upd f k x k = x := if_pos rfl
theorem pk_un {f : Nat → Int32} {k j : Nat} {x : Int32} (h : j ≠ k) : upd f k x j = f j := if_neg h
theorem pk_sub {a b : Nat} (h : b ≤ a) : nI a - nI b = nI (a - b) := by
  obtain ⟨c, rfl⟩ : ∃ c, a = c + b := ⟨a - b, by omega⟩
  rw [← nI_add, Int32.add_sub_cancel, Nat.add_sub_cancel]
theorem pk_m1 (n : Nat) : nI (n + 1) + (-1) = nI n := by
  rw [← nI_1, Int32.add_assoc, show (1 : Int32) + (-1) = 0 from rfl, Int32.add_zero]
theorem pk_ix (x : Int32) {n : Nat} (hn : n < 2 ^ 31) : x < 0 ∨ nI n ≤ x ∨ ∃ j : Nat, j < n ∧ x = nI j := by
  by_cases h : x < 0
  · exact Or.inl h
  · obtain ⟨j, hj, rfl⟩ := nI_of h
    by_cases h2 : j < n
    · exact Or.inr (Or.inr ⟨j, h2, rfl⟩)
    · exact Or.inr (Or.inl (nI_le (by omega) hj))
theorem pk_le {x y : Int32} {A B : Prop} (a b : Nat) (f : a ≤ b → A) (g : b < a → B) (hx : x = nI a := by rfl) (hy : y = nI b := by rfl) (ha : a < 2 ^ 31 := by omega) (hb : b < 2 ^ 31 := by omega) : (x ≤ y → A) ∧ (¬ x ≤ y → B) := by
  subst hx hy
  rw [nI_leI ha hb]
  exact ⟨f, fun z => g (by omega)⟩
theorem pk_lt {x y : Int32} {A B : Prop} (a b : Nat) (f : a < b → A) (g : b ≤ a → B) (hx : x = nI a := by rfl) (hy : y = nI b := by rfl) (ha : a < 2 ^ 31 := by omega) (hb : b < 2 ^ 31 := by omega) : (x < y → A) ∧ (¬ x < y → B) := by
  subst hx hy
  rw [nI_ltI ha hb]
  exact ⟨f, fun z => g (by omega)⟩
theorem pk_eq {x y : Int32} {A B : Prop} (a b : Nat) (f : a = b → A) (g : a ≠ b → B) (hx : x = nI a := by rfl) (hy : y = nI b := by rfl) (ha : a < 2 ^ 31 := by omega) (hb : b < 2 ^ 31 := by omega) : (x = y → A) ∧ (¬ x = y → B) := by
  subst hx hy
  rw [nI_eq ha hb]
  exact ⟨f, g⟩
theorem pk_in {x : Int32} (n N : Nat) (h : n < N) (hx : x = nI n := by rfl) (hN : N < 2 ^ 31 := by omega) : vp_in x N := by
  subst hx
  exact vp_in_nI h hN
theorem pk_cl {x : Int32} (n : Nat) (hx : x = nI n := by rfl) (h : n < 2 ^ 31 := by omega) : x.toNatClampNeg = n := by
  subst hx
  exact nI_clamp h
theorem pk_tn {n : Nat} (h : n < 2 ^ 32) : (nI n).toBitVec.toNat = n := Nat.mod_eq_of_lt h
def bt (x : Int32) (i : Nat) : Bool := x.toBitVec.getLsbD i
theorem b_ext {x y : Int32} (h : ∀ i, i < 32 → bt x i = bt y i) : x = y := Int32.toBitVec_inj.mp (BitVec.eq_of_getLsbD_eq (fun i hi => h i hi))
theorem b_or (x y : Int32) (i : Nat) : bt (x ||| y) i = (bt x i || bt y i) := by unfold bt; rw [Int32.toBitVec_or, BitVec.getLsbD_or]
theorem b_and (x y : Int32) (i : Nat) : bt (x &&& y) i = (bt x i && bt y i) := by unfold bt; rw [Int32.toBitVec_and, BitVec.getLsbD_and]
theorem b_xor (x y : Int32) (i : Nat) : bt (x ^^^ y) i = (bt x i ^^ bt y i) := by unfold bt; rw [Int32.toBitVec_xor, BitVec.getLsbD_xor]
theorem b_big {x : Int32} {i : Nat} (h : 32 ≤ i) : bt x i = false := BitVec.getLsbD_of_ge _ _ h
theorem b_m1 : ∀ i, i < 32 → bt (-1) i = true := by decide +kernel
theorem b_0 (i : Nat) : bt 0 i = false := BitVec.getLsbD_zero
theorem s_l : ∀ n, n < 32 → ((nI n &&& 31).toBitVec.smod 32).toNat = n := by decide +kernel
theorem s_u : ∀ n, n < 32 → (((nI n).toUInt32 &&& Int32.toUInt32 31).toBitVec % 32).toNat = n := by decide +kernel
theorem b_shl (n : Nat) (hn : n < 32) (x : Int32) {i : Nat} (hi : i < 32) : bt (x <<< (nI n &&& 31)) i = (decide (n ≤ i) && bt x (i - n)) := by
  unfold bt
  rw [Int32.toBitVec_shiftLeft]
  show (x.toBitVec <<< ((nI n &&& 31).toBitVec.smod 32).toNat).getLsbD i = _
  rw [s_l n hn, BitVec.getLsbD_shiftLeft]
  rcases Nat.lt_or_ge i n with h | h
  · simp [h, Nat.not_le.mpr h]
  · simp [hi, h, Nat.not_lt.mpr h]
theorem b_ushr (n : Nat) (hn : n < 32) (x : Int32) (i : Nat) : bt ((x.toUInt32 >>> ((nI n).toUInt32 &&& Int32.toUInt32 31)).toInt32) i = bt x (n + i) := by
  show (x.toUInt32 >>> ((nI n).toUInt32 &&& Int32.toUInt32 31)).toBitVec.getLsbD i = x.toUInt32.toBitVec.getLsbD (n + i)
  rw [UInt32.toBitVec_shiftRight]
  show (x.toUInt32.toBitVec >>> (((nI n).toUInt32 &&& Int32.toUInt32 31).toBitVec % 32).toNat).getLsbD i = _
  rw [s_u n hn, BitVec.getLsbD_ushiftRight]
theorem b_sshr (n : Nat) (hn : n < 32) (x : Int32) {i : Nat} (hi : i < 32) : bt (x >>> (nI n &&& 31)) i = if n + i < 32 then bt x (n + i) else bt x 31 := by
  unfold bt
  rw [Int32.toBitVec_shiftRight]
  show (x.toBitVec.sshiftRight ((nI n &&& 31).toBitVec.smod 32).toNat).getLsbD i = _
  rw [s_l n hn, BitVec.getLsbD_sshiftRight, BitVec.msb_eq_getLsbD_last]
  simp [hi]
theorem nx_and (a b : Nat) : nI a &&& nI b = nI (a &&& b) := by
  apply Int32.toBitVec_inj.1
  show BitVec.ofNat 32 a &&& BitVec.ofNat 32 b = BitVec.ofNat 32 (a &&& b)
  apply BitVec.eq_of_getLsbD_eq
  intro i hi
  simp [hi]
theorem nx_xor (a b : Nat) : nI a ^^^ nI b = nI (a ^^^ b) := by
  apply Int32.toBitVec_inj.1
  show BitVec.ofNat 32 a ^^^ BitVec.ofNat 32 b = BitVec.ofNat 32 (a ^^^ b)
  apply BitVec.eq_of_getLsbD_eq
  intro i hi
  simp [hi]
end
section
/-! sets of variables as numbers; costs of orders; the recursion over sets against the search over orders -/
def of_cost (w : Nat → Nat → Nat) : Nat → List Nat → Nat
  | _, [] => 0
  | b, v :: l => w b v + of_cost w (b ||| 2 ^ v) l
def of_ok (n : Nat) (al : Nat → Nat → Bool) : Nat → List Nat → Bool
  | b, [] => decide (b = 2 ^ n - 1)
  | b, v :: l => decide (v < n) && (!b.testBit v && (al b v && of_ok n al (b ||| 2 ^ v) l))
theorem of_ok_cons {n : Nat} {al : Nat → Nat → Bool} {b v : Nat} {l : List Nat} : of_ok n al b (v :: l) = true ↔ v < n ∧ b.testBit v = false ∧ al b v = true ∧ of_ok n al (b ||| 2 ^ v) l = true := by
  simp [of_ok]
theorem of_ok_nil {n : Nat} {al : Nat → Nat → Bool} {b : Nat} : of_ok n al b [] = true ↔ b = 2 ^ n - 1 := by
  simp [of_ok]
/-- how many of the variables below k are in b -/
def of_cn (b : Nat) : Nat → Nat
  | 0 => 0
  | k + 1 => of_cn b k + (if b.testBit k = true then 1 else 0)
theorem of_cn_or {b v : Nat} (h : b.testBit v = false) : ∀ k, of_cn (b ||| 2 ^ v) k = of_cn b k + (if v < k then 1 else 0) := by
  intro k
  induction k with
  | zero => simp [of_cn]
  | succ k ih =>
    simp only [of_cn]
    rw [ih, Nat.testBit_or, Nat.testBit_two_pow]
    rcases Nat.lt_trichotomy v k with e | e | e
    · have h1 : v < k + 1 := by omega
      have h2 : ¬ v = k := by omega
      rw [if_pos e, if_pos h1, decide_eq_false h2, Bool.or_false]
      omega
    · subst e
      rw [h]
      simp
    · have h1 : ¬ v < k + 1 := by omega
      have h2 : ¬ v = k := by omega
      have h3 : ¬ v < k := by omega
      rw [if_neg h3, if_neg h1, decide_eq_false h2, Bool.or_false]
      omega
theorem of_cn_le (b : Nat) : ∀ k, of_cn b k ≤ k := by
  intro k
  induction k with
  | zero => exact Nat.le_refl _
  | succ k ih =>
    simp only [of_cn]
    split <;> omega
theorem of_cn_full {b : Nat} : ∀ k, of_cn b k = k → ∀ v, v < k → b.testBit v = true := by
  intro k
  induction k with
  | zero => intro _ v hv; omega
  | succ k ih =>
    intro h v hv
    simp only [of_cn] at h
    have hl := of_cn_le b k
    split at h
    · rename_i ht
      rcases Nat.lt_or_ge v k with z | z
      · exact ih (by omega) v z
      · have e : v = k := by omega
        rw [e]; exact ht
    · omega
theorem of_cn_all {b : Nat} : ∀ k, (∀ v, v < k → b.testBit v = true) → of_cn b k = k := by
  intro k
  induction k with
  | zero => intro _; rfl
  | succ k ih =>
    intro h
    simp only [of_cn]
    rw [ih (fun v hv => h v (by omega)), if_pos (h k (by omega))]
theorem of_hi {b n i : Nat} (hb : b < 2 ^ n) (hi : n ≤ i) : b.testBit i = false := Nat.testBit_lt_two_pow (Nat.lt_of_lt_of_le hb (Nat.pow_le_pow_right (by decide) hi))
theorem of_full {n b : Nat} (hb : b < 2 ^ n) (h : of_cn b n = n) : b = 2 ^ n - 1 := by
  apply Nat.eq_of_testBit_eq
  intro i
  rw [Nat.testBit_two_pow_sub_one]
  rcases Nat.lt_or_ge i n with z | z
  · rw [of_cn_full n h i z, decide_eq_true z]
  · rw [of_hi hb z, decide_eq_false (by omega)]
theorem of_cn_m1 (n : Nat) : of_cn (2 ^ n - 1) n = n := of_cn_all n (fun v hv => by rw [Nat.testBit_two_pow_sub_one, decide_eq_true hv])
theorem of_cn_0 : ∀ k, of_cn 0 k = 0 := by
  intro k
  induction k with
  | zero => rfl
  | succ k ih => simp [of_cn, ih]
theorem of_or_lt {b v n : Nat} (hb : b < 2 ^ n) (hv : v < n) : b ||| 2 ^ v < 2 ^ n := Nat.or_lt_two_pow hb (Nat.pow_lt_pow_right (by decide) hv)
theorem of_or_gt {b v : Nat} (h : b.testBit v = false) : b < b ||| 2 ^ v := by
  apply Nat.lt_of_le_of_ne Nat.left_le_or
  intro e
  have z : (b ||| 2 ^ v).testBit v = true := by rw [Nat.testBit_or, Nat.testBit_two_pow, decide_eq_true rfl, Bool.or_true]
  rw [← e, h] at z
  exact Bool.noConfusion z
theorem of_ok_len {n : Nat} {al : Nat → Nat → Bool} : ∀ (l : List Nat) (b : Nat), of_ok n al b l = true → of_cn b n + l.length = n := by
  intro l
  induction l with
  | nil =>
    intro b h
    rw [of_ok_nil] at h
    rw [h, of_cn_m1]; rfl
  | cons v l ih =>
    intro b h
    rw [of_ok_cons] at h
    have h2 := ih _ h.2.2.2
    rw [of_cn_or h.2.1, if_pos h.1] at h2
    rw [List.length_cons]
    omega
/-- all orders of the variables outside b, in the order of the alphabet -/
def of_en (n : Nat) : Nat → Nat → List (List Nat)
  | 0, _ => [[]]
  | k + 1, b => (List.range n).flatMap (fun v => if b.testBit v = true then [] else (of_en n k (b ||| 2 ^ v)).map (fun l => v :: l))
theorem of_en_s {n k b : Nat} {l : List Nat} : l ∈ of_en n (k + 1) b ↔ ∃ v l', v < n ∧ b.testBit v = false ∧ l' ∈ of_en n k (b ||| 2 ^ v) ∧ l = v :: l' := by
  rw [of_en, List.mem_flatMap]
  constructor
  · rintro ⟨v, hv, h⟩
    cases e : b.testBit v with
    | true =>
      rw [if_pos e] at h
      simp at h
    | false =>
      rw [if_neg (by rw [e]; exact Bool.false_ne_true), List.mem_map] at h
      obtain ⟨l', h1, h2⟩ := h
      exact ⟨v, l', List.mem_range.mp hv, e, h1, h2.symm⟩
  · rintro ⟨v, l', hv, e, h1, h2⟩
    refine ⟨v, List.mem_range.mpr hv, ?_⟩
    rw [if_neg (by rw [e]; exact Bool.false_ne_true), List.mem_map]
    exact ⟨l', h1, h2.symm⟩
theorem of_en_of_ok {n : Nat} {al : Nat → Nat → Bool} : ∀ (l : List Nat) (b : Nat), of_ok n al b l = true → l ∈ of_en n l.length b := by
  intro l
  induction l with
  | nil => intro b _; simp [of_en]
  | cons v l ih =>
    intro b h
    rw [of_ok_cons] at h
    rw [List.length_cons, of_en_s]
    exact ⟨v, l, h.1, h.2.1, ih _ h.2.2.2, rfl⟩
theorem of_ok_of_en {n : Nat} : ∀ (k b : Nat) (l : List Nat), b < 2 ^ n → of_cn b n + k = n → l ∈ of_en n k b → of_ok n (fun _ _ => true) b l = true := by
  intro k
  induction k with
  | zero =>
    intro b l hb hc hl
    simp [of_en] at hl
    rw [hl, of_ok_nil]
    exact of_full hb hc
  | succ k ih =>
    intro b l hb hc hl
    rw [of_en_s] at hl
    obtain ⟨v, l', hv, e, h1, rfl⟩ := hl
    rw [of_ok_cons]
    refine ⟨hv, e, rfl, ih _ l' (of_or_lt hb hv) ?_ h1⟩
    rw [of_cn_or e, if_pos hv]
    omega
theorem of_cost_le {w : Nat → Nat → Nat} {c : Nat} (hw : ∀ b v, w b v ≤ c) : ∀ (l : List Nat) (b : Nat), of_cost w b l ≤ c * l.length := by
  intro l
  induction l with
  | nil => intro b; exact Nat.zero_le _
  | cons v l ih =>
    intro b
    have h1 := hw b v
    have h2 := ih (b ||| 2 ^ v)
    simp only [of_cost, List.length_cons, Nat.mul_add, Nat.mul_one]
    omega
/-! the least -/
def of_la (al : Nat → Nat → Bool) (w : Nat → Nat → Nat) (r : Nat → Nat) (b : Nat) : Nat → Nat
  | 0 => 1000000
  | v + 1 => if b.testBit v = false ∧ al b v = true ∧ w b v + r (b ||| 2 ^ v) < of_la al w r b v then w b v + r (b ||| 2 ^ v) else of_la al w r b v
theorem of_la_le {al : Nat → Nat → Bool} {w : Nat → Nat → Nat} {r : Nat → Nat} {b : Nat} : ∀ k, of_la al w r b k ≤ 1000000 := by
  intro k
  induction k with
  | zero => exact Nat.le_refl _
  | succ k ih =>
    simp only [of_la]
    split
    · omega
    · exact ih
theorem of_la_min {al : Nat → Nat → Bool} {w : Nat → Nat → Nat} {r : Nat → Nat} {b : Nat} : ∀ k v, v < k → b.testBit v = false → al b v = true → of_la al w r b k ≤ w b v + r (b ||| 2 ^ v) := by
  intro k
  induction k with
  | zero => intro v hv; omega
  | succ k ih =>
    intro v hv h1 h2
    simp only [of_la]
    rcases Nat.lt_or_ge v k with z | z
    · have h3 := ih v z h1 h2
      split <;> omega
    · have e : v = k := by omega
      subst e
      split
      · exact Nat.le_refl _
      · rename_i h4
        have h5 : ¬ (w b v + r (b ||| 2 ^ v) < of_la al w r b v) := fun z => h4 ⟨h1, h2, z⟩
        omega
theorem of_la_att {al : Nat → Nat → Bool} {w : Nat → Nat → Nat} {r : Nat → Nat} {b : Nat} : ∀ k, of_la al w r b k = 1000000 ∨ ∃ v, v < k ∧ b.testBit v = false ∧ al b v = true ∧ of_la al w r b k = w b v + r (b ||| 2 ^ v) := by
  intro k
  induction k with
  | zero => exact Or.inl rfl
  | succ k ih =>
    simp only [of_la]
    split
    · rename_i h
      exact Or.inr ⟨k, by omega, h.1, h.2.1, rfl⟩
    · rcases ih with h | ⟨v, h1, h2, h3, h4⟩
      · exact Or.inl h
      · exact Or.inr ⟨v, by omega, h2, h3, h4⟩
def of_F (n : Nat) (al : Nat → Nat → Bool) (w : Nat → Nat → Nat) (r : Nat → Nat) : Prop := r (2 ^ n - 1) = 0 ∧ ∀ b, b < 2 ^ n - 1 → r b = of_la al w r b n
theorem of_A {n : Nat} {al : Nat → Nat → Bool} {w : Nat → Nat → Nat} {r : Nat → Nat} (F : of_F n al w r) : ∀ (l : List Nat) (b : Nat), b < 2 ^ n → of_ok n al b l = true → r b ≤ of_cost w b l := by
  intro l
  induction l with
  | nil =>
    intro b _ h
    rw [of_ok_nil] at h
    rw [h, F.1]
    exact Nat.zero_le _
  | cons v l ih =>
    intro b hb h
    rw [of_ok_cons] at h
    have h1 := ih _ (of_or_lt hb h.1) h.2.2.2
    have h2 := of_or_gt h.2.1
    have h3 := of_or_lt hb h.1
    rw [F.2 b (by omega)]
    have h4 := of_la_min (al := al) (w := w) (r := r) (b := b) n v h.1 h.2.1 h.2.2.1
    simp only [of_cost]
    omega
theorem of_B {n : Nat} {al : Nat → Nat → Bool} {w : Nat → Nat → Nat} {r : Nat → Nat} (F : of_F n al w r) : ∀ d b, 2 ^ n - b ≤ d → b < 2 ^ n → r b < 1000000 → ∃ l, of_ok n al b l = true ∧ of_cost w b l = r b := by
  intro d
  induction d with
  | zero => intro b h1 h2; omega
  | succ d ih =>
    intro b h1 h2 h3
    by_cases e : b = 2 ^ n - 1
    · refine ⟨[], of_ok_nil.mpr e, ?_⟩
      rw [e, F.1]; rfl
    · have h4 := F.2 b (by omega)
      rcases of_la_att (al := al) (w := w) (r := r) (b := b) n with h | ⟨v, a1, a2, a3, a4⟩
      · omega
      · have h5 := of_or_gt a2
        obtain ⟨l, b1, b2⟩ := ih (b ||| 2 ^ v) (by omega) (of_or_lt h2 a1) (by omega)
        refine ⟨v :: l, of_ok_cons.mpr ⟨a1, a2, a3, b1⟩, ?_⟩
        simp only [of_cost]
        omega
def of_mn (c : List Nat → Nat) (p : List Nat → Bool) : List (List Nat) → Nat → Nat
  | [], m => m
  | l :: L, m => of_mn c p L (if p l = true ∧ c l < m then c l else m)
theorem of_mn_le {c : List Nat → Nat} {p : List Nat → Bool} : ∀ (L : List (List Nat)) (m : Nat), of_mn c p L m ≤ m ∧ ∀ l, l ∈ L → p l = true → of_mn c p L m ≤ c l := by
  intro L
  induction L with
  | nil => intro m; exact ⟨Nat.le_refl _, fun l h => by simp at h⟩
  | cons l0 L ih =>
    intro m
    simp only [of_mn]
    obtain ⟨h1, h2⟩ := ih (if p l0 = true ∧ c l0 < m then c l0 else m)
    have h3 : (if p l0 = true ∧ c l0 < m then c l0 else m) ≤ m := by split <;> omega
    refine ⟨by omega, fun l hl hp => ?_⟩
    rcases List.mem_cons.mp hl with e | e
    · subst e
      have h4 : (if p l = true ∧ c l < m then c l else m) ≤ c l := by
        by_cases z : c l < m
        · rw [if_pos ⟨hp, z⟩]; exact Nat.le_refl _
        · rw [if_neg (fun y => z y.2)]; omega
      omega
    · exact h2 l e hp
theorem of_mn_att {c : List Nat → Nat} {p : List Nat → Bool} : ∀ (L : List (List Nat)) (m : Nat), of_mn c p L m = m ∨ ∃ l, l ∈ L ∧ p l = true ∧ of_mn c p L m = c l := by
  intro L
  induction L with
  | nil => intro m; exact Or.inl rfl
  | cons l0 L ih =>
    intro m
    simp only [of_mn]
    rcases ih (if p l0 = true ∧ c l0 < m then c l0 else m) with h | ⟨l, h1, h2, h3⟩
    · rw [h]
      split
      · rename_i z
        exact Or.inr ⟨l0, List.mem_cons_self, z.1, rfl⟩
      · exact Or.inl rfl
    · exact Or.inr ⟨l, List.mem_cons_of_mem _ h1, h2, h3⟩
/-- the recursion over sets finds what the search over all orders finds -/
theorem of_least {n : Nat} {al : Nat → Nat → Bool} {w : Nat → Nat → Nat} {r : Nat → Nat} {p : List Nat → Bool} (F : of_F n al w r) (hn : n ≤ 5) (hw : ∀ b v, w b v ≤ 96) (hp : ∀ l, l ∈ of_en n n 0 → p l = of_ok n al 0 l) (he : ∃ l, l ∈ of_en n n 0 ∧ p l = true) : of_mn (of_cost w 0) p (of_en n n 0) 1000 = r 0 ∧ r 0 < 1000 := by
  have h0 : 0 < 2 ^ n := Nat.two_pow_pos n
  have hlen : ∀ l, l ∈ of_en n n 0 → p l = true → of_cost w 0 l < 1000 ∧ r 0 ≤ of_cost w 0 l := by
    intro l h1 h2
    rw [hp l h1] at h2
    have h3 := of_ok_len l 0 h2
    rw [of_cn_0] at h3
    have h4 := of_cost_le hw l 0
    have h5 : 96 * l.length ≤ 96 * 5 := Nat.mul_le_mul_left _ (by omega)
    exact ⟨by omega, of_A F l 0 h0 h2⟩
  obtain ⟨l0, a1, a2⟩ := he
  obtain ⟨a3, a4⟩ := hlen l0 a1 a2
  obtain ⟨l1, b1, b2⟩ := of_B F (2 ^ n) 0 (by omega) h0 (by omega)
  have b3 := of_en_of_ok l1 0 b1
  have b4 := of_ok_len l1 0 b1
  rw [of_cn_0] at b4
  have b5 : l1.length = n := by omega
  rw [b5] at b3
  obtain ⟨c1, c2⟩ := of_mn_le (c := of_cost w 0) (p := p) (of_en n n 0) 1000
  have c3 := c2 l1 b3 (by rw [hp l1 b3]; exact b1)
  have c4 := c2 l0 a1 a2
  rcases of_mn_att (c := of_cost w 0) (p := p) (of_en n n 0) 1000 with h | ⟨l, h1, h2, h3⟩
  · omega
  · have h4 := (hlen l h1 h2).2
    omega
/-! the greatest -/
def of_ga (w : Nat → Nat → Nat) (r : Nat → Nat) (b : Nat) : Nat → Nat
  | 0 => 0
  | v + 1 => if b.testBit v = false ∧ of_ga w r b v < w b v + r (b ||| 2 ^ v) then w b v + r (b ||| 2 ^ v) else of_ga w r b v
theorem of_ga_max {w : Nat → Nat → Nat} {r : Nat → Nat} {b : Nat} : ∀ k v, v < k → b.testBit v = false → w b v + r (b ||| 2 ^ v) ≤ of_ga w r b k := by
  intro k
  induction k with
  | zero => intro v hv; omega
  | succ k ih =>
    intro v hv h1
    simp only [of_ga]
    rcases Nat.lt_or_ge v k with z | z
    · have h3 := ih v z h1
      split <;> omega
    · have e : v = k := by omega
      subst e
      split
      · exact Nat.le_refl _
      · rename_i h4
        have h5 : ¬ (of_ga w r b v < w b v + r (b ||| 2 ^ v)) := fun z => h4 ⟨h1, z⟩
        omega
theorem of_ga_att {w : Nat → Nat → Nat} {r : Nat → Nat} {b : Nat} : ∀ k, of_ga w r b k = 0 ∨ ∃ v, v < k ∧ b.testBit v = false ∧ of_ga w r b k = w b v + r (b ||| 2 ^ v) := by
  intro k
  induction k with
  | zero => exact Or.inl rfl
  | succ k ih =>
    simp only [of_ga]
    split
    · rename_i h
      exact Or.inr ⟨k, by omega, h.1, rfl⟩
    · rcases ih with h | ⟨v, h1, h2, h4⟩
      · exact Or.inl h
      · exact Or.inr ⟨v, by omega, h2, h4⟩
def of_G (n : Nat) (w : Nat → Nat → Nat) (r : Nat → Nat) : Prop := r (2 ^ n - 1) = 0 ∧ ∀ b, b < 2 ^ n - 1 → r b = of_ga w r b n
theorem of_GA {n : Nat} {w : Nat → Nat → Nat} {r : Nat → Nat} (F : of_G n w r) : ∀ (l : List Nat) (b : Nat), b < 2 ^ n → of_ok n (fun _ _ => true) b l = true → of_cost w b l ≤ r b := by
  intro l
  induction l with
  | nil =>
    intro b _ h
    exact Nat.zero_le _
  | cons v l ih =>
    intro b hb h
    rw [of_ok_cons] at h
    have h1 := ih _ (of_or_lt hb h.1) h.2.2.2
    have h2 := of_or_gt h.2.1
    have h3 := of_or_lt hb h.1
    rw [F.2 b (by omega)]
    have h4 := of_ga_max (w := w) (r := r) (b := b) n v h.1 h.2.1
    simp only [of_cost]
    omega
theorem of_out {n b : Nat} (hb : b < 2 ^ n) (h : b ≠ 2 ^ n - 1) : ∃ v, v < n ∧ b.testBit v = false := by
  apply Classical.byContradiction
  intro z
  apply h
  apply of_full hb
  apply of_cn_all
  intro v hv
  cases e : b.testBit v with
  | true => rfl
  | false => exact absurd ⟨v, hv, e⟩ z
theorem of_GB {n : Nat} {w : Nat → Nat → Nat} {r : Nat → Nat} (F : of_G n w r) : ∀ d b, 2 ^ n - b ≤ d → b < 2 ^ n → ∃ l, of_ok n (fun _ _ => true) b l = true ∧ of_cost w b l = r b := by
  intro d
  induction d with
  | zero => intro b h1 h2; omega
  | succ d ih =>
    intro b h1 h2
    by_cases e : b = 2 ^ n - 1
    · refine ⟨[], of_ok_nil.mpr e, ?_⟩
      rw [e, F.1]; rfl
    · have h4 := F.2 b (by omega)
      have key : ∃ v, v < n ∧ b.testBit v = false ∧ r b = w b v + r (b ||| 2 ^ v) := by
        rcases of_ga_att (w := w) (r := r) (b := b) n with h | ⟨v, a1, a2, a4⟩
        · obtain ⟨v, a1, a2⟩ := of_out h2 e
          have h6 := of_ga_max (w := w) (r := r) (b := b) n v a1 a2
          exact ⟨v, a1, a2, by omega⟩
        · exact ⟨v, a1, a2, by omega⟩
      obtain ⟨v, a1, a2, a4⟩ := key
      have h5 := of_or_gt a2
      obtain ⟨l, b1, b2⟩ := ih (b ||| 2 ^ v) (by omega) (of_or_lt h2 a1)
      refine ⟨v :: l, of_ok_cons.mpr ⟨a1, a2, rfl, b1⟩, ?_⟩
      simp only [of_cost]
      omega
def of_mx (c : List Nat → Nat) : List (List Nat) → Nat → Nat
  | [], m => m
  | l :: L, m => of_mx c L (if m < c l then c l else m)
theorem of_mx_ge {c : List Nat → Nat} : ∀ (L : List (List Nat)) (m : Nat), m ≤ of_mx c L m ∧ ∀ l, l ∈ L → c l ≤ of_mx c L m := by
  intro L
  induction L with
  | nil => intro m; exact ⟨Nat.le_refl _, fun l h => by simp at h⟩
  | cons l0 L ih =>
    intro m
    simp only [of_mx]
    obtain ⟨h1, h2⟩ := ih (if m < c l0 then c l0 else m)
    have h3 : m ≤ (if m < c l0 then c l0 else m) ∧ c l0 ≤ (if m < c l0 then c l0 else m) := by split <;> omega
    refine ⟨by omega, fun l hl => ?_⟩
    rcases List.mem_cons.mp hl with e | e
    · subst e
      omega
    · exact h2 l e
theorem of_mx_att {c : List Nat → Nat} : ∀ (L : List (List Nat)) (m : Nat), of_mx c L m = m ∨ ∃ l, l ∈ L ∧ of_mx c L m = c l := by
  intro L
  induction L with
  | nil => intro m; exact Or.inl rfl
  | cons l0 L ih =>
    intro m
    simp only [of_mx]
    rcases ih (if m < c l0 then c l0 else m) with h | ⟨l, h1, h3⟩
    · rw [h]
      split
      · exact Or.inr ⟨l0, List.mem_cons_self, rfl⟩
      · exact Or.inl rfl
    · exact Or.inr ⟨l, List.mem_cons_of_mem _ h1, h3⟩
theorem of_greatest {n : Nat} {w : Nat → Nat → Nat} {r : Nat → Nat} (F : of_G n w r) : of_mx (of_cost w 0) (of_en n n 0) 0 = r 0 := by
  have h0 : 0 < 2 ^ n := Nat.two_pow_pos n
  obtain ⟨l1, b1, b2⟩ := of_GB F (2 ^ n) 0 (by omega) h0
  have b3 := of_en_of_ok l1 0 b1
  have b4 := of_ok_len l1 0 b1
  rw [of_cn_0] at b4
  have b5 : l1.length = n := by omega
  rw [b5] at b3
  have c3 := (of_mx_ge (c := of_cost w 0) (of_en n n 0) 0).2 l1 b3
  rcases of_mx_att (c := of_cost w 0) (of_en n n 0) 0 with h | ⟨l, h1, h3⟩
  · omega
  · have h4 := of_GA F l 0 h0 (of_ok_of_en n 0 l h0 (by rw [of_cn_0]; omega) h1)
    omega
end
section
/-! the best order: the least variable that keeps the least sum, place by place, is the first of the search -/
def of_ba (w : Nat → Nat → Nat) (r : Nat → Nat) (b : Nat) : Nat → Nat → Nat
  | 0, f => f
  | v + 1, f => of_ba w r b v (if b.testBit v = false ∧ w b v + r (b ||| 2 ^ v) = r b then v else f)
theorem of_ba_first {w : Nat → Nat → Nat} {r : Nat → Nat} {b : Nat} : ∀ k f, (of_ba w r b k f = f ∧ ∀ u, u < k → ¬ (b.testBit u = false ∧ w b u + r (b ||| 2 ^ u) = r b)) ∨ (of_ba w r b k f < k ∧ (b.testBit (of_ba w r b k f) = false ∧ w b (of_ba w r b k f) + r (b ||| 2 ^ (of_ba w r b k f)) = r b) ∧ ∀ u, u < of_ba w r b k f → ¬ (b.testBit u = false ∧ w b u + r (b ||| 2 ^ u) = r b)) := by
  intro k
  induction k with
  | zero => intro f; exact Or.inl ⟨rfl, fun u hu => by omega⟩
  | succ k ih =>
    intro f
    simp only [of_ba]
    by_cases c : b.testBit k = false ∧ w b k + r (b ||| 2 ^ k) = r b
    · rw [if_pos c]
      rcases ih k with ⟨h1, h2⟩ | ⟨h1, h2, h3⟩
      · right
        rw [h1]
        exact ⟨by omega, c, h2⟩
      · right
        exact ⟨by omega, h2, h3⟩
    · rw [if_neg c]
      rcases ih f with ⟨h1, h2⟩ | ⟨h1, h2, h3⟩
      · left
        refine ⟨h1, fun u hu => ?_⟩
        rcases Nat.lt_or_ge u k with z | z
        · exact h2 u z
        · have e : u = k := by omega
          rw [e]; exact c
      · right
        exact ⟨by omega, h2, h3⟩
theorem of_ba_lt {w : Nat → Nat → Nat} {r : Nat → Nat} {b n : Nat} (hn : 1 ≤ n) : of_ba w r b n 0 < n := by
  rcases of_ba_first (w := w) (r := r) (b := b) n 0 with h | h
  · omega
  · exact h.1
def of_gr (n : Nat) (w : Nat → Nat → Nat) (r : Nat → Nat) : Nat → Nat → List Nat
  | 0, _ => []
  | k + 1, b => of_ba w r b n 0 :: of_gr n w r k (b ||| 2 ^ of_ba w r b n 0)
def of_bp (n : Nat) (w : Nat → Nat → Nat) (r : Nat → Nat) : Nat → Nat
  | 0 => 0
  | p + 1 => of_bp n w r p ||| 2 ^ of_ba w r (of_bp n w r p) n 0
theorem of_bp_lt {n : Nat} {w : Nat → Nat → Nat} {r : Nat → Nat} (hn : 1 ≤ n) : ∀ p, of_bp n w r p < 2 ^ n := by
  intro p
  induction p with
  | zero => exact Nat.two_pow_pos n
  | succ p ih => exact of_or_lt ih (of_ba_lt hn)
theorem of_gr_at {n : Nat} {w : Nat → Nat → Nat} {r : Nat → Nat} : ∀ i j k, i < k → (of_gr n w r k (of_bp n w r j)).getD i 0 = of_ba w r (of_bp n w r (j + i)) n 0 := by
  intro i
  induction i with
  | zero =>
    intro j k hk
    obtain ⟨k, rfl⟩ : ∃ k', k = k' + 1 := ⟨k - 1, by omega⟩
    rfl
  | succ i ih =>
    intro j k hk
    obtain ⟨k, rfl⟩ : ∃ k', k = k' + 1 := ⟨k - 1, by omega⟩
    have h := ih (j + 1) k (by omega)
    rw [show j + (i + 1) = j + 1 + i by omega, ← h]
    rfl
theorem of_fs {n v0 : Nat} {α : Type} {f : Nat → Option α} {y : α} (h : v0 < n) (hy : f v0 = some y) (hu : ∀ u, u < v0 → f u = none) : (List.range n).findSome? f = some y := by
  induction n with
  | zero => omega
  | succ n ih =>
    rw [List.range_succ, List.findSome?_append]
    rcases Nat.lt_or_ge v0 n with z | z
    · rw [ih z]; rfl
    · have e : v0 = n := by omega
      subst e
      have h1 : (List.range v0).findSome? f = none := by
        rw [List.findSome?_eq_none_iff]
        intro x hx
        exact hu x (List.mem_range.mp hx)
      rw [h1]
      simp [hy]
theorem of_find {n : Nat} {w : Nat → Nat → Nat} {r : Nat → Nat} (F : of_F n (fun _ _ => true) w r) : ∀ k b, b < 2 ^ n → of_cn b n + k = n → r b < 1000000 → (of_en n k b).find? (fun l => decide (of_cost w b l = r b)) = some (of_gr n w r k b) := by
  intro k
  induction k with
  | zero =>
    intro b hb hc _
    have e := of_full hb hc
    simp [of_en, of_gr, of_cost, e, F.1]
  | succ k ih =>
    intro b hb hc hr
    have hne : b ≠ 2 ^ n - 1 := by
      intro e
      rw [e, of_cn_m1] at hc
      omega
    have hF := F.2 b (by omega)
    have hex : ∃ v, v < n ∧ (b.testBit v = false ∧ w b v + r (b ||| 2 ^ v) = r b) := by
      rcases of_la_att (al := fun _ _ => true) (w := w) (r := r) (b := b) n with h | ⟨v, a1, a2, _, a4⟩
      · omega
      · exact ⟨v, a1, a2, by omega⟩
    rcases of_ba_first (w := w) (r := r) (b := b) n 0 with h | ⟨m1, m2, m3⟩
    · obtain ⟨v, a1, a2⟩ := hex
      exact absurd a2 (h.2 v a1)
    · simp only [of_gr]
      generalize of_ba w r b n 0 = m at m1 m2 m3
      rw [of_en, List.find?_flatMap]
      apply of_fs (v0 := m) m1
      · rw [if_neg (by rw [m2.1]; exact Bool.false_ne_true), List.find?_map]
        have hc2 : of_cn (b ||| 2 ^ m) n + k = n := by
          rw [of_cn_or m2.1, if_pos m1]
          omega
        have hi := ih (b ||| 2 ^ m) (of_or_lt hb m1) hc2 (by omega)
        have e : ((fun l => decide (of_cost w b l = r b)) ∘ fun l => m :: l) = (fun l => decide (of_cost w (b ||| 2 ^ m) l = r (b ||| 2 ^ m))) := by
          funext l
          have hm := m2.2
          show decide (w b m + of_cost w (b ||| 2 ^ m) l = r b) = _
          rw [decide_eq_decide]
          omega
        rw [e, hi]
        rfl
      · intro u hu
        cases hb2 : b.testBit u with
        | true => rfl
        | false =>
          rw [if_neg (by exact Bool.false_ne_true), List.find?_eq_none]
          intro l hl
          rw [List.mem_map] at hl
          obtain ⟨l', h1, rfl⟩ := hl
          have hun : u < n := by omega
          have hc2 : of_cn (b ||| 2 ^ u) n + k = n := by
            rw [of_cn_or hb2, if_pos hun]
            omega
          have h2 := of_ok_of_en k _ l' (of_or_lt hb hun) hc2 h1
          have h3 := of_A F l' _ (of_or_lt hb hun) h2
          have h4 := of_la_min (al := fun _ _ => true) (w := w) (r := r) (b := b) n u hun hb2 rfl
          have h5 : ¬ (w b u + r (b ||| 2 ^ u) = r b) := fun z => m3 u hu ⟨hb2, z⟩
          rw [decide_eq_true_iff]
          simp only [of_cost]
          omega
/-- what both sides answer for the best order -/
theorem of_best {n : Nat} {w : Nat → Nat → Nat} {r : Nat → Nat} (F : of_F n (fun _ _ => true) w r) (hr : r 0 < 1000000) : ∃ l, (of_en n n 0).find? (fun l => decide (of_cost w 0 l = r 0)) = some l ∧ ∀ i, i < n → l.getD i 0 = of_ba w r (of_bp n w r i) n 0 := by
  refine ⟨_, of_find F n 0 (Nat.two_pow_pos n) (by rw [of_cn_0]; omega) hr, fun i hi => ?_⟩
  have h := of_gr_at (n := n) (w := w) (r := r) i 0 n hi
  rw [Nat.zero_add] at h
  exact h
end
section
/-! rest functions as numbers; the two lists of rest functions have one length -/
def of_mk (g : Nat → Bool) : Nat → Int32
  | 0 => 0
  | k + 1 => if g k = true then of_mk g k ||| ((1 : Int32) <<< (nI k &&& 31)) else of_mk g k
theorem of_one : ∀ k, k < 32 → ∀ i, i < 32 → bt ((1 : Int32) <<< (nI k &&& 31)) i = decide (i = k) := by decide +kernel
theorem of_mk_b (g : Nat → Bool) : ∀ k, k ≤ 32 → ∀ i, i < 32 → bt (of_mk g k) i = (decide (i < k) && g i) := by
  intro k
  induction k with
  | zero =>
    intro _ i _
    rw [decide_eq_false (by omega), Bool.false_and]
    exact b_0 i
  | succ k ih =>
    intro hk i hi
    have h := ih (by omega) i hi
    have h1 := of_one k (by omega) i hi
    simp only [of_mk]
    cases hg : g k with
    | true =>
      rw [if_pos rfl, b_or, h, h1]
      rcases Nat.lt_trichotomy i k with z | z | z
      · rw [decide_eq_true z, decide_eq_false (by omega : ¬ i = k), decide_eq_true (by omega : i < k + 1), Bool.or_false]
      · subst z
        rw [decide_eq_true rfl, decide_eq_true (by omega : i < i + 1), hg]
        simp
      · rw [decide_eq_false (by omega : ¬ i < k), decide_eq_false (by omega : ¬ i = k), decide_eq_false (by omega : ¬ i < k + 1)]
        simp
    | false =>
      rw [if_neg Bool.false_ne_true, h]
      rcases Nat.lt_trichotomy i k with z | z | z
      · rw [decide_eq_true z, decide_eq_true (by omega : i < k + 1)]
      · subst z
        rw [hg]
        simp
      · rw [decide_eq_false (by omega : ¬ i < k), decide_eq_false (by omega : ¬ i < k + 1)]
theorem of_mk_eq {g g' : Nat → Bool} {k : Nat} (hk : k ≤ 32) (h : ∀ i, i < k → g i = g' i) : of_mk g k = of_mk g' k := by
  apply b_ext
  intro i hi
  rw [of_mk_b g k hk i hi, of_mk_b g' k hk i hi]
  rcases Nat.lt_or_ge i k with z | z
  · rw [h i z]
  · rw [decide_eq_false (by omega), Bool.false_and, Bool.false_and]
theorem of_mk_at {g : Nat → Bool} {k i : Nat} (hk : k ≤ 32) (hi : i < k) : bt (of_mk g k) i = g i := by
  rw [of_mk_b g k hk i (by omega), decide_eq_true hi, Bool.true_and]
/-- s without the variables of b (s below 32) -/
def of_cl (s b : Nat) : Nat := s &&& (31 ^^^ b)
theorem of_31 : ∀ i, (31 : Nat).testBit i = decide (i < 5) := by
  intro i
  exact Nat.testBit_two_pow_sub_one 5 i
theorem of_cl_b {s b : Nat} (hs : s < 32) (i : Nat) : (of_cl s b).testBit i = (s.testBit i && !b.testBit i) := by
  unfold of_cl
  rw [Nat.testBit_and, Nat.testBit_xor, of_31]
  rcases Nat.lt_or_ge i 5 with z | z
  · rw [decide_eq_true z, Bool.true_xor]
  · rw [of_hi (n := 5) hs z, Bool.false_and, Bool.false_and]
theorem of_cl_le {s b : Nat} : of_cl s b ≤ s := Nat.and_le_left
theorem of_cl_0 {s b : Nat} (hs : s < 32) : of_cl s b = 0 ↔ ∀ i, s.testBit i = true → b.testBit i = true := by
  constructor
  · intro h i hi
    have h1 := of_cl_b (b := b) hs i
    rw [h, Nat.zero_testBit, hi, Bool.true_and] at h1
    cases hb : b.testBit i with
    | true => rfl
    | false => rw [hb] at h1; exact Bool.noConfusion h1
  · intro h
    apply Nat.eq_of_testBit_eq
    intro i
    rw [of_cl_b hs, Nat.zero_testBit]
    cases hi : s.testBit i with
    | true => rw [h i hi]; rfl
    | false => rfl
/-! spreading and gathering along an order -/
def of_sp (g : Nat → Nat) (lo s : Nat) : Nat → Nat
  | 0 => 0
  | k + 1 => if s.testBit k = true then of_sp g lo s k ||| 2 ^ g (lo + k) else of_sp g lo s k
theorem of_sp_b {g : Nat → Nat} {lo s : Nat} : ∀ k v, (of_sp g lo s k).testBit v = true ↔ ∃ q, q < k ∧ s.testBit q = true ∧ g (lo + q) = v := by
  intro k
  induction k with
  | zero =>
    intro v
    simp [of_sp]
  | succ k ih =>
    intro v
    simp only [of_sp]
    by_cases h : s.testBit k = true
    · rw [if_pos h, Nat.testBit_or, Bool.or_eq_true, ih, Nat.testBit_two_pow, decide_eq_true_iff]
      constructor
      · rintro (⟨q, h1, h2, h3⟩ | e)
        · exact ⟨q, by omega, h2, h3⟩
        · exact ⟨k, by omega, h, e⟩
      · rintro ⟨q, h1, h2, h3⟩
        rcases Nat.lt_or_ge q k with z | z
        · exact Or.inl ⟨q, z, h2, h3⟩
        · have e : q = k := by omega
          rw [e] at h3
          exact Or.inr h3
    · rw [if_neg h, ih]
      constructor
      · rintro ⟨q, h1, h2, h3⟩
        exact ⟨q, by omega, h2, h3⟩
      · rintro ⟨q, h1, h2, h3⟩
        rcases Nat.lt_or_ge q k with z | z
        · exact ⟨q, z, h2, h3⟩
        · have e : q = k := by omega
          rw [e] at h2
          exact absurd h2 h
def of_gt (g : Nat → Nat) (lo i : Nat) : Nat → Nat
  | 0 => 0
  | k + 1 => if i.testBit (g (lo + k)) = true then of_gt g lo i k ||| 2 ^ k else of_gt g lo i k
theorem of_gt_b {g : Nat → Nat} {lo i : Nat} : ∀ k q, (of_gt g lo i k).testBit q = true ↔ q < k ∧ i.testBit (g (lo + q)) = true := by
  intro k
  induction k with
  | zero =>
    intro v
    simp [of_gt]
  | succ k ih =>
    intro q
    simp only [of_gt]
    by_cases h : i.testBit (g (lo + k)) = true
    · rw [if_pos h, Nat.testBit_or, Bool.or_eq_true, ih, Nat.testBit_two_pow, decide_eq_true_iff]
      constructor
      · rintro (⟨h1, h2⟩ | e)
        · exact ⟨by omega, h2⟩
        · rw [← e]; exact ⟨by omega, h⟩
      · rintro ⟨h1, h2⟩
        rcases Nat.lt_or_ge q k with z | z
        · exact Or.inl ⟨z, h2⟩
        · exact Or.inr (by omega)
    · rw [if_neg h, ih]
      constructor
      · rintro ⟨h1, h2⟩
        exact ⟨by omega, h2⟩
      · rintro ⟨h1, h2⟩
        rcases Nat.lt_or_ge q k with z | z
        · exact ⟨z, h2⟩
        · have e : q = k := by omega
          rw [e] at h2
          exact absurd h2 h
theorem of_gt_lt {g : Nat → Nat} {lo i : Nat} (k : Nat) : of_gt g lo i k < 2 ^ k := by
  apply Nat.lt_pow_two_of_testBit
  intro q hq
  cases h : (of_gt g lo i k).testBit q with
  | false => rfl
  | true =>
    rw [of_gt_b] at h
    omega
def of_bs (g : Nat → Nat) : Nat → Nat
  | 0 => 0
  | p + 1 => of_bs g p ||| 2 ^ g p
theorem of_bs_b {g : Nat → Nat} : ∀ p v, (of_bs g p).testBit v = true ↔ ∃ q, q < p ∧ g q = v := by
  intro p
  induction p with
  | zero => intro v; simp [of_bs]
  | succ p ih =>
    intro v
    simp only [of_bs]
    rw [Nat.testBit_or, Bool.or_eq_true, ih, Nat.testBit_two_pow, decide_eq_true_iff]
    constructor
    · rintro (⟨q, h1, h2⟩ | e)
      · exact ⟨q, by omega, h2⟩
      · exact ⟨p, by omega, e⟩
    · rintro ⟨q, h1, h2⟩
      rcases Nat.lt_or_ge q p with z | z
      · exact Or.inl ⟨q, z, h2⟩
      · have e : q = p := by omega
        rw [e] at h2
        exact Or.inr h2
/-- g puts each variable below n on one place below n -/
def of_Pm (n : Nat) (g : Nat → Nat) : Prop := (∀ p, p < n → g p < n) ∧ (∀ p q, p < n → q < n → g p = g q → p = q) ∧ (∀ v, v < n → ∃ p, p < n ∧ g p = v)
theorem of_bs_lt {n : Nat} {g : Nat → Nat} (P : of_Pm n g) : ∀ p, p ≤ n → of_bs g p < 2 ^ n := by
  intro p
  induction p with
  | zero => intro _; exact Nat.two_pow_pos n
  | succ p ih => intro hp; exact of_or_lt (ih (by omega)) (P.1 p (by omega))
theorem of_bs_no {n : Nat} {g : Nat → Nat} (P : of_Pm n g) {p : Nat} (hp : p < n) : (of_bs g p).testBit (g p) = false := by
  cases h : (of_bs g p).testBit (g p) with
  | false => rfl
  | true =>
    rw [of_bs_b] at h
    obtain ⟨q, h1, h2⟩ := h
    have := P.2.1 q p (by omega) hp h2
    omega
theorem of_32 {n : Nat} (hn : n ≤ 5) : 2 ^ n ≤ 32 := Nat.pow_le_pow_right (n := 2) (by decide) hn
theorem of_sp_lt {n : Nat} {g : Nat → Nat} (P : of_Pm n g) {lo s k : Nat} (hk : lo + k ≤ n) : of_sp g lo s k < 2 ^ n := by
  apply Nat.lt_pow_two_of_testBit
  intro v hv
  cases h : (of_sp g lo s k).testBit v with
  | false => rfl
  | true =>
    rw [of_sp_b] at h
    obtain ⟨q, h1, _, h3⟩ := h
    have := P.1 (lo + q) (by omega)
    omega
theorem of_S1 {n : Nat} {g : Nat → Nat} (hn : n ≤ 5) (P : of_Pm n g) {p j : Nat} (hp : p ≤ n) : of_cl (of_sp g 0 j p) (of_bs g p) = 0 := by
  have h32 := of_32 hn
  have hl := of_sp_lt P (lo := 0) (s := j) (k := p) (by omega)
  rw [of_cl_0 (by omega)]
  intro i hi
  rw [of_sp_b] at hi
  obtain ⟨q, h1, _, h3⟩ := hi
  rw [Nat.zero_add] at h3
  exact (of_bs_b p i).mpr ⟨q, h1, h3⟩
theorem of_S2 {n : Nat} {g : Nat → Nat} (hn : n ≤ 5) {p a : Nat} (ha : a < 2 ^ n) (h : of_cl a (of_bs g p) = 0) : of_sp g 0 (of_gt g 0 a p) p = a := by
  have h32 := of_32 hn
  rw [of_cl_0 (by omega)] at h
  apply Nat.eq_of_testBit_eq
  intro v
  rw [Bool.eq_iff_iff, of_sp_b]
  constructor
  · rintro ⟨q, h1, h2, h3⟩
    rw [of_gt_b] at h2
    rw [← h3]; exact h2.2
  · intro hv
    obtain ⟨q, h1, h2⟩ := (of_bs_b p v).mp (h v hv)
    refine ⟨q, h1, ?_, by rw [Nat.zero_add]; exact h2⟩
    rw [of_gt_b, Nat.zero_add, h2]
    exact ⟨h1, hv⟩
theorem of_S3 {n : Nat} {g : Nat → Nat} (hn : n ≤ 5) (P : of_Pm n g) {p m s : Nat} (hp : p + m = n) : of_cl (of_sp g p s m) (of_bs g p) = of_sp g p s m := by
  have h32 := of_32 hn
  have hl := of_sp_lt P (lo := p) (s := s) (k := m) (by omega)
  apply Nat.eq_of_testBit_eq
  intro v
  rw [of_cl_b (by omega), Bool.eq_iff_iff, Bool.and_eq_true]
  constructor
  · exact fun h => h.1
  · intro h
    refine ⟨h, ?_⟩
    rw [of_sp_b] at h
    obtain ⟨q, h1, _, h3⟩ := h
    cases hb : (of_bs g p).testBit v with
    | false => rfl
    | true =>
      rw [of_bs_b] at hb
      obtain ⟨q', h4, h5⟩ := hb
      have := P.2.1 (p + q) q' (by omega) (by omega) (by rw [h3, h5])
      omega
theorem of_S4 {n : Nat} {g : Nat → Nat} (hn : n ≤ 5) (P : of_Pm n g) {p m i : Nat} (hp : p + m = n) (hi : i < 2 ^ n) : of_sp g p (of_gt g p i m) m = of_cl i (of_bs g p) := by
  have h32 := of_32 hn
  apply Nat.eq_of_testBit_eq
  intro v
  rw [of_cl_b (by omega), Bool.eq_iff_iff, Bool.and_eq_true, of_sp_b]
  constructor
  · rintro ⟨q, h1, h2, h3⟩
    rw [of_gt_b, h3] at h2
    refine ⟨h2.2, ?_⟩
    cases hb : (of_bs g p).testBit v with
    | false => rfl
    | true =>
      rw [of_bs_b] at hb
      obtain ⟨q', h4, h5⟩ := hb
      have := P.2.1 (p + q) q' (by omega) (by omega) (by rw [h3, h5])
      omega
  · rintro ⟨h1, h2⟩
    have hv : v < n := by
      rcases Nat.lt_or_ge v n with z | z
      · exact z
      · rw [of_hi hi z] at h1
        exact Bool.noConfusion h1
    obtain ⟨q, h3, h4⟩ := P.2.2 v hv
    rcases Nat.lt_or_ge q p with z | z
    · have h5 : (of_bs g p).testBit v = true := (of_bs_b p v).mpr ⟨q, z, h4⟩
      rw [h5] at h2
      exact Bool.noConfusion h2
    · have e : p + (q - p) = q := by omega
      refine ⟨q - p, by omega, ?_, by rw [e]; exact h4⟩
      rw [of_gt_b, e, h4]
      exact ⟨by omega, h1⟩
theorem of_S5 {n : Nat} {g : Nat → Nat} (P : of_Pm n g) {p m c : Nat} (hp : p + m = n) (hm : 0 < m) : of_sp g p (2 * c + 1) m = of_sp g p (2 * c) m ^^^ 2 ^ g p := by
  apply Nat.eq_of_testBit_eq
  intro v
  rw [Nat.testBit_xor, Nat.testBit_two_pow]
  have e0 : (2 * c + 1).testBit 0 = true := by rw [Nat.testBit_zero, decide_eq_true_iff]; omega
  have e1 : (2 * c).testBit 0 = false := by rw [Nat.testBit_zero, decide_eq_false_iff_not]; omega
  have e2 : ∀ q, 0 < q → (2 * c + 1).testBit q = (2 * c).testBit q := by
    intro q hq
    obtain ⟨q, rfl⟩ : ∃ q', q = q' + 1 := ⟨q - 1, by omega⟩
    rw [Nat.testBit_add_one, Nat.testBit_add_one, show (2 * c + 1) / 2 = 2 * c / 2 by omega]
  by_cases h : g p = v
  · have h1 : (of_sp g p (2 * c + 1) m).testBit v = true := (of_sp_b m v).mpr ⟨0, hm, e0, h⟩
    have h2 : (of_sp g p (2 * c) m).testBit v = false := by
      cases hb : (of_sp g p (2 * c) m).testBit v with
      | false => rfl
      | true =>
        rw [of_sp_b] at hb
        obtain ⟨q, h4, h5, h6⟩ := hb
        have h7 := P.2.1 (p + q) p (by omega) (by omega) (by rw [h6, h])
        have h8 : q = 0 := by omega
        rw [h8, e1] at h5
        exact Bool.noConfusion h5
    rw [h1, h2, decide_eq_true h]; rfl
  · rw [decide_eq_false h, Bool.xor_false, Bool.eq_iff_iff, of_sp_b, of_sp_b]
    constructor
    · rintro ⟨q, h1, h2, h3⟩
      have hq : 0 < q := by
        rcases Nat.eq_zero_or_pos q with z | z
        · rw [z] at h3; exact absurd h3 h
        · exact z
      exact ⟨q, h1, by rw [← e2 q hq]; exact h2, h3⟩
    · rintro ⟨q, h1, h2, h3⟩
      have hq : 0 < q := by
        rcases Nat.eq_zero_or_pos q with z | z
        · rw [z] at h3; exact absurd h3 h
        · exact z
      exact ⟨q, h1, by rw [e2 q hq]; exact h2, h3⟩
end
section
/-! the lists of different rest functions, and their length -/
def of_in (l : List Int32) : Option Int32 → List Int32
  | none => l
  | some x => if x ∈ l then l else l ++ [x]
def of_fi (K : Nat → Nat → Option Int32) (f : Nat) (L : List Int32) : Nat → List Int32
  | 0 => L
  | j + 1 => of_in (of_fi K f L j) (K f j)
def of_fo (K : Nat → Nat → Option Int32) (N : Nat) : Nat → List Int32
  | 0 => []
  | f + 1 => of_fi K f (of_fo K N f) N
theorem of_in_m {l : List Int32} {o : Option Int32} {x : Int32} : x ∈ of_in l o ↔ x ∈ l ∨ o = some x := by
  cases o with
  | none => simp [of_in]
  | some y =>
    simp only [of_in]
    by_cases h : y ∈ l
    · rw [if_pos h]
      constructor
      · exact Or.inl
      · rintro (z | z)
        · exact z
        · rw [Option.some.inj z] at h; exact h
    · rw [if_neg h, List.mem_append, List.mem_singleton]
      constructor
      · rintro (z | z)
        · exact Or.inl z
        · exact Or.inr (by rw [z])
      · rintro (z | z)
        · exact Or.inl z
        · exact Or.inr (Option.some.inj z).symm
theorem of_in_d {l : List Int32} {o : Option Int32} (h : l.Nodup) : (of_in l o).Nodup := by
  cases o with
  | none => exact h
  | some y =>
    simp only [of_in]
    by_cases hy : y ∈ l
    · rw [if_pos hy]; exact h
    · rw [if_neg hy, List.nodup_append]
      refine ⟨h, by simp, ?_⟩
      intro a ha b hb e
      rw [List.mem_singleton] at hb
      rw [e, hb] at ha
      exact hy ha
theorem of_in_l {l : List Int32} {o : Option Int32} : (of_in l o).length ≤ l.length + 1 := by
  cases o with
  | none => exact Nat.le_succ _
  | some y =>
    simp only [of_in]
    split
    · exact Nat.le_succ _
    · rw [List.length_append]; exact Nat.le_refl _
theorem of_fi_m {K : Nat → Nat → Option Int32} {f : Nat} {L : List Int32} {x : Int32} : ∀ k, x ∈ of_fi K f L k ↔ x ∈ L ∨ ∃ j, j < k ∧ K f j = some x := by
  intro k
  induction k with
  | zero =>
    constructor
    · exact Or.inl
    · rintro (z | ⟨j, h, _⟩)
      · exact z
      · omega
  | succ k ih =>
    simp only [of_fi]
    rw [of_in_m, ih]
    constructor
    · rintro ((z | ⟨j, h1, h2⟩) | z)
      · exact Or.inl z
      · exact Or.inr ⟨j, by omega, h2⟩
      · exact Or.inr ⟨k, by omega, z⟩
    · rintro (z | ⟨j, h1, h2⟩)
      · exact Or.inl (Or.inl z)
      · rcases Nat.lt_or_ge j k with y | y
        · exact Or.inl (Or.inr ⟨j, y, h2⟩)
        · have e : j = k := by omega
          rw [e] at h2
          exact Or.inr h2
theorem of_fo_m {K : Nat → Nat → Option Int32} {N : Nat} {x : Int32} : ∀ c, x ∈ of_fo K N c ↔ ∃ f, f < c ∧ ∃ j, j < N ∧ K f j = some x := by
  intro c
  induction c with
  | zero => simp [of_fo]
  | succ c ih =>
    simp only [of_fo]
    rw [of_fi_m, ih]
    constructor
    · rintro (⟨f, h1, h2⟩ | h)
      · exact ⟨f, by omega, h2⟩
      · exact ⟨c, by omega, h⟩
    · rintro ⟨f, h1, h2⟩
      rcases Nat.lt_or_ge f c with y | y
      · exact Or.inl ⟨f, y, h2⟩
      · have e : f = c := by omega
        rw [e] at h2
        exact Or.inr h2
theorem of_fi_d {K : Nat → Nat → Option Int32} {f : Nat} {L : List Int32} (h : L.Nodup) : ∀ k, (of_fi K f L k).Nodup := by
  intro k
  induction k with
  | zero => exact h
  | succ k ih => exact of_in_d ih
theorem of_fo_d {K : Nat → Nat → Option Int32} {N : Nat} : ∀ c, (of_fo K N c).Nodup := by
  intro c
  induction c with
  | zero => simp [of_fo]
  | succ c ih => exact of_fi_d ih N
theorem of_fi_l {K : Nat → Nat → Option Int32} {f : Nat} {L : List Int32} : ∀ k, (of_fi K f L k).length ≤ L.length + k := by
  intro k
  induction k with
  | zero => exact Nat.le_refl _
  | succ k ih =>
    have h := of_in_l (l := of_fi K f L k) (o := K f k)
    simp only [of_fi]
    omega
theorem of_fo_l {K : Nat → Nat → Option Int32} {N : Nat} : ∀ c, (of_fo K N c).length ≤ c * N := by
  intro c
  induction c with
  | zero => exact Nat.zero_le _
  | succ c ih =>
    have h := of_fi_l (K := K) (f := c) (L := of_fo K N c) N
    simp only [of_fo]
    rw [Nat.succ_mul]
    omega
theorem of_fi_c {K K' : Nat → Nat → Option Int32} {f : Nat} {L : List Int32} : ∀ k, (∀ j, j < k → K f j = K' f j) → of_fi K f L k = of_fi K' f L k := by
  intro k
  induction k with
  | zero => intro _; rfl
  | succ k ih =>
    intro h
    simp only [of_fi]
    rw [ih (fun j hj => h j (by omega)), h k (by omega)]
theorem of_fo_c {K K' : Nat → Nat → Option Int32} {N : Nat} : ∀ c, (∀ f j, f < c → j < N → K f j = K' f j) → of_fo K N c = of_fo K' N c := by
  intro c
  induction c with
  | zero => intro _; rfl
  | succ c ih =>
    intro h
    simp only [of_fo]
    rw [ih (fun f j hf hj => h f j (by omega) hj), of_fi_c N (fun j hj => h c j (by omega) hj)]
theorem of_len (R : Int32 → Int32 → Prop) (hR : ∀ x x' y, R x y → R x' y → x = x') : ∀ (l1 l2 : List Int32), l1.Nodup → (∀ x, x ∈ l1 → ∃ y, y ∈ l2 ∧ R x y) → l1.length ≤ l2.length := by
  intro l1
  induction l1 with
  | nil => intro l2 _ _; exact Nat.zero_le _
  | cons x l1 ih =>
    intro l2 hd h
    rw [List.nodup_cons] at hd
    obtain ⟨y, hy, hxy⟩ := h x List.mem_cons_self
    have h1 := ih (l2.erase y) hd.2 (by
      intro x' hx'
      obtain ⟨y', hy', hxy'⟩ := h x' (List.mem_cons_of_mem _ hx')
      refine ⟨y', ?_, hxy'⟩
      have hne : y' ≠ y := by
        intro e
        rw [e] at hxy'
        have e2 := hR x x' y hxy hxy'
        rw [e2] at hd
        exact hd.1 hx'
      exact (List.mem_erase_of_ne hne).mpr hy')
    rw [List.length_erase_of_mem hy] at h1
    have h2 := List.length_pos_of_mem hy
    rw [List.length_cons]
    omega
/-! the component's rest functions -/
def of_kx (t : Int32) (b N a : Nat) : Int32 := of_mk (fun s => bt t (of_cl s b ||| a)) N
def of_dx (N v : Nat) (r : Int32) : Bool := (List.range N).any (fun s => bt r s != bt r (s ^^^ 2 ^ v))
theorem of_dx_t {N v : Nat} {r : Int32} : of_dx N v r = true ↔ ∃ s, s < N ∧ bt r s ≠ bt r (s ^^^ 2 ^ v) := by
  unfold of_dx
  rw [List.any_eq_true]
  constructor
  · rintro ⟨s, h1, h2⟩
    exact ⟨s, List.mem_range.mp h1, bne_iff_ne.mp h2⟩
  · rintro ⟨s, h1, h2⟩
    exact ⟨s, List.mem_range.mpr h1, bne_iff_ne.mpr h2⟩
def of_KX (n : Nat) (T : Nat → Int32) (b v f j : Nat) : Option Int32 := if of_cl j b = 0 ∧ of_dx (2 ^ n) v (of_kx (T f) b (2 ^ n) j) = true then some (of_kx (T f) b (2 ^ n) j) else none
def of_xl (n : Nat) (T : Nat → Int32) (b v : Nat) : List Int32 := of_fo (of_KX n T b v) (2 ^ n) 3
/-- the width after the set b at variable v -/
def of_w (n : Nat) (T : Nat → Int32) (b v : Nat) : Nat := (of_xl n T b v).length
/-! the reference's -/
def of_ky (t : Int32) (g : Nat → Nat) (p m j : Nat) : Int32 := of_mk (fun s => bt t (of_sp g 0 j p ||| of_sp g p s m)) (2 ^ m)
def of_dy (H : Nat) (r : Int32) : Bool := (List.range H).any (fun c => bt r (2 * c) != bt r (2 * c + 1))
theorem of_dy_t {H : Nat} {r : Int32} : of_dy H r = true ↔ ∃ c, c < H ∧ bt r (2 * c) ≠ bt r (2 * c + 1) := by
  unfold of_dy
  rw [List.any_eq_true]
  constructor
  · rintro ⟨s, h1, h2⟩
    exact ⟨s, List.mem_range.mp h1, bne_iff_ne.mp h2⟩
  · rintro ⟨s, h1, h2⟩
    exact ⟨s, List.mem_range.mpr h1, bne_iff_ne.mpr h2⟩
def of_KY (T : Nat → Int32) (g : Nat → Nat) (p m f j : Nat) : Option Int32 := if of_dy (2 ^ (m - 1)) (of_ky (T f) g p m j) = true then some (of_ky (T f) g p m j) else none
def of_yl (T : Nat → Int32) (g : Nat → Nat) (p m : Nat) : List Int32 := of_fo (of_KY T g p m) (2 ^ p) 3
theorem of_kx_at {t : Int32} {b n a i : Nat} (hn : n ≤ 5) (hi : i < 2 ^ n) : bt (of_kx t b (2 ^ n) a) i = bt t (of_cl i b ||| a) := of_mk_at (of_32 hn) hi
theorem of_ky_at {t : Int32} {g : Nat → Nat} {p m j i : Nat} (hm : m ≤ 5) (hi : i < 2 ^ m) : bt (of_ky t g p m j) i = bt t (of_sp g 0 j p ||| of_sp g p i m) := of_mk_at (of_32 hm) hi
/-- the bits of one in the bits of the other -/
theorem of_yx {n : Nat} {g : Nat → Nat} {p m : Nat} (hn : n ≤ 5) (P : of_Pm n g) (hp : p + m = n) (t : Int32) (j s : Nat) (hs : s < 2 ^ m) : bt (of_ky t g p m j) s = bt (of_kx t (of_bs g p) (2 ^ n) (of_sp g 0 j p)) (of_sp g p s m) := by
  rw [of_ky_at (by omega) hs, of_kx_at hn (of_sp_lt P (by omega)), of_S3 hn P hp, Nat.or_comm]
theorem of_xy {n : Nat} {g : Nat → Nat} {p m : Nat} (hn : n ≤ 5) (P : of_Pm n g) (hp : p + m = n) (t : Int32) (j i : Nat) (hi : i < 2 ^ n) : bt (of_kx t (of_bs g p) (2 ^ n) (of_sp g 0 j p)) i = bt (of_ky t g p m j) (of_gt g p i m) := by
  rw [of_ky_at (by omega) (of_gt_lt m), of_kx_at hn hi, of_S4 hn P hp hi, Nat.or_comm]
theorem of_xor_lt {i v n : Nat} (hi : i < 2 ^ n) (hv : v < n) : i ^^^ 2 ^ v < 2 ^ n := Nat.xor_lt_two_pow hi (Nat.pow_lt_pow_right (by decide) hv)
theorem of_gt_x {n : Nat} {g : Nat → Nat} (P : of_Pm n g) {p m i q : Nat} (hp : p + m = n) (hm : 0 < m) : (of_gt g p (i ^^^ 2 ^ g p) m).testBit q = ((of_gt g p i m).testBit q ^^ decide (q = 0)) := by
  rw [Bool.eq_iff_iff, of_gt_b, Nat.testBit_xor, Nat.testBit_two_pow]
  rcases Nat.eq_zero_or_pos q with z | z
  · subst z
    rw [Nat.add_zero, decide_eq_true rfl, decide_eq_true rfl, Bool.xor_true, Bool.xor_true]
    cases hb : (of_gt g p i m).testBit 0 with
    | true =>
      rw [of_gt_b, Nat.add_zero] at hb
      rw [hb.2]
      simp
    | false =>
      have h2 : i.testBit (g p) = false := by
        cases h3 : i.testBit (g p) with
        | false => rfl
        | true =>
          have h4 : (of_gt g p i m).testBit 0 = true := (of_gt_b m 0).mpr ⟨hm, by rw [Nat.add_zero]; exact h3⟩
          rw [h4] at hb
          exact hb
      rw [h2]
      simp [hm]
  · rw [decide_eq_false (by omega : ¬ q = 0), Bool.xor_false, of_gt_b]
    constructor
    · rintro ⟨h1, h2⟩
      have h3 : ¬ g p = g (p + q) := by
        intro e
        have := P.2.1 p (p + q) (by omega) (by omega) e
        omega
      rw [decide_eq_false h3, Bool.xor_false] at h2
      exact ⟨h1, h2⟩
    · rintro ⟨h1, h2⟩
      have h3 : ¬ g p = g (p + q) := by
        intro e
        have := P.2.1 p (p + q) (by omega) (by omega) e
        omega
      rw [decide_eq_false h3, Bool.xor_false]
      exact ⟨h1, h2⟩
theorem of_flip0 {a b : Nat} (h : ∀ q, b.testBit q = (a.testBit q ^^ decide (q = 0))) : (a = 2 * (a / 2) ∧ b = 2 * (a / 2) + 1) ∨ (b = 2 * (a / 2) ∧ a = 2 * (a / 2) + 1) := by
  have h0 := h 0
  rw [Nat.testBit_zero, Nat.testBit_zero, decide_eq_true rfl, Bool.xor_true] at h0
  have h1 : b / 2 = a / 2 := by
    apply Nat.eq_of_testBit_eq
    intro i
    rw [← Nat.testBit_add_one, ← Nat.testBit_add_one, h (i + 1), decide_eq_false (by omega), Bool.xor_false]
  rcases Nat.mod_two_eq_zero_or_one a with z | z
  · left
    rw [z] at h0
    have h2 : b % 2 = 1 := by
      apply Classical.byContradiction
      intro y
      rw [decide_eq_false y] at h0
      simp at h0
    omega
  · right
    rw [z] at h0
    have h2 : ¬ b % 2 = 1 := by
      intro y
      rw [y] at h0
      simp at h0
    omega
/-- both depend, or neither does -/
theorem of_dd {n : Nat} {g : Nat → Nat} {p m : Nat} (hn : n ≤ 5) (P : of_Pm n g) (hp : p + m = n) (hm : 0 < m) (t : Int32) (j : Nat) : of_dy (2 ^ (m - 1)) (of_ky t g p m j) = of_dx (2 ^ n) (g p) (of_kx t (of_bs g p) (2 ^ n) (of_sp g 0 j p)) := by
  have e2 : 2 ^ m = 2 * 2 ^ (m - 1) := by
    rw [← Nat.pow_succ']
    congr 1
    omega
  rw [Bool.eq_iff_iff, of_dy_t, of_dx_t]
  constructor
  · rintro ⟨c, h1, h2⟩
    refine ⟨of_sp g p (2 * c) m, of_sp_lt P (by omega), ?_⟩
    rw [of_yx hn P hp t j (2 * c) (by omega), of_yx hn P hp t j (2 * c + 1) (by omega), of_S5 P hp hm] at h2
    exact h2
  · rintro ⟨i, h1, h2⟩
    rw [of_xy hn P hp t j i h1, of_xy hn P hp t j (i ^^^ 2 ^ g p) (of_xor_lt h1 (P.1 p (by omega)))] at h2
    have hl := of_gt_lt (g := g) (lo := p) (i := i) m
    rcases of_flip0 (fun q => of_gt_x (i := i) (q := q) P hp hm) with ⟨a1, a2⟩ | ⟨a1, a2⟩
    · refine ⟨of_gt g p i m / 2, by omega, ?_⟩
      rw [← a2, ← a1]
      exact h2
    · refine ⟨of_gt g p i m / 2, by omega, ?_⟩
      rw [← a2, ← a1]
      exact h2.symm
theorem of_keq {n : Nat} {g : Nat → Nat} {p m : Nat} (hn : n ≤ 5) (P : of_Pm n g) (hp : p + m = n) {t t' : Int32} {j j' : Nat} : of_ky t g p m j = of_ky t' g p m j' ↔ of_kx t (of_bs g p) (2 ^ n) (of_sp g 0 j p) = of_kx t' (of_bs g p) (2 ^ n) (of_sp g 0 j' p) := by
  constructor
  · intro h
    apply of_mk_eq (of_32 hn)
    intro i hi
    have h1 := of_xy hn P hp t j i hi
    have h2 := of_xy hn P hp t' j' i hi
    rw [h, ← h2, of_kx_at hn hi, of_kx_at hn hi] at h1
    exact h1
  · intro h
    apply of_mk_eq (of_32 (by omega))
    intro s hs
    have h1 := of_yx hn P hp t j s hs
    have h2 := of_yx hn P hp t' j' s hs
    rw [h, ← h2, of_ky_at (by omega) hs, of_ky_at (by omega) hs] at h1
    exact h1
/-- the two widths are one -/
theorem of_width {n : Nat} {g : Nat → Nat} {p m : Nat} (hn : n ≤ 5) (P : of_Pm n g) (hp : p + m = n) (hm : 0 < m) (T : Nat → Int32) : (of_yl T g p m).length = of_w n T (of_bs g p) (g p) := by
  have hX : ∀ x, x ∈ of_xl n T (of_bs g p) (g p) ↔ ∃ f, f < 3 ∧ ∃ a, a < 2 ^ n ∧ of_KX n T (of_bs g p) (g p) f a = some x := fun x => of_fo_m 3
  have hY : ∀ x, x ∈ of_yl T g p m ↔ ∃ f, f < 3 ∧ ∃ j, j < 2 ^ p ∧ of_KY T g p m f j = some x := fun x => of_fo_m 3
  apply Nat.le_antisymm
  · apply of_len (fun y x => ∃ f j, y = of_ky (T f) g p m j ∧ x = of_kx (T f) (of_bs g p) (2 ^ n) (of_sp g 0 j p))
    · rintro y y' x ⟨f, j, h1, h2⟩ ⟨f', j', h3, h4⟩
      rw [h1, h3, of_keq hn P hp, ← h2, ← h4]
    · exact of_fo_d 3
    · intro y hy
      rw [hY] at hy
      obtain ⟨f, h1, j, h2, h3⟩ := hy
      unfold of_KY at h3
      split at h3
      · rename_i hd
        refine ⟨of_kx (T f) (of_bs g p) (2 ^ n) (of_sp g 0 j p), ?_, f, j, (Option.some.inj h3).symm, rfl⟩
        rw [hX]
        refine ⟨f, h1, of_sp g 0 j p, of_sp_lt P (by omega), ?_⟩
        unfold of_KX
        rw [if_pos ⟨of_S1 hn P (by omega), by rw [← of_dd hn P hp hm]; exact hd⟩]
      · cases h3
  · apply of_len (fun x y => ∃ f j, y = of_ky (T f) g p m j ∧ x = of_kx (T f) (of_bs g p) (2 ^ n) (of_sp g 0 j p))
    · rintro x x' y ⟨f, j, h1, h2⟩ ⟨f', j', h3, h4⟩
      rw [h2, h4, ← of_keq hn P hp, ← h1, ← h3]
    · exact of_fo_d 3
    · intro x hx
      rw [hX] at hx
      obtain ⟨f, h1, a, h2, h3⟩ := hx
      unfold of_KX at h3
      split at h3
      · rename_i hd
        have e := of_S2 (g := g) hn (p := p) h2 hd.1
        refine ⟨of_ky (T f) g p m (of_gt g 0 a p), ?_, f, of_gt g 0 a p, rfl, by rw [e]; exact (Option.some.inj h3).symm⟩
        rw [hY]
        refine ⟨f, h1, of_gt g 0 a p, of_gt_lt p, ?_⟩
        unfold of_KY
        rw [if_pos (by rw [of_dd hn P hp hm, e]; exact hd.2)]
      · cases h3
theorem of_w_le {n : Nat} {T : Nat → Int32} (hn : n ≤ 5) (b v : Nat) : of_w n T b v ≤ 96 := by
  have h := of_fo_l (K := of_KX n T b v) (N := 2 ^ n) 3
  have h32 := of_32 hn
  unfold of_w of_xl
  omega
end
section
/-! the next order, on lists; all orders one behind the other (looked through for 1 to 5 variables) -/
def of_sc (l : List Nat) : Nat → Nat
  | 0 => 0
  | k + 1 => if l.getD (k + 1) 0 < l.getD k 0 then of_sc l k else k + 1
def of_sj (l : List Nat) (i : Nat) : Nat → Nat
  | 0 => 0
  | k + 1 => if i < k + 1 ∧ l.getD (k + 1) 0 < l.getD i 0 then of_sj l i k else k + 1
def of_sw (l : List Nat) (i j : Nat) : List Nat := (l.set i (l.getD j 0)).set j (l.getD i 0)
def of_rv (lo hi : Nat) (l : List Nat) : Nat → List Nat
  | 0 => l
  | d + 1 => if lo < hi then of_rv (lo + 1) (hi - 1) (of_sw l lo hi) d else l
def of_nx (n : Nat) (l : List Nat) : Option (List Nat) :=
  match of_sc l (n - 1) with
  | 0 => none
  | i + 1 => some (of_rv (i + 1) (n - 1) (of_sw l i (of_sj l i (n - 1))) n)
def of_ch (n : Nat) : List (List Nat) → Bool
  | [] => true
  | l :: L => (match L with
    | [] => decide (of_nx n l = none)
    | l' :: _ => decide (of_nx n l = some l')) && of_ch n L
def of_pin (n pv pp b v : Nat) : Bool := decide (v = pv) == decide (of_cn b n = pp)
def of_pmB (n : Nat) (l : List Nat) : Bool := (List.range n).all (fun p => decide (l.getD p 0 < n) && (List.range n).all (fun q => decide (p = q) || !decide (l.getD p 0 = l.getD q 0)) && (List.range n).any (fun q => decide (l.getD q 0 = p)))
def of_pinB (n : Nat) : Bool := (of_en n n 0).all (fun l => (List.range n).all (fun pv => (List.range n).all (fun pp => decide (l.getD pp 0 = pv) == of_ok n (of_pin n pv pp) 0 l)))
def of_exB (n : Nat) : Bool := (List.range n).all (fun pv => (List.range n).all (fun pp => (of_en n n 0).any (fun l => decide (l.getD pp 0 = pv))))
theorem of_ch_all : ∀ n, n < 5 → of_ch (n + 1) (of_en (n + 1) (n + 1) 0) = true := by decide +kernel
theorem of_hd_all : ∀ n, n < 5 → (of_en (n + 1) (n + 1) 0).head? = some (List.range (n + 1)) := by decide +kernel
theorem of_ln_all : ∀ n, n < 5 → (of_en (n + 1) (n + 1) 0).length ≤ 120 := by decide +kernel
theorem of_pm_all : ∀ n, n < 5 → (of_en (n + 1) (n + 1) 0).all (of_pmB (n + 1)) = true := by decide +kernel
theorem of_pin_all : ∀ n, n < 5 → of_pinB (n + 1) = true := by decide +kernel
theorem of_ex_all : ∀ n, n < 5 → of_exB (n + 1) = true := by decide +kernel
theorem of_pm {n : Nat} (h1 : 1 ≤ n) (h5 : n ≤ 5) {l : List Nat} (hl : l ∈ of_en n n 0) : of_Pm n (fun p => l.getD p 0) := by
  obtain ⟨n, rfl⟩ : ∃ n', n = n' + 1 := ⟨n - 1, by omega⟩
  have h := of_pm_all n (by omega)
  rw [List.all_eq_true] at h
  have h2 := h l hl
  unfold of_pmB at h2
  rw [List.all_eq_true] at h2
  have h3 : ∀ p, p < n + 1 → l.getD p 0 < n + 1 ∧ (∀ q, q < n + 1 → l.getD p 0 = l.getD q 0 → p = q) ∧ (∃ q, q < n + 1 ∧ l.getD q 0 = p) := by
    intro p hp
    have h4 := h2 p (List.mem_range.mpr hp)
    rw [Bool.and_eq_true, Bool.and_eq_true, List.all_eq_true, List.any_eq_true, decide_eq_true_iff] at h4
    obtain ⟨⟨a1, a2⟩, ⟨q0, a3, a4⟩⟩ := h4
    refine ⟨a1, fun q hq e => ?_, q0, List.mem_range.mp a3, of_decide_eq_true a4⟩
    have a5 := a2 q (List.mem_range.mpr hq)
    rw [Bool.or_eq_true, decide_eq_true_iff, e, decide_eq_true rfl] at a5
    rcases a5 with z | z
    · exact z
    · exact Bool.noConfusion z
  exact ⟨fun p hp => (h3 p hp).1, fun p q hp hq e => (h3 p hp).2.1 q hq e, fun v hv => (h3 v hv).2.2⟩
theorem of_pinE {n : Nat} (h1 : 1 ≤ n) (h5 : n ≤ 5) {l : List Nat} (hl : l ∈ of_en n n 0) {pv pp : Nat} (hv : pv < n) (hp : pp < n) : decide (l.getD pp 0 = pv) = of_ok n (of_pin n pv pp) 0 l := by
  obtain ⟨n, rfl⟩ : ∃ n', n = n' + 1 := ⟨n - 1, by omega⟩
  have h := of_pin_all n (by omega)
  unfold of_pinB at h
  rw [List.all_eq_true] at h
  have h2 := h l hl
  rw [List.all_eq_true] at h2
  have h3 := h2 pv (List.mem_range.mpr hv)
  rw [List.all_eq_true] at h3
  have h4 := h3 pp (List.mem_range.mpr hp)
  exact eq_of_beq h4
theorem of_exE {n : Nat} (h1 : 1 ≤ n) (h5 : n ≤ 5) {pv pp : Nat} (hv : pv < n) (hp : pp < n) : ∃ l, l ∈ of_en n n 0 ∧ decide (l.getD pp 0 = pv) = true := by
  obtain ⟨n, rfl⟩ : ∃ n', n = n' + 1 := ⟨n - 1, by omega⟩
  have h := of_ex_all n (by omega)
  unfold of_exB at h
  rw [List.all_eq_true] at h
  have h3 := h pv (List.mem_range.mpr hv)
  rw [List.all_eq_true] at h3
  have h4 := h3 pp (List.mem_range.mpr hp)
  rw [List.any_eq_true] at h4
  exact h4
theorem of_en_len {n : Nat} : ∀ k b l, l ∈ of_en n k b → l.length = k := by
  intro k
  induction k with
  | zero =>
    intro b l h
    simp [of_en] at h
    rw [h]; rfl
  | succ k ih =>
    intro b l h
    rw [of_en_s] at h
    obtain ⟨v, l', _, _, h3, rfl⟩ := h
    rw [List.length_cons, ih _ _ h3]
/-- the whole search as a list: it begins with the order 0, 1, .., and each is the next of the one before -/
theorem of_all {n : Nat} (h1 : 1 ≤ n) (h5 : n ≤ 5) : ∃ L, of_en n n 0 = List.range n :: L ∧ L.length < 120 ∧ of_ch n (List.range n :: L) = true := by
  obtain ⟨n, rfl⟩ : ∃ n', n = n' + 1 := ⟨n - 1, by omega⟩
  have a1 := of_hd_all n (by omega)
  have a2 := of_ln_all n (by omega)
  have a3 := of_ch_all n (by omega)
  generalize of_en (n + 1) (n + 1) 0 = E at a1 a2 a3
  cases E with
  | nil => simp at a1
  | cons l L =>
    have e : l = List.range (n + 1) := Option.some.inj a1
    subst e
    exact ⟨L, rfl, by rw [List.length_cons] at a2; omega, a3⟩
/-! sums of widths -/
def of_sz (w : Nat → Nat → Nat) (g : Nat → Nat) : Nat → Nat
  | 0 => 0
  | p + 1 => of_sz w g p + w (of_bs g p) (g p)
theorem of_sz_le {w : Nat → Nat → Nat} {g : Nat → Nat} {c : Nat} (hw : ∀ b v, w b v ≤ c) : ∀ p, of_sz w g p ≤ p * c := by
  intro p
  induction p with
  | zero => exact Nat.zero_le _
  | succ p ih =>
    have h := hw (of_bs g p) (g p)
    simp only [of_sz]
    rw [Nat.succ_mul]
    omega
theorem of_sz_cost {w : Nat → Nat → Nat} (l : List Nat) : of_sz w (fun p => l.getD p 0) l.length = of_cost w 0 l := by
  have h : ∀ i, i ≤ l.length → of_sz w (fun p => l.getD p 0) i + of_cost w (of_bs (fun p => l.getD p 0) i) (l.drop i) = of_cost w 0 l := by
    intro i
    induction i with
    | zero =>
      intro _
      simp [of_sz, of_bs]
    | succ i ih =>
      intro hi
      have h1 := ih (by omega)
      rw [List.drop_eq_getElem_cons (by omega)] at h1
      have e : l.getD i 0 = l[i] := by
        rw [List.getD_eq_getElem?_getD, List.getElem?_eq_getElem (by omega)]
        rfl
      simp only [of_cost] at h1
      simp only [of_sz, of_bs]
      rw [e]
      omega
  have h2 := h l.length (Nat.le_refl _)
  rw [List.drop_length] at h2
  simp only [of_cost] at h2
  omega
theorem of_bs_c {g g' : Nat → Nat} : ∀ p, (∀ q, q < p → g q = g' q) → of_bs g p = of_bs g' p := by
  intro p
  induction p with
  | zero => intro _; rfl
  | succ p ih =>
    intro h
    simp only [of_bs]
    rw [ih (fun q hq => h q (by omega)), h p (by omega)]
/-! an array's first cells as a list -/
def of_ls (a : Nat → Int32) (c : Nat) : List Int32 := (List.range c).map a
theorem of_ls_len {a : Nat → Int32} {c : Nat} : (of_ls a c).length = c := by simp [of_ls]
theorem of_ls_m {a : Nat → Int32} {c : Nat} {x : Int32} : x ∈ of_ls a c ↔ ∃ i, i < c ∧ a i = x := by
  unfold of_ls
  rw [List.mem_map]
  constructor
  · rintro ⟨i, h1, h2⟩
    exact ⟨i, List.mem_range.mp h1, h2⟩
  · rintro ⟨i, h1, h2⟩
    exact ⟨i, List.mem_range.mpr h1, h2⟩
theorem of_ls_u {a : Nat → Int32} {c : Nat} {x : Int32} : of_ls (upd a c x) (c + 1) = of_ls a c ++ [x] := by
  unfold of_ls
  rw [List.range_succ, List.map_append]
  have h : (List.range c).map (upd a c x) = (List.range c).map a := by
    apply List.map_congr_left
    intro i hi
    have := List.mem_range.mp hi
    exact pk_un (by omega)
  rw [h]
  simp [pk_us]
/-! a list's cells under a swap -/
theorem of_set_at {l : List Nat} {i p x : Nat} (hp : p < l.length) : (l.set i x).getD p 0 = if p = i then x else l.getD p 0 := by
  rw [List.getD_eq_getElem?_getD, List.getD_eq_getElem?_getD, List.getElem?_set]
  by_cases h : i = p
  · subst h
    simp [hp]
  · rw [if_neg h, if_neg (fun z => h z.symm)]
theorem of_sw_len {l : List Nat} {i j : Nat} : (of_sw l i j).length = l.length := by simp [of_sw]
theorem of_sw_at {l : List Nat} {i j p : Nat} (hp : p < l.length) : (of_sw l i j).getD p 0 = if p = j then l.getD i 0 else if p = i then l.getD j 0 else l.getD p 0 := by
  unfold of_sw
  rw [of_set_at (by rw [List.length_set]; exact hp)]
  by_cases h : p = j
  · rw [if_pos h, if_pos h]
  · rw [if_neg h, if_neg h, of_set_at hp]
end
section
/-! numbers and bits of the two programs -/
theorem of_nor (a b : Nat) : nI a ||| nI b = nI (a ||| b) := by
  apply Int32.toBitVec_inj.1
  show BitVec.ofNat 32 a ||| BitVec.ofNat 32 b = BitVec.ofNat 32 (a ||| b)
  apply BitVec.eq_of_getLsbD_eq
  intro i hi
  simp [hi]
theorem of_bn {a i : Nat} (hi : i < 32) : bt (nI a) i = a.testBit i := by
  show (BitVec.ofNat 32 a).getLsbD i = a.testBit i
  rw [BitVec.getLsbD_ofNat, decide_eq_true hi, Bool.true_and]
theorem of_1b : ∀ i, i < 32 → bt 1 i = decide (i = 0) := by decide +kernel
theorem of_ubit (x : Int32) {k : Nat} (hk : k < 32) : ((x.toUInt32 >>> ((nI k).toUInt32 &&& Int32.toUInt32 31)).toInt32 &&& 1) = if bt x k = true then 1 else 0 := by
  apply b_ext
  intro i hi
  rw [b_and, b_ushr k hk, of_1b i hi]
  rcases Nat.eq_zero_or_pos i with z | z
  · subst z
    rw [decide_eq_true rfl, Bool.and_true, Nat.add_zero]
    cases h : bt x k with
    | true => rw [if_pos rfl]; exact (of_1b 0 (by decide)).symm
    | false => rw [if_neg Bool.false_ne_true]; exact (b_0 0).symm
  · rw [decide_eq_false (by omega : ¬ i = 0), Bool.and_false]
    cases h : bt x k with
    | true => rw [if_pos rfl, of_1b i hi, decide_eq_false (by omega : ¬ i = 0)]
    | false => rw [if_neg Bool.false_ne_true]; exact (b_0 i).symm
theorem of_sbit (x : Int32) {k : Nat} (hk : k < 32) : ((x >>> (nI k &&& 31)) &&& 1) = if bt x k = true then 1 else 0 := by
  apply b_ext
  intro i hi
  rw [b_and, b_sshr k hk x hi, of_1b i hi]
  rcases Nat.eq_zero_or_pos i with z | z
  · subst z
    rw [decide_eq_true rfl, Bool.and_true, Nat.add_zero, if_pos hk]
    cases h : bt x k with
    | true => rw [if_pos rfl]; exact (of_1b 0 (by decide)).symm
    | false => rw [if_neg Bool.false_ne_true]; exact (b_0 0).symm
  · rw [decide_eq_false (by omega : ¬ i = 0), Bool.and_false]
    cases h : bt x k with
    | true => rw [if_pos rfl, of_1b i hi, decide_eq_false (by omega : ¬ i = 0)]
    | false => rw [if_neg Bool.false_ne_true]; exact (b_0 i).symm
theorem of_10 : ¬ (1 : Int32) = 0 := by decide
theorem of_01 : ¬ (0 : Int32) = 1 := by decide
theorem of_if {a b : Bool} : ((if a = true then 1 else 0 : Int32) = if b = true then 1 else 0) ↔ a = b := by
  cases a <;> cases b <;> simp
theorem of_src : ∀ s, s < 32 → ∀ b, b < 32 → nI s &&& (nI b ^^^ (-1)) = nI (of_cl s b) := by decide +kernel
theorem of_shl : ∀ v, v < 32 → (1 : Int32) <<< (nI v &&& 31) = nI (2 ^ v) := by decide +kernel
theorem of_or32 {a b : Nat} (ha : a < 32) (hb : b < 32) : a ||| b < 32 := Nat.or_lt_two_pow (n := 5) ha hb
theorem of_xor32 {a b : Nat} (ha : a < 32) (hb : b < 32) : a ^^^ b < 32 := Nat.xor_lt_two_pow (n := 5) ha hb
theorem of_p32 {v : Nat} (hv : v < 5) : 2 ^ v < 32 := Nat.pow_lt_pow_right (n := 5) (by decide) hv
theorem of_mk_step (g : Nat → Bool) (s : Nat) (hs : s < 32) : of_mk g s ||| ((if g s = true then 1 else 0 : Int32) <<< (nI s &&& 31)) = of_mk g (s + 1) := by
  simp only [of_mk]
  cases h : g s with
  | true => rw [if_pos rfl, if_pos rfl]
  | false =>
    rw [if_neg Bool.false_ne_true, if_neg Bool.false_ne_true]
    apply b_ext
    intro i hi
    rw [b_or, b_shl s hs _ hi, b_0, Bool.and_false, Bool.or_false]
theorem of_big {n : Nat} (hn : n ≤ 5) : 2 ^ n < 2 ^ 31 := by
  have := of_32 hn
  omega
theorem of_le_refl (n : Nat) : nI n ≤ nI n := Int32.le_refl _
theorem of_nle {a b : Nat} (h : a < b) (hb : b < 2 ^ 31) : ¬ nI b ≤ nI a := nI_ge h hb
theorem of_m1 : nI 0 + (-1) < 0 := by decide
theorem of_neg1 {a : Nat} (h : a < 2 ^ 31) : ¬ nI a = -1 := by
  intro e
  have := nI_pos (n := a) h
  rw [e] at this
  exact this (by decide)
theorem of_ix {x : Int32} {n : Nat} (h0 : ¬ x < 0) (h : ¬ nI n ≤ x) (hn : n < 2 ^ 31) : ∃ j, j < n ∧ x = nI j := by
  rcases pk_ix x hn with z | z | z
  · exact absurd z h0
  · exact absurd z h
  · exact z
end
section
/-! the component's walks up to the width -/
section XW
variable {n b v : Nat} {T g rs rm : Nat → Int32} {f1 f3 : Int32}
theorem of_xrest {post : Int32 → Prop} {t : Int32} {N a : Nat} (hN : N ≤ 32) (hb : b < 32) (ha : a < 32) (hp : post (of_kx t b N a)) : wpX_restOf post (f1, nI N, f3, T, g, rs, rm) t (nI b) (nI a) := by
  have key : ∀ d s, s + d = N → wX_restOf_6 post t (nI b) (nI a) f1 (nI N) f3 T g rs rm (d + 1) (of_mk (fun s => bt t (of_cl s b ||| a)) s) (nI s) := by
    intro d
    induction d with
    | zero =>
      intro s hs
      have e : s = N := by omega
      subst e
      exact br_t (of_le_refl s) hp
    | succ d ih =>
      intro s hs
      have h1 : (nI s &&& (nI b ^^^ (-1))) ||| nI a = nI (of_cl s b ||| a) := by rw [of_src s (by omega) b hb, of_nor]
      have hc : of_cl s b ||| a < 32 := of_or32 (Nat.lt_of_le_of_lt of_cl_le (by omega)) ha
      refine br_f (of_nle (by omega) (by omega)) (nm_r h1 (nm_r (e' := of_mk (fun s => bt t (of_cl s b ||| a)) (s + 1)) ?_ (nm_r (nI_1 s) (ih (s + 1) (by omega)))))
      rw [of_ubit t hc]
      exact of_mk_step (fun s => bt t (of_cl s b ||| a)) s (by omega)
  exact ⟨N + 1, key N 0 (by omega)⟩
theorem of_xdep {post : Int32 → Prop} {r : Int32} {N : Nat} (hN : N ≤ 32) (hv : v < 5) (h1 : of_dx N v r = true → post 1) (h0 : of_dx N v r = false → post 0) : wpX_dependsOn post (f1, nI N, f3, T, g, rs, rm) r (nI v) := by
  have key : ∀ d s, s + d = N → (∀ i, i < s → bt r i = bt r (i ^^^ 2 ^ v)) → wX_dependsOn_2 post r (nI v) f1 (nI N) f3 T g rs rm (d + 1) (nI s) := by
    intro d
    induction d with
    | zero =>
      intro s hs hi
      have e : s = N := by omega
      subst e
      refine br_t (of_le_refl s) (h0 ?_)
      cases h : of_dx s v r with
      | false => rfl
      | true =>
        rw [of_dx_t] at h
        obtain ⟨i, a1, a2⟩ := h
        exact absurd (hi i a1) a2
    | succ d ih =>
      intro s hs hi
      have e : nI s ^^^ ((1 : Int32) <<< (nI v &&& 31)) = nI (s ^^^ 2 ^ v) := by rw [of_shl v (by omega), nx_xor]
      have hx : s ^^^ 2 ^ v < 32 := of_xor32 (by omega) (of_p32 hv)
      refine br_f (of_nle (by omega) (by omega)) (nm_r e ?_)
      by_cases hb : bt r s = bt r (s ^^^ 2 ^ v)
      · refine br_t (by rw [of_ubit r (by omega), of_ubit r hx, hb]) (nm_r (nI_1 s) (ih (s + 1) (by omega) (lt_s hi hb)))
      · refine br_f (by rw [of_ubit r (by omega), of_ubit r hx, of_if]; exact hb) (h1 ?_)
        rw [of_dx_t]
        exact ⟨s, by omega, hb⟩
  exact ⟨N + 1, key N 0 (by omega) lt_0⟩
theorem of_xnote {post : SX → Prop} {f2 x : Int32} {c : Nat} (hc : c < 96) (hp : ∀ rs' c', of_ls rs' c' = of_in (of_ls rs c) (some x) → post (f1, f2, nI c', T, g, rs', rm)) : wpX_noteRest post (f1, f2, nI c, T, g, rs, rm) x := by
  have key : ∀ d i, i + d = c → (∀ j, j < i → ¬ rs j = x) → wX_noteRest_2 post x f1 f2 (nI c) T g rs rm (d + 1) (nI i) := by
    intro d
    induction d with
    | zero =>
      intro i hi hj
      have e : i = c := by omega
      subst e
      refine br_t (of_le_refl i) (br_f (of_nle (b := 96) hc (by decide)) ⟨vp_in_nI hc (by decide), nm_r (e' := upd rs i x) (by rw [nI_clamp (by omega)]) (nm_r (nI_1 i) (hp (upd rs i x) (i + 1) ?_))⟩)
      rw [of_ls_u]
      simp only [of_in]
      rw [if_neg]
      intro z
      rw [of_ls_m] at z
      obtain ⟨j, a1, a2⟩ := z
      exact hj j a1 a2
    | succ d ih =>
      intro i hi hj
      refine br_f (of_nle (by omega) (by omega)) ⟨vp_in_nI (by omega) (by decide), ?_⟩
      rw [nI_clamp (by omega)]
      by_cases h : rs i = x
      · refine br_t h (hp rs c ?_)
        simp only [of_in]
        rw [if_pos]
        rw [of_ls_m]
        exact ⟨i, by omega, h⟩
      · exact br_f h (nm_r (nI_1 i) (ih (i + 1) (by omega) (lt_s hj h)))
  exact ⟨c + 1, key c 0 (by omega) lt_0⟩
theorem of_xwi {post : Int32 → SX → Prop} {J : Int32 → Int32 → Int32 → Int32 → (Nat → Int32) → (Nat → Int32) → (Nat → Int32) → (Nat → Int32) → Prop} {f : Nat} {L0 : List Int32} (hn : n ≤ 5) (hb : b < 2 ^ n) (hv : v < n) (hf : f < 3) (hL : L0.length ≤ f * 2 ^ n) (hJ : ∀ rs' c', of_ls rs' c' = of_fi (of_KX n T b v) f L0 (2 ^ n) → J (nI (f + 1)) (nI n) (nI (2 ^ n)) (nI c') T g rs' rm) : ∀ d j, j + d = 2 ^ n → ∀ rs c, of_ls rs c = of_fi (of_KX n T b v) f L0 j → wX_widthAfter_15 post J (nI b) (nI v) (nI f) (d + 1) (nI j) (nI n) (nI (2 ^ n)) (nI c) T g rs rm := by
  have h32 := of_32 hn
  intro d
  induction d with
  | zero =>
    intro j hj rs c h
    have e : j = 2 ^ n := by omega
    subst e
    exact br_t (of_le_refl _) (nm_r (nI_1 f) (hJ rs c h))
  | succ d ih =>
    intro j hj rs c h
    have hc : c < 96 := by
      have h1 := of_fi_l (K := of_KX n T b v) (f := f) (L := L0) j
      rw [← h, of_ls_len] at h1
      have h2 : f * 2 ^ n ≤ 2 * 2 ^ n := Nat.mul_le_mul_right _ (by omega)
      omega
    refine br_f (of_nle (by omega) (by omega)) ?_
    rw [of_src j (by omega) b (by omega)]
    have h0 : nI (of_cl j b) = 0 ↔ of_cl j b = 0 := by
      have hl := of_cl_le (s := j) (b := b)
      rw [← nI_0, nI_eq (by omega) (by omega)]
    by_cases hz : of_cl j b = 0
    · refine br_t (h0.mpr hz) ⟨vp_in_nI hf (by decide), ?_⟩
      rw [nI_clamp (by omega : f < 2 ^ 31)]
      refine of_xrest h32 (by omega) (by omega) ?_
      refine of_xdep h32 (by omega) (fun hd => ?_) (fun hd => ?_)
      · refine br_f of_10 (of_xnote hc (fun rs' c' h' => ?_))
        intro y ey
        obtain rfl := ey.trans (nI_1 j)
        refine ih (j + 1) (by omega) rs' c' ?_
        rw [h', h]
        simp only [of_fi]
        have e : of_KX n T b v f j = some (of_kx (T f) b (2 ^ n) j) := by
          unfold of_KX
          rw [if_pos ⟨hz, hd⟩]
        rw [e]
      · refine br_t rfl ?_
        intro y ey
        obtain rfl := ey.trans (nI_1 j)
        refine ih (j + 1) (by omega) rs c ?_
        rw [h]
        simp only [of_fi]
        have e : of_KX n T b v f j = none := by
          unfold of_KX
          rw [if_neg (fun z => by rw [hd] at z; exact Bool.false_ne_true z.2)]
        rw [e]
        rfl
    · refine br_f (fun z => hz (h0.mp z)) ?_
      intro y ey
      obtain rfl := ey.trans (nI_1 j)
      refine ih (j + 1) (by omega) rs c ?_
      rw [h]
      simp only [of_fi]
      have e : of_KX n T b v f j = none := by
        unfold of_KX
        rw [if_neg (fun z => hz z.1)]
      rw [e]
      rfl
theorem of_xw {post : Int32 → SX → Prop} {c0 : Int32} (hn : n ≤ 5) (hb : b < 2 ^ n) (hv : v < n) (hp : ∀ rs' c', post (nI (of_w n T b v)) (nI n, nI (2 ^ n), c', T, g, rs', rm)) : wpX_widthAfter post (nI n, nI (2 ^ n), c0, T, g, rs, rm) (nI b) (nI v) := by
  have key : ∀ d f, f + d = 3 → ∀ rs c, of_ls rs c = of_fo (of_KX n T b v) (2 ^ n) f → wX_widthAfter_7 post (nI b) (nI v) (d + 1) (nI f) (nI n) (nI (2 ^ n)) (nI c) T g rs rm := by
    intro d
    induction d with
    | zero =>
      intro f hf rs c h
      have e : f = 3 := by omega
      subst e
      have e2 : c = of_w n T b v := by
        have h2 : (of_ls rs c).length = of_w n T b v := by rw [h]; rfl
        rw [of_ls_len] at h2
        exact h2
      refine br_t (of_le_refl 3) ?_
      rw [e2]
      exact hp rs _
    | succ d ih =>
      intro f hf rs c h
      refine br_f (of_nle (b := 3) (by omega) (by decide)) ⟨2 ^ n + 1, ?_⟩
      exact of_xwi hn hb hv (by omega) (of_fo_l f) (fun rs' c' h' => ih (f + 1) (by omega) rs' c' h') (2 ^ n) 0 (by omega) rs c h
  exact ⟨4, key 3 0 (by omega) rs 0 rfl⟩
end XW
end
section
/-! the component's walks: width, size, and the recursion over sets -/
section XS
variable {n b v : Nat} {T g rs rm : Nat → Int32} {c0 : Int32}
theorem of_orN {b v : Nat} (hv : v < 32) : nI b ||| ((1 : Int32) <<< (nI v &&& 31)) = nI (b ||| 2 ^ v) := by rw [of_shl v hv, of_nor]
theorem of_xwidth {post : Int32 → SX → Prop} {h : Nat → Nat} {p : Nat} (hn : n ≤ 5) (P : of_Pm n h) (hg : ∀ p, p < n → g p = nI (h p)) (hpl : p < n) (hp : ∀ rs' c', post (nI (of_w n T (of_bs h p) (h p))) (nI n, nI (2 ^ n), c', T, g, rs', rm)) : ∃ k, wX_width_14 post (nI p) (nI n) (nI (2 ^ n)) c0 T g rs rm k 0 0 := by
  have key : ∀ d q, q + d = p → wX_width_14 post (nI p) (nI n) (nI (2 ^ n)) c0 T g rs rm (d + 1) (nI (of_bs h q)) (nI q) := by
    intro d
    induction d with
    | zero =>
      intro q hq
      have e : q = p := by omega
      subst e
      refine br_t (of_le_refl q) ⟨vp_in_nI (by omega) (by decide), ?_⟩
      rw [nI_clamp (by omega), hg q hpl]
      exact of_xw hn (of_bs_lt P q (by omega)) (P.1 q hpl) (fun rs' c' => hp rs' c')
    | succ d ih =>
      intro q hq
      have hl := P.1 q (by omega)
      refine br_f (of_nle (by omega) (by omega)) ⟨vp_in_nI (by omega) (by decide), ?_⟩
      rw [nI_clamp (by omega), hg q (by omega)]
      exact nm_r (of_orN (by omega)) (nm_r (nI_1 q) (ih (q + 1) (by omega)))
  exact ⟨p + 1, key p 0 (by omega)⟩
theorem of_xsize {post : Int32 → SX → Prop} {h : Nat → Nat} (hn : n ≤ 5) (P : of_Pm n h) (hg : ∀ p, p < n → g p = nI (h p)) (hp : ∀ rs' c', post (nI (of_sz (of_w n T) h n)) (nI n, nI (2 ^ n), c', T, g, rs', rm)) : wpX_size post (nI n, nI (2 ^ n), c0, T, g, rs, rm) := by
  have key : ∀ d q, q + d = n → ∀ rs c, wX_size_6 post (d + 1) (nI (of_sz (of_w n T) h q)) (nI (of_bs h q)) (nI q) (nI n) (nI (2 ^ n)) c T g rs rm := by
    intro d
    induction d with
    | zero =>
      intro q hq rs c
      have e : q = n := by omega
      subst e
      exact br_t (of_le_refl q) (hp rs c)
    | succ d ih =>
      intro q hq rs c
      have hl := P.1 q (by omega)
      refine br_f (of_nle (by omega) (by omega)) ⟨vp_in_nI (by omega) (by decide), ?_⟩
      have e1 : g (nI q).toNatClampNeg = nI (h q) := by rw [nI_clamp (by omega), hg q (by omega)]
      rw [e1]
      refine of_xw hn (of_bs_lt P q (by omega)) (P.1 q (by omega)) (fun rs' c' => ?_)
      dsimp only
      refine nm_r (nI_add _ _) ⟨vp_in_nI (by omega) (by decide), ?_⟩
      rw [e1]
      exact nm_r (of_orN (by omega)) (nm_r (nI_1 q) (ih (q + 1) (by omega) rs' c'))
  exact ⟨n + 1, key n 0 (by omega) rs c0⟩
theorem of_bitN {b v : Nat} (hv : v < 32) : (((nI b).toUInt32 >>> ((nI v).toUInt32 &&& Int32.toUInt32 31)).toInt32 &&& 1) = if b.testBit v = true then 1 else 0 := by
  rw [of_ubit _ hv, of_bn hv]
theorem of_xcount {post : Int32 → Prop} {f2 f3 : Int32} (hn : n ≤ 5) (hp : post (nI (of_cn b n))) : wpX_countOf post (nI n, f2, f3, T, g, rs, rm) (nI b) := by
  have key : ∀ d q, q + d = n → wX_countOf_4 post (nI b) (nI n) f2 f3 T g rs rm (d + 1) (nI (of_cn b q)) (nI q) := by
    intro d
    induction d with
    | zero =>
      intro q hq
      have e : q = n := by omega
      subst e
      exact br_t (of_le_refl q) hp
    | succ d ih =>
      intro q hq
      refine br_f (of_nle (by omega) (by omega)) (nm_r (e' := nI (of_cn b (q + 1))) ?_ (nm_r (nI_1 q) (ih (q + 1) (by omega))))
      rw [of_bitN (by omega)]
      simp only [of_cn]
      split
      · exact nI_1 _
      · exact Int32.add_zero _
  exact ⟨n + 1, key n 0 (by omega)⟩
theorem of_xsum {post : Int32 → SX → Prop} {q : Nat} (hn : n ≤ 5) (hb : b < 2 ^ n) (hv : v < n) (hq : rm (b ||| 2 ^ v) = nI q) (hp : ∀ rs' c', post (nI (of_w n T b v + q)) (nI n, nI (2 ^ n), c', T, g, rs', rm)) : wpX_sumThrough post (nI n, nI (2 ^ n), c0, T, g, rs, rm) (nI b) (nI v) := by
  have h32 := of_32 hn
  have hl := of_or_lt hb hv
  refine of_xw (c0 := c0) hn hb hv (fun rs' c' => ?_)
  dsimp only
  rw [of_orN (by omega), nI_clamp (by omega), hq, nI_add]
  exact ⟨vp_in_nI (by omega) (by decide), hp rs' c'⟩
theorem of_la_c {al : Nat → Nat → Bool} {w : Nat → Nat → Nat} {r r' : Nat → Nat} {b : Nat} : ∀ k, (∀ v, v < k → b.testBit v = false → r (b ||| 2 ^ v) = r' (b ||| 2 ^ v)) → of_la al w r b k = of_la al w r' b k := by
  intro k
  induction k with
  | zero => intro _; rfl
  | succ k ih =>
    intro h
    simp only [of_la]
    rw [ih (fun v hv => h v (by omega))]
    by_cases hb : b.testBit k = false
    · rw [h k (by omega) hb]
    · rw [if_neg (fun z => hb z.1), if_neg (fun z => hb z.1)]
theorem of_ga_c {w : Nat → Nat → Nat} {r r' : Nat → Nat} {b : Nat} : ∀ k, (∀ v, v < k → b.testBit v = false → r (b ||| 2 ^ v) = r' (b ||| 2 ^ v)) → of_ga w r b k = of_ga w r' b k := by
  intro k
  induction k with
  | zero => intro _; rfl
  | succ k ih =>
    intro h
    simp only [of_ga]
    rw [ih (fun v hv => h v (by omega))]
    by_cases hb : b.testBit k = false
    · rw [h k (by omega) hb]
    · rw [if_neg (fun z => hb z.1), if_neg (fun z => hb z.1)]
theorem of_xla43 {post : Int32 → SX → Prop} {J : Int32 → Int32 → Int32 → Int32 → Int32 → (Nat → Int32) → (Nat → Int32) → (Nat → Int32) → (Nat → Int32) → Prop} {al : Nat → Nat → Bool} {r : Nat → Nat} {x2 x4 z0 : Int32} (hn : n ≤ 5) (hb : b < 2 ^ n) (hv : v < n) (hz : z0 = x4 ↔ al b v = true) (hr : b.testBit v = false → rm (b ||| 2 ^ v) = nI (r (b ||| 2 ^ v)) ∧ r (b ||| 2 ^ v) ≤ 1000000) (hJ : ∀ rs' c', J (nI (of_la al (of_w n T) r b (v + 1))) (nI (v + 1)) (nI n) (nI (2 ^ n)) c' T g rs' rm) : wX_leastAfter_43 post J (nI b) x2 x4 (nI (of_la al (of_w n T) r b v)) (nI v) z0 (nI n) (nI (2 ^ n)) c0 T g rs rm := by
  have hla := of_la_le (al := al) (w := of_w n T) (r := r) (b := b) v
  have hw := of_w_le (T := T) hn b v
  unfold wX_leastAfter_43
  unfold wpX_bitOf
  dsimp only
  rw [of_bitN (by omega)]
  cases hb2 : b.testBit v with
  | true =>
    rw [if_pos rfl]
    refine br_f of_10 (nm_r (nI_1 v) ?_)
    have e : of_la al (of_w n T) r b (v + 1) = of_la al (of_w n T) r b v := by
      simp only [of_la]
      rw [if_neg (fun z => by rw [hb2] at z; exact Bool.noConfusion z.1)]
    rw [← e]
    exact hJ rs c0
  | false =>
    rw [if_neg Bool.false_ne_true]
    refine br_t rfl ?_
    obtain ⟨h1, h2⟩ := hr hb2
    by_cases hc : z0 = x4
    · refine br_t hc (of_xsum hn hb hv h1 (fun rs' c' => ?_))
      dsimp only
      refine pk_le (of_la al (of_w n T) r b v) (of_w n T b v + r (b ||| 2 ^ v)) (fun hl => ?_) (fun hl => ?_) rfl rfl (by omega) (by omega)
      · refine nm_r (nI_1 v) ?_
        have e : of_la al (of_w n T) r b (v + 1) = of_la al (of_w n T) r b v := by
          simp only [of_la]
          rw [if_neg (fun z => by omega)]
        rw [← e]
        exact hJ rs' c'
      · refine nm_r (nI_1 v) ?_
        have e : of_la al (of_w n T) r b (v + 1) = of_w n T b v + r (b ||| 2 ^ v) := by
          simp only [of_la]
          rw [if_pos ⟨hb2, hz.mp hc, hl⟩]
        rw [← e]
        exact hJ rs' c'
    · refine br_f hc (nm_r (nI_1 v) ?_)
      have e : of_la al (of_w n T) r b (v + 1) = of_la al (of_w n T) r b v := by
        simp only [of_la]
        rw [if_neg (fun z => hc (hz.mpr z.2.1))]
      rw [← e]
      exact hJ rs c0
theorem of_xla {post : Int32 → SX → Prop} {al : Nat → Nat → Bool} {r : Nat → Nat} {x1 x2 : Int32} (hn : n ≤ 5) (hb : b < 2 ^ n) (hal : ∀ v, v < n → (((if nI v = x1 then 1 else 0 : Int32) = if nI (of_cn b n) = x2 then 1 else 0) ↔ al b v = true)) (hr : ∀ v, v < n → b.testBit v = false → rm (b ||| 2 ^ v) = nI (r (b ||| 2 ^ v)) ∧ r (b ||| 2 ^ v) ≤ 1000000) (hp : ∀ rs' c', post (nI (of_la al (of_w n T) r b n)) (nI n, nI (2 ^ n), c', T, g, rs', rm)) : wpX_leastAfter post (nI n, nI (2 ^ n), c0, T, g, rs, rm) (nI b) x1 x2 := by
  have key : ∀ x4 : Int32, (∀ v, v < n → ((if nI v = x1 then 1 else 0 : Int32) = x4 ↔ al b v = true)) → ∀ d v, v + d = n → ∀ rs c, wX_leastAfter_23 post (nI b) x1 x4 (d + 1) (nI (of_la al (of_w n T) r b v)) (nI v) (nI n) (nI (2 ^ n)) c T g rs rm := by
    intro x4 hx d
    induction d with
    | zero =>
      intro v hv rs c
      have e : v = n := by omega
      subst e
      exact br_t (of_le_refl v) (hp rs c)
    | succ d ih =>
      intro v hv rs c
      have hv2 : v < n := by omega
      have h1 := hx v hv2
      refine br_f (of_nle (by omega) (by omega)) (br_c (fun e => ?_) (fun e => ?_))
      · rw [if_pos e] at h1
        exact of_xla43 hn hb hv2 h1 (hr v hv2) (fun rs' c' => ih (v + 1) (by omega) rs' c')
      · rw [if_neg e] at h1
        exact of_xla43 hn hb hv2 h1 (hr v hv2) (fun rs' c' => ih (v + 1) (by omega) rs' c')
  refine of_xcount hn (br_c (fun e => ?_) (fun e => ?_))
  · exact ⟨n + 1, key 1 (fun v hv => by have h := hal v hv; rw [if_pos e] at h; exact h) n 0 (by omega) rs c0⟩
  · exact ⟨n + 1, key 0 (fun v hv => by have h := hal v hv; rw [if_neg e] at h; exact h) n 0 (by omega) rs c0⟩
theorem of_m2 {n : Nat} (hn : 1 ≤ n) : nI (2 ^ n) - 2 = nI (2 ^ n - 1) + (-1) := by
  have h : 2 ≤ 2 ^ n := by
    have := Nat.pow_le_pow_right (n := 2) (by decide) hn
    omega
  obtain ⟨k, e⟩ : ∃ k, 2 ^ n = k + 2 := ⟨2 ^ n - 2, by omega⟩
  rw [e, show k + 2 - 1 = k + 1 from rfl, pk_m1]
  exact pk_sub (a := k + 2) (b := 2) (by omega)
theorem of_xfill {post : SX → Prop} {al : Nat → Nat → Bool} {x1 x2 : Int32} (hn1 : 1 ≤ n) (hn : n ≤ 5) (hal : ∀ b, b < 2 ^ n → ∀ v, v < n → (((if nI v = x1 then 1 else 0 : Int32) = if nI (of_cn b n) = x2 then 1 else 0) ↔ al b v = true)) (hp : ∀ rs' c' rm' r, (∀ b, b < 2 ^ n → rm' b = nI (r b) ∧ r b ≤ 1000000) → of_F n al (of_w n T) r → post (nI n, nI (2 ^ n), c', T, g, rs', rm')) : wpX_fillLeast post (nI n, nI (2 ^ n), c0, T, g, rs, rm) x1 x2 := by
  have h32 := of_32 hn
  have h0 := Nat.two_pow_pos n
  have key : ∀ k, k ≤ 2 ^ n - 1 → ∀ rs c rm (r : Nat → Nat), (∀ b, b < 2 ^ n → k ≤ b → rm b = nI (r b) ∧ r b ≤ 1000000) → r (2 ^ n - 1) = 0 → (∀ b, k ≤ b → b < 2 ^ n - 1 → r b = of_la al (of_w n T) r b n) → wX_fillLeast_19 post x1 x2 (k + 1) (nI k + (-1)) (nI n) (nI (2 ^ n)) c T g rs rm := by
    intro k
    induction k with
    | zero =>
      intro _ rs c rm r a1 a2 a3
      exact br_t of_m1 (hp rs c rm r (fun b hb => a1 b hb (by omega)) ⟨a2, fun b hb => a3 b (by omega) hb⟩)
    | succ k ih =>
      intro hk rs c rm r a1 a2 a3
      rw [pk_m1]
      refine br_f (nI_pos (by omega)) ?_
      refine of_xla (al := al) (r := r) hn (by omega) (hal k (by omega)) (fun v hv hb2 => a1 _ (of_or_lt (by omega) hv) (of_or_gt hb2)) (fun rs' c' => ?_)
      dsimp only
      refine ⟨vp_in_nI (by omega) (by decide), ?_⟩
      rw [nI_clamp (by omega)]
      refine nm_e ?_
      refine nm_e ?_
      have hc : ∀ b, k ≤ b → of_la al (of_w n T) (fun q => if q = k then of_la al (of_w n T) r k n else r q) b n = of_la al (of_w n T) r b n := by
        intro b hb
        apply of_la_c
        intro v hv hb2
        have := of_or_gt hb2
        show (if (b ||| 2 ^ v) = k then _ else r (b ||| 2 ^ v)) = _
        rw [if_neg (by omega)]
      refine ih (by omega) rs' c' _ (fun q => if q = k then of_la al (of_w n T) r k n else r q) ?_ ?_ ?_
      · intro b hb hkb
        show _ = nI (if b = k then _ else r b) ∧ (if b = k then _ else r b) ≤ 1000000
        by_cases e : b = k
        · rw [if_pos e, e]
          exact ⟨pk_us, of_la_le n⟩
        · rw [if_neg e, pk_un e]
          exact a1 b hb (by omega)
      · show (if 2 ^ n - 1 = k then _ else r (2 ^ n - 1)) = 0
        rw [if_neg (by omega)]
        exact a2
      · intro b hkb hb
        rw [hc b hkb]
        show (if b = k then _ else r b) = _
        by_cases e : b = k
        · rw [if_pos e, e]
        · rw [if_neg e]
          exact a3 b (by omega) hb
  have e1 : nI (2 ^ n) - 1 = nI (2 ^ n - 1) := pk_sub (a := 2 ^ n) (b := 1) (by omega)
  unfold wpX_fillLeast
  dsimp only
  rw [e1, nI_clamp (by omega)]
  refine ⟨vp_in_nI (by omega) (by decide), nm_e (nm_r (of_m2 hn1) ⟨2 ^ n - 1 + 1, ?_⟩)⟩
  refine key (2 ^ n - 1) (by omega) rs c0 _ (fun _ => 0) ?_ rfl ?_
  · intro b hb hkb
    have e : b = 2 ^ n - 1 := by omega
    rw [e]
    exact ⟨pk_us, by omega⟩
  · intro b hkb hb
    omega
theorem of_xba {post : Int32 → SX → Prop} {r : Nat → Nat} (hn1 : 1 ≤ n) (hn : n ≤ 5) (hb : b < 2 ^ n) (hr : ∀ b, b < 2 ^ n → rm b = nI (r b) ∧ r b ≤ 1000000) (hp : ∀ rs' c', post (nI (of_ba (of_w n T) r b n 0)) (nI n, nI (2 ^ n), c', T, g, rs', rm)) : wpX_bestAfter post (nI n, nI (2 ^ n), c0, T, g, rs, rm) (nI b) := by
  have h32 := of_32 hn
  have key : ∀ k, k ≤ n → ∀ f rs c, of_ba (of_w n T) r b k f = of_ba (of_w n T) r b n 0 → wX_bestAfter_9 post (nI b) (k + 1) (nI f) (nI k + (-1)) (nI n) (nI (2 ^ n)) c T g rs rm := by
    intro k
    induction k with
    | zero =>
      intro _ f rs c e
      refine br_t of_m1 ?_
      have e2 : f = of_ba (of_w n T) r b n 0 := e
      rw [e2]
      exact hp rs c
    | succ k ih =>
      intro hk f rs c e
      have hkn : k < n := by omega
      have hw := of_w_le (T := T) hn b k
      simp only [of_ba] at e
      rw [pk_m1]
      refine br_f (nI_pos (by omega)) ?_
      unfold wpX_bitOf
      dsimp only
      rw [of_bitN (by omega)]
      cases hb2 : b.testBit k with
      | true =>
        rw [if_pos rfl]
        rw [if_neg (fun z => by rw [hb2] at z; exact Bool.noConfusion z.1)] at e
        exact br_f of_10 (nm_e (ih (by omega) f rs c e))
      | false =>
        rw [if_neg Bool.false_ne_true]
        have h1 := hr _ (of_or_lt hb hkn)
        have h2 := hr b hb
        refine br_t rfl (of_xsum hn hb hkn h1.1 (fun rs' c' => ?_))
        dsimp only
        refine ⟨vp_in_nI (by omega) (by decide), ?_⟩
        rw [nI_clamp (by omega), h2.1]
        refine pk_eq (of_w n T b k + r (b ||| 2 ^ k)) (r b) (fun he => ?_) (fun he => ?_) rfl rfl (by omega) (by omega)
        · rw [if_pos ⟨hb2, he⟩] at e
          exact nm_e (ih (by omega) k rs' c' e)
        · rw [if_neg (fun z => he z.2)] at e
          exact nm_e (ih (by omega) f rs' c' e)
  have e1 : nI n - 1 = nI n + (-1) := by
    obtain ⟨m, rfl⟩ : ∃ m, n = m + 1 := ⟨n - 1, by omega⟩
    rw [pk_m1, nI_pred]
  exact nm_r e1 ⟨n + 1, key n (by omega) 0 rs c0 rfl⟩
theorem of_xbest {post : Int32 → SX → Prop} {r : Nat → Nat} {p : Nat} (hn1 : 1 ≤ n) (hn : n ≤ 5) (hpl : p < n) (hr : ∀ b, b < 2 ^ n → rm b = nI (r b) ∧ r b ≤ 1000000) (hp : ∀ rs' c', post (nI (of_ba (of_w n T) r (of_bp n (of_w n T) r p) n 0)) (nI n, nI (2 ^ n), c', T, g, rs', rm)) : ∃ k, wX_best_20 post (nI p) k 0 0 (nI n) (nI (2 ^ n)) c0 T g rs rm := by
  have key : ∀ d q, q + d = p → ∀ rs c, wX_best_20 post (nI p) (d + 1) (nI (of_bp n (of_w n T) r q)) (nI q) (nI n) (nI (2 ^ n)) c T g rs rm := by
    intro d
    induction d with
    | zero =>
      intro q hq rs c
      have e : q = p := by omega
      subst e
      exact br_t (of_le_refl q) (of_xba hn1 hn (of_bp_lt hn1 q) hr (fun rs' c' => hp rs' c'))
    | succ d ih =>
      intro q hq rs c
      have hl := of_ba_lt (w := of_w n T) (r := r) (b := of_bp n (of_w n T) r q) hn1
      refine br_f (of_nle (by omega) (by omega)) (of_xba hn1 hn (of_bp_lt hn1 q) hr (fun rs' c' => ?_))
      exact nm_r (of_orN (by omega)) (nm_r (nI_1 q) (ih (q + 1) (by omega) rs' c'))
  exact ⟨p + 1, key p 0 (by omega) rs c0⟩
theorem of_ga_le {w : Nat → Nat → Nat} {r : Nat → Nat} {b m : Nat} (h : ∀ v, b.testBit v = false → w b v + r (b ||| 2 ^ v) ≤ m) : ∀ k, of_ga w r b k ≤ m := by
  intro k
  induction k with
  | zero => exact Nat.zero_le _
  | succ k ih =>
    simp only [of_ga]
    split
    · rename_i z
      exact h k z.1
    · exact ih
theorem of_xga {post : Int32 → SX → Prop} {r : Nat → Nat} (hn : n ≤ 5) (hb : b < 2 ^ n) (hr : ∀ v, v < n → b.testBit v = false → rm (b ||| 2 ^ v) = nI (r (b ||| 2 ^ v)) ∧ r (b ||| 2 ^ v) ≤ 1000000) (hp : ∀ rs' c', post (nI (of_ga (of_w n T) r b n)) (nI n, nI (2 ^ n), c', T, g, rs', rm)) : wpX_greatestAfter post (nI n, nI (2 ^ n), c0, T, g, rs, rm) (nI b) := by
  have key : ∀ d v, v + d = n → ∀ rs c, of_ga (of_w n T) r b v ≤ 1000100 → wX_greatestAfter_4 post (nI b) (d + 1) (nI (of_ga (of_w n T) r b v)) (nI v) (nI n) (nI (2 ^ n)) c T g rs rm := by
    intro d
    induction d with
    | zero =>
      intro v hv rs c _
      have e : v = n := by omega
      subst e
      exact br_t (of_le_refl v) (hp rs c)
    | succ d ih =>
      intro v hv rs c hga
      have hv2 : v < n := by omega
      have hw := of_w_le (T := T) hn b v
      refine br_f (of_nle (by omega) (by omega)) ?_
      unfold wpX_bitOf
      dsimp only
      rw [of_bitN (by omega)]
      cases hb2 : b.testBit v with
      | true =>
        rw [if_pos rfl]
        refine br_f of_10 (nm_r (nI_1 v) ?_)
        have e : of_ga (of_w n T) r b (v + 1) = of_ga (of_w n T) r b v := by
          simp only [of_ga]
          rw [if_neg (fun z => by rw [hb2] at z; exact Bool.noConfusion z.1)]
        rw [← e]
        exact ih (v + 1) (by omega) rs c (by omega)
      | false =>
        rw [if_neg Bool.false_ne_true]
        obtain ⟨h1, h2⟩ := hr v hv2 hb2
        refine br_t rfl (of_xsum hn hb hv2 h1 (fun rs' c' => ?_))
        dsimp only
        refine pk_le (of_w n T b v + r (b ||| 2 ^ v)) (of_ga (of_w n T) r b v) (fun hl => ?_) (fun hl => ?_) rfl rfl (by omega) (by omega)
        · refine nm_r (nI_1 v) ?_
          have e : of_ga (of_w n T) r b (v + 1) = of_ga (of_w n T) r b v := by
            simp only [of_ga]
            rw [if_neg (fun z => by omega)]
          rw [← e]
          exact ih (v + 1) (by omega) rs' c' (by omega)
        · refine nm_r (nI_1 v) ?_
          have e : of_ga (of_w n T) r b (v + 1) = of_w n T b v + r (b ||| 2 ^ v) := by
            simp only [of_ga]
            rw [if_pos ⟨hb2, hl⟩]
          rw [← e]
          exact ih (v + 1) (by omega) rs' c' (by omega)
  exact ⟨n + 1, key n 0 (by omega) rs c0 (by simp only [of_ga]; omega)⟩
theorem of_xgreat {post : Int32 → SX → Prop} (hn1 : 1 ≤ n) (hn : n ≤ 5) (hp : ∀ rs' c' rm' r, of_G n (of_w n T) r → post (nI (r 0)) (nI n, nI (2 ^ n), c', T, g, rs', rm')) : wpX_greatest post (nI n, nI (2 ^ n), c0, T, g, rs, rm) := by
  have h32 := of_32 hn
  have h0 := Nat.two_pow_pos n
  have hw := of_w_le (T := T) hn
  have key : ∀ k, k ≤ 2 ^ n - 1 → ∀ rs c rm (r : Nat → Nat), (∀ b, b < 2 ^ n → k ≤ b → rm b = nI (r b) ∧ r b ≤ 96 * (2 ^ n - 1 - b)) → r (2 ^ n - 1) = 0 → (∀ b, k ≤ b → b < 2 ^ n - 1 → r b = of_ga (of_w n T) r b n) → wX_greatest_19 post (k + 1) (nI k + (-1)) (nI n) (nI (2 ^ n)) c T g rs rm := by
    intro k
    induction k with
    | zero =>
      intro _ rs c rm r a1 a2 a3
      refine br_t of_m1 ?_
      rw [(a1 0 h0 (by omega)).1]
      exact hp rs c rm r ⟨a2, fun b hb => a3 b (by omega) hb⟩
    | succ k ih =>
      intro hk rs c rm r a1 a2 a3
      rw [pk_m1]
      refine br_f (nI_pos (by omega)) ?_
      have hle : ∀ v, v < n → k.testBit v = false → of_w n T k v + r (k ||| 2 ^ v) ≤ 96 * (2 ^ n - 1 - k) := by
        intro v hv hb2
        have h1 := (a1 _ (of_or_lt (by omega : k < 2 ^ n) hv) (of_or_gt hb2)).2
        have h2 := of_or_gt hb2
        have h3 := of_or_lt (by omega : k < 2 ^ n) hv
        have h4 := hw k v
        have h5 : 96 * (2 ^ n - 1 - (k ||| 2 ^ v)) + 96 ≤ 96 * (2 ^ n - 1 - k) := by
          rw [← Nat.mul_succ]
          exact Nat.mul_le_mul_left _ (by omega)
        omega
      refine of_xga (r := r) hn (by omega) (fun v hv hb2 => ?_) (fun rs' c' => ?_)
      · have h1 := a1 _ (of_or_lt (by omega : k < 2 ^ n) hv) (of_or_gt hb2)
        exact ⟨h1.1, by omega⟩
      dsimp only
      refine ⟨vp_in_nI (by omega) (by decide), ?_⟩
      rw [nI_clamp (by omega)]
      refine nm_e ?_
      refine nm_e ?_
      have hc : ∀ b, k ≤ b → of_ga (of_w n T) (fun q => if q = k then of_ga (of_w n T) r k n else r q) b n = of_ga (of_w n T) r b n := by
        intro b hb
        apply of_ga_c
        intro v hv hb2
        have := of_or_gt hb2
        show (if (b ||| 2 ^ v) = k then _ else r (b ||| 2 ^ v)) = _
        rw [if_neg (by omega)]
      refine ih (by omega) rs' c' _ (fun q => if q = k then of_ga (of_w n T) r k n else r q) ?_ ?_ ?_
      · intro b hb hkb
        show _ = nI (if b = k then _ else r b) ∧ (if b = k then _ else r b) ≤ 96 * (2 ^ n - 1 - b)
        by_cases e : b = k
        · rw [if_pos e, e]
          refine ⟨pk_us, ?_⟩
          rcases of_ga_att (w := of_w n T) (r := r) (b := k) n with z | ⟨v, z1, z2, z3⟩
          · omega
          · have := hle v z1 z2
            omega
        · rw [if_neg e, pk_un e]
          exact a1 b hb (by omega)
      · show (if 2 ^ n - 1 = k then _ else r (2 ^ n - 1)) = 0
        rw [if_neg (by omega)]
        exact a2
      · intro b hkb hb
        rw [hc b hkb]
        show (if b = k then _ else r b) = _
        by_cases e : b = k
        · rw [if_pos e, e]
        · rw [if_neg e]
          exact a3 b (by omega) hb
  have e1 : nI (2 ^ n) - 1 = nI (2 ^ n - 1) := pk_sub (a := 2 ^ n) (b := 1) (by omega)
  unfold wpX_greatest
  dsimp only
  rw [e1, nI_clamp (by omega)]
  refine ⟨vp_in_nI (by omega) (by decide), nm_e (nm_r (of_m2 hn1) ⟨2 ^ n - 1 + 1, ?_⟩)⟩
  refine key (2 ^ n - 1) (by omega) rs c0 _ (fun _ => 0) ?_ rfl ?_
  · intro b hb hkb
    have e : b = 2 ^ n - 1 := by omega
    rw [e]
    exact ⟨pk_us, Nat.zero_le _⟩
  · intro b hkb hb
    omega
end XS
end
section
/-! the reference's walks up to the size of an order -/
section YW
variable {n : Nat} {T pr o q : Nat → Int32} {c : Int32} {h : Nat → Nat}
theorem of_yval {post : Int32 → Prop} {f a : Nat} (hn : n ≤ 5) (hf : f < 3) (ha : a < 2 ^ n) (hp : post (if bt (T f) a = true then 1 else 0)) : wpY_value post (nI n, c, T, pr, o, q) (nI f) (nI a) := by
  have h32 := of_32 hn
  unfold wpY_value
  dsimp only
  unfold wpY_badFunction
  refine br_f (nI_pos (by omega)) (br_t (nI_le (b := 2) (by omega) (by decide)) ?_)
  refine br_t rfl (br_f (nI_pos (by omega)) (br_t ?_ ⟨vp_in_nI hf (by decide), ?_⟩))
  · rw [of_shl n (by omega)]
    exact nI_lt ha (by omega)
  · rw [nI_clamp (by omega), of_sbit _ (by omega)]
    exact hp
theorem of_ysp {post : Int32 → Prop} {f1 : Int32} (lo hi m s : Nat) (hhi : hi = lo + m) (h5 : hi ≤ 5) (ho : ∀ p, p < hi → o p = nI (h p) ∧ h p < 5) (hp : post (nI (of_sp h lo s m))) : wpY_spread post (f1, c, T, pr, o, q) (nI lo) (nI hi) (nI s) := by
  have key : ∀ d k, k + d = m → wY_spread_6 post (nI lo) (nI hi) (nI s) f1 c T pr o q (d + 1) (nI (of_sp h lo s k)) (nI (lo + k)) := by
    intro d
    induction d with
    | zero =>
      intro k hk
      have e : k = m := by omega
      subst e
      refine br_t ?_ hp
      rw [hhi]
      exact of_le_refl _
    | succ d ih =>
      intro k hk
      have hk5 := ho (lo + k) (by omega)
      refine br_f (of_nle (by omega) (by omega)) ?_
      rw [pk_sub (by omega : lo ≤ lo + k), show lo + k - lo = k by omega, of_sbit _ (by omega), of_bn (by omega)]
      cases hs : s.testBit k with
      | true =>
        rw [if_pos rfl]
        refine br_t rfl ⟨vp_in_nI (by omega) (by decide), ?_⟩
        rw [nI_clamp (by omega), hk5.1]
        refine nm_r (of_orN (by omega)) (nm_r (nI_1 (lo + k)) ?_)
        have e : of_sp h lo s (k + 1) = of_sp h lo s k ||| 2 ^ h (lo + k) := by
          simp only [of_sp]
          rw [if_pos hs]
        rw [← e]
        exact ih (k + 1) (by omega)
      | false =>
        rw [if_neg Bool.false_ne_true]
        refine br_f of_01 (nm_r (nI_1 (lo + k)) ?_)
        have e : of_sp h lo s (k + 1) = of_sp h lo s k := by
          simp only [of_sp]
          rw [if_neg (by rw [hs]; exact Bool.false_ne_true)]
        rw [← e]
        exact ih (k + 1) (by omega)
  exact ⟨m + 1, key m 0 (by omega)⟩
theorem of_ybd {p m : Nat} (hn : n ≤ 5) (hp : p + m = n) : (1 : Int32) <<< ((nI n - nI p) &&& 31) = nI (2 ^ m) := by
  rw [pk_sub (by omega), show n - p = m by omega, of_shl m (by omega)]
theorem of_yrest {post : Int32 → Prop} {p m f j : Nat} (hn : n ≤ 5) (P : of_Pm n h) (hpm : p + m = n) (ho : ∀ p, p < n → o p = nI (h p)) (hf : f < 3) (hp : post (of_ky (T f) h p m j)) : wpY_restOf post (nI n, c, T, pr, o, q) (nI f) (nI p) (nI j) := by
  have h32 := of_32 hn
  have hm32 := of_32 (n := m) (by omega)
  have ho2 : ∀ p, p < n → o p = nI (h p) ∧ h p < 5 := fun p hp => ⟨ho p hp, by have := P.1 p hp; omega⟩
  have key : ∀ d s, s + d = 2 ^ m → wY_restOf_15 post (nI f) (nI p) (nI (of_sp h 0 j p)) (nI n) c T pr o q (d + 1) (of_mk (fun s => bt (T f) (of_sp h 0 j p ||| of_sp h p s m)) s) (nI s) := by
    intro d
    induction d with
    | zero =>
      intro s hs
      have e : s = 2 ^ m := by omega
      subst e
      refine br_t ?_ hp
      rw [of_ybd hn hpm]
      exact of_le_refl _
    | succ d ih =>
      intro s hs
      have hl : of_sp h 0 j p ||| of_sp h p s m < 2 ^ n := Nat.or_lt_two_pow (of_sp_lt P (by omega)) (of_sp_lt P (by omega))
      refine br_f (by rw [of_ybd hn hpm]; exact of_nle (by omega) (by omega)) (of_ysp p n m s hpm.symm hn ho2 (nm_r (of_nor _ _) (of_yval hn hf hl ?_)))
      have hst := of_mk_step (fun s => bt (T f) (of_sp h 0 j p ||| of_sp h p s m)) s (by omega)
      cases hb : bt (T f) (of_sp h 0 j p ||| of_sp h p s m) with
      | true =>
        rw [hb, if_pos rfl] at hst
        rw [if_pos rfl]
        exact br_t rfl (nm_r hst (nm_r (nI_1 s) (ih (s + 1) (by omega))))
      | false =>
        rw [if_neg Bool.false_ne_true]
        refine br_f of_01 (nm_r (nI_1 s) ?_)
        have e : of_mk (fun s => bt (T f) (of_sp h 0 j p ||| of_sp h p s m)) (s + 1) = of_mk (fun s => bt (T f) (of_sp h 0 j p ||| of_sp h p s m)) s := by
          simp only [of_mk]
          rw [if_neg (by rw [hb]; exact Bool.false_ne_true)]
        rw [← e]
        exact ih (s + 1) (by omega)
  exact of_ysp 0 p p j (by omega) (by omega) (fun i hi => ho2 i (by omega)) ⟨2 ^ m + 1, key (2 ^ m) 0 (by omega)⟩
theorem of_ydep {post : Int32 → Prop} {r : Int32} {p m : Nat} (hn : n ≤ 5) (hpm : p + m = n) (hm : 0 < m) (h1 : of_dy (2 ^ (m - 1)) r = true → post 1) (h0 : of_dy (2 ^ (m - 1)) r = false → post 0) : wpY_depends post (nI n, c, T, pr, o, q) r (nI p) := by
  have e2 : 2 ^ m = 2 * 2 ^ (m - 1) := by
    rw [← Nat.pow_succ']
    congr 1
    omega
  have hm32 := of_32 (n := m) (by omega)
  have key : ∀ d k, k + d = 2 ^ (m - 1) → (∀ i, i < k → bt r (2 * i) = bt r (2 * i + 1)) → wY_depends_2 post r (nI p) (nI n) c T pr o q (d + 1) (nI (2 * k)) := by
    intro d
    induction d with
    | zero =>
      intro k hk hi
      have e : k = 2 ^ (m - 1) := by omega
      subst e
      refine br_t ?_ (h0 ?_)
      · rw [of_ybd hn hpm, ← e2]
        exact of_le_refl _
      · cases hd : of_dy (2 ^ (m - 1)) r with
        | false => rfl
        | true =>
          rw [of_dy_t] at hd
          obtain ⟨i, a1, a2⟩ := hd
          exact absurd (hi i a1) a2
    | succ d ih =>
      intro k hk hi
      refine br_f (by rw [of_ybd hn hpm]; exact of_nle (by omega) (by omega)) ?_
      rw [nI_1 (2 * k)]
      by_cases hb : bt r (2 * k) = bt r (2 * k + 1)
      · refine br_t (by rw [of_sbit r (by omega), of_sbit r (by omega), hb]) (nm_r (e' := nI (2 * (k + 1))) (nI_add (2 * k) 2) (ih (k + 1) (by omega) (lt_s hi hb)))
      · refine br_f (by rw [of_sbit r (by omega), of_sbit r (by omega), of_if]; exact hb) (h1 ?_)
        rw [of_dy_t]
        exact ⟨k, by omega, hb⟩
  exact ⟨2 ^ (m - 1) + 1, key (2 ^ (m - 1)) 0 (by omega) lt_0⟩
theorem of_ylist {post : Int32 → Prop} {f1 x : Int32} {k : Nat} (hk : k ≤ 48) (h1 : x ∈ of_ls q k → post 1) (h0 : ¬ x ∈ of_ls q k → post 0) : wpY_listed post (f1, nI k, T, pr, o, q) x := by
  have key : ∀ d i, i + d = k → (∀ j, j < i → ¬ q j = x) → wY_listed_2 post x f1 (nI k) T pr o q (d + 1) (nI i) := by
    intro d
    induction d with
    | zero =>
      intro i hi hj
      have e : i = k := by omega
      subst e
      refine br_t (of_le_refl i) (h0 ?_)
      intro z
      rw [of_ls_m] at z
      obtain ⟨j, a1, a2⟩ := z
      exact hj j a1 a2
    | succ d ih =>
      intro i hi hj
      refine br_f (of_nle (by omega) (by omega)) ⟨vp_in_nI (by omega) (by decide), ?_⟩
      rw [nI_clamp (by omega)]
      by_cases hx : q i = x
      · refine br_t hx (h1 ?_)
        rw [of_ls_m]
        exact ⟨i, by omega, hx⟩
      · exact br_f hx (nm_r (nI_1 i) (ih (i + 1) (by omega) (lt_s hj hx)))
  exact ⟨k + 1, key k 0 (by omega) lt_0⟩
theorem of_ywi {post : Int32 → SY → Prop} {J : Int32 → Int32 → (Nat → Int32) → (Nat → Int32) → (Nat → Int32) → (Nat → Int32) → Prop} {p m f : Nat} {L0 : List Int32} (hn : n ≤ 5) (P : of_Pm n h) (hpm : p + m = n) (hm : 0 < m) (ho : ∀ p, p < n → o p = nI (h p)) (hf : f < 3) (hL : L0.length ≤ f * 2 ^ p) (hJ : ∀ q' k, of_ls q' k = of_fi (of_KY T h p m) f L0 (2 ^ p) → J (nI (f + 1)) (nI k) T pr o q') : ∀ d j, j + d = 2 ^ p → ∀ q k, of_ls q k = of_fi (of_KY T h p m) f L0 j → wY_widthAt_14 post J (nI p) (nI f) (nI n) (d + 1) (nI j) (nI k) T pr o q := by
  have h16 : 2 ^ p ≤ 16 := Nat.pow_le_pow_right (n := 2) (by decide) (by omega : p ≤ 4)
  intro d
  induction d with
  | zero =>
    intro j hj q k hq
    have e : j = 2 ^ p := by omega
    subst e
    refine br_t ?_ (nm_r (nI_1 f) (hJ q k hq))
    rw [of_shl p (by omega)]
    exact of_le_refl _
  | succ d ih =>
    intro j hj q k hq
    have hk : k < 48 := by
      have h1 := of_fi_l (K := of_KY T h p m) (f := f) (L := L0) j
      rw [← hq, of_ls_len] at h1
      have h2 : f * 2 ^ p ≤ 2 * 2 ^ p := Nat.mul_le_mul_right _ (by omega)
      omega
    refine br_f (by rw [of_shl p (by omega)]; exact of_nle (by omega) (by omega)) (of_yrest hn P hpm ho hf (of_ydep hn hpm hm (fun hd => ?_) (fun hd => ?_)))
    · have e : of_KY T h p m f j = some (of_ky (T f) h p m j) := by
        unfold of_KY
        rw [if_pos hd]
      refine br_f of_10 (of_ylist (by omega) (fun hx => ?_) (fun hx => ?_))
      · refine br_f of_10 (nm_r (nI_1 j) (ih (j + 1) (by omega) q k ?_))
        simp only [of_fi]
        rw [e, ← hq]
        simp only [of_in]
        rw [if_pos hx]
      · refine br_t rfl (br_f (of_nle (b := 48) hk (by decide)) ⟨vp_in_nI hk (by decide), nm_r (e' := upd q k (of_ky (T f) h p m j)) (by rw [nI_clamp (by omega)]) (nm_r (nI_1 k) (nm_r (nI_1 j) (ih (j + 1) (by omega) _ (k + 1) ?_)))⟩)
        simp only [of_fi]
        rw [e, ← hq, of_ls_u]
        simp only [of_in]
        rw [if_neg hx]
    · have e : of_KY T h p m f j = none := by
        unfold of_KY
        rw [if_neg (by rw [hd]; exact Bool.false_ne_true)]
      refine br_t rfl (nm_r (nI_1 j) (ih (j + 1) (by omega) q k ?_))
      simp only [of_fi]
      rw [e, hq]
      rfl
theorem of_yw {post : Int32 → SY → Prop} {p : Nat} (hn : n ≤ 5) (P : of_Pm n h) (hpn : p < n) (ho : ∀ p, p < n → o p = nI (h p)) (hp : ∀ q' c', post (nI (of_w n T (of_bs h p) (h p))) (nI n, c', T, pr, o, q')) : wpY_widthAt post (nI n, c, T, pr, o, q) (nI p) := by
  have hpm : p + (n - p) = n := by omega
  have hm : 0 < n - p := by omega
  have key : ∀ d f, f + d = 3 → ∀ q k, of_ls q k = of_fo (of_KY T h p (n - p)) (2 ^ p) f → wY_widthAt_7 post (nI p) (nI n) (d + 1) (nI f) (nI k) T pr o q := by
    intro d
    induction d with
    | zero =>
      intro f hf q k hq
      have e : f = 3 := by omega
      subst e
      have e2 : k = of_w n T (of_bs h p) (h p) := by
        have h2 : (of_ls q k).length = (of_yl T h p (n - p)).length := by rw [hq]; rfl
        rw [of_ls_len, of_width hn P hpm hm] at h2
        exact h2
      refine br_t (of_le_refl 3) ?_
      rw [e2]
      exact hp q _
    | succ d ih =>
      intro f hf q k hq
      refine br_f (of_nle (b := 3) (by omega) (by decide)) ⟨2 ^ p + 1, ?_⟩
      exact of_ywi hn P hpm hm ho (by omega) (of_fo_l f) (fun q' k' h' => ih (f + 1) (by omega) q' k' h') (2 ^ p) 0 (by omega) q k hq
  exact ⟨4, key 3 0 (by omega) q 0 rfl⟩
theorem of_ysize {post : Int32 → SY → Prop} (hn : n ≤ 5) (P : of_Pm n h) (ho : ∀ p, p < n → o p = nI (h p)) (hp : ∀ q' c', post (nI (of_sz (of_w n T) h n)) (nI n, c', T, pr, o, q')) : wpY_sizeOfOrder post (nI n, c, T, pr, o, q) := by
  have key : ∀ d k, k + d = n → ∀ q c, wY_sizeOfOrder_4 post (d + 1) (nI (of_sz (of_w n T) h k)) (nI k) (nI n) c T pr o q := by
    intro d
    induction d with
    | zero =>
      intro k hk q c
      have e : k = n := by omega
      subst e
      exact br_t (of_le_refl k) (hp q c)
    | succ d ih =>
      intro k hk q c
      refine br_f (of_nle (by omega) (by omega)) (of_yw hn P (by omega) ho (fun q' c' => ?_))
      exact nm_r (nI_add _ _) (nm_r (nI_1 k) (ih (k + 1) (by omega) q' c'))
  exact ⟨n + 1, key n 0 (by omega) q c⟩
theorem of_ylay {post : SY → Prop} {f1 : Int32} (hp : ∀ o', (∀ p, p < 5 → o' p = pr p) → post (f1, c, T, pr, o', q)) : wpY_layPresent post (f1, c, T, pr, o, q) := by
  have key : ∀ d p, p + d = 5 → ∀ o, (∀ i, i < p → o i = pr i) → wY_layPresent_2 post f1 c (d + 1) (nI p) T pr o q := by
    intro d
    induction d with
    | zero =>
      intro p h5 o hi
      have e : p = 5 := by omega
      subst e
      exact br_t (of_le_refl 5) (hp o hi)
    | succ d ih =>
      intro p h5 o hi
      refine br_f (of_nle (b := 5) (by omega) (by decide)) ⟨vp_in_nI (by omega) (by decide), vp_in_nI (by omega) (by decide), ?_⟩
      rw [nI_clamp (by omega)]
      refine nm_e (nm_r (nI_1 p) (ih (p + 1) (by omega) _ ?_))
      intro i hlt
      by_cases e : i = p
      · rw [e]; exact pk_us
      · rw [pk_un e]; exact hi i (by omega)
  exact ⟨6, key 5 0 (by omega) o lt_0⟩
theorem of_ystart {post : SY → Prop} {f1 : Int32} (hp : ∀ o', (∀ p, p < 5 → o' p = nI p) → post (f1, c, T, pr, o', q)) : wpY_start post (f1, c, T, pr, o, q) := by
  have key : ∀ d p, p + d = 5 → ∀ o, (∀ i, i < p → o i = nI i) → wY_start_2 post f1 c (d + 1) (nI p) T pr o q := by
    intro d
    induction d with
    | zero =>
      intro p h5 o hi
      have e : p = 5 := by omega
      subst e
      exact br_t (of_le_refl 5) (hp o hi)
    | succ d ih =>
      intro p h5 o hi
      refine br_f (of_nle (b := 5) (by omega) (by decide)) ⟨vp_in_nI (by omega) (by decide), ?_⟩
      rw [nI_clamp (by omega)]
      refine nm_e (nm_r (nI_1 p) (ih (p + 1) (by omega) _ ?_))
      intro i hlt
      by_cases e : i = p
      · rw [e]; exact pk_us
      · rw [pk_un e]; exact hi i (by omega)
  exact ⟨6, key 5 0 (by omega) o lt_0⟩
end YW
end
section
/-! the reference's next order, and its searches -/
section YN
variable {n : Nat} {T pr o q : Nat → Int32} {c : Int32}
theorem of_nm1 {n : Nat} (h : 1 ≤ n) : nI n - 1 = nI (n - 1) := by
  obtain ⟨m, rfl⟩ : ∃ m, n = m + 1 := ⟨n - 1, by omega⟩
  exact nI_pred m
theorem of_nm2 : ∀ m, m < 5 → nI (m + 1) - 2 = nI m + (-1) := by decide +kernel
/-- the array's first cells are the list's -/
def of_rp (n : Nat) (l : List Nat) (o : Nat → Int32) : Prop := l.length = n ∧ ∀ p, p < n → o p = nI (l.getD p 0)
theorem of_rp_sw {l : List Nat} {i j : Nat} (hi : i < n) (hj : j < n) (R : of_rp n l o) : of_rp n (of_sw l i j) (upd (upd o i (o j)) j (o i)) := by
  refine ⟨by rw [of_sw_len]; exact R.1, fun p hp => ?_⟩
  rw [of_sw_at (by rw [R.1]; exact hp)]
  by_cases e : p = j
  · rw [if_pos e, e, pk_us]
    exact R.2 i hi
  · rw [if_neg e, pk_un e]
    by_cases e2 : p = i
    · rw [if_pos e2, e2, pk_us]
      exact R.2 j hj
    · rw [if_neg e2, pk_un e2]
      exact R.2 p hp
theorem of_y112 {post : Int32 → SY → Prop} (hn : n ≤ 5) : ∀ d lo hi l o, hi - lo ≤ d → hi < n → of_rp n l o → (∀ o', of_rp n (of_rv lo hi l d) o' → post 1 (nI n, c, T, pr, o', q)) → lo ≤ n → wY_next_112 post (nI n) c (d + 1) (nI lo) (nI hi) T pr o q := by
  intro d
  induction d with
  | zero =>
    intro lo hi l o h1 h2 R hp h3
    exact br_t (nI_le (by omega) (by omega)) (hp o R)
  | succ d ih =>
    intro lo hi l o h1 h2 R hp h3
    by_cases hl : hi ≤ lo
    · refine br_t (nI_le hl (by omega)) (hp o ?_)
      simp only [of_rv]
      rw [if_neg (by omega)]
      exact R
    · refine br_f (of_nle (by omega) (by omega)) ⟨vp_in_nI (by omega) (by decide), ?_⟩
      rw [nI_clamp (by omega : lo < 2 ^ 31), nI_clamp (by omega : hi < 2 ^ 31)]
      refine nm_e ⟨vp_in_nI (by omega) (by decide), vp_in_nI (by omega) (by decide), nm_e ⟨vp_in_nI (by omega) (by decide), nm_e (nm_r (nI_1 lo) ?_)⟩⟩
      obtain ⟨k, rfl⟩ : ∃ k, hi = k + 1 := ⟨hi - 1, by omega⟩
      refine nm_r (pk_m1 k) (ih (lo + 1) k (of_sw l lo (k + 1)) _ (by omega) (by omega) (of_rp_sw (by omega) h2 R) (fun o' R' => hp o' ?_) (by omega))
      simp only [of_rv]
      rw [if_pos (by omega)]
      exact R'
theorem of_y73 {post : Int32 → SY → Prop} {l : List Nat} {i j : Nat} (hn : n ≤ 5) (hi : i < n) (hj : j < n) (R : of_rp n l o) (hp : ∀ o', of_rp n (of_rv (i + 1) (n - 1) (of_sw l i j) n) o' → post 1 (nI n, c, T, pr, o', q)) : wY_next_73 post (nI i) (nI j) (nI n) c T pr o q := by
  unfold wY_next_73
  rw [nI_clamp (by omega : i < 2 ^ 31), nI_clamp (by omega : j < 2 ^ 31)]
  refine ⟨vp_in_nI (by omega) (by decide), nm_e ⟨vp_in_nI (by omega) (by decide), vp_in_nI (by omega) (by decide), nm_e ⟨vp_in_nI (by omega) (by decide), nm_e (nm_r (nI_1 i) (nm_r (of_nm1 (by omega)) ⟨n + 1, ?_⟩))⟩⟩⟩
  exact of_y112 hn n (i + 1) (n - 1) (of_sw l i j) _ (by omega) (by omega) (of_rp_sw hi hj R) hp (by omega)
theorem of_sj_lt {l : List Nat} {i : Nat} : ∀ k, of_sj l i k ≤ k := by
  intro k
  induction k with
  | zero => exact Nat.le_refl _
  | succ k ih =>
    simp only [of_sj]
    split <;> omega
theorem of_y47 {post : Int32 → SY → Prop} {l : List Nat} {i : Nat} (hn : n ≤ 5) (hi : i < n) (hlt : ∀ p, p < n → l.getD p 0 < n) (R : of_rp n l o) (hp : ∀ o', of_rp n (of_rv (i + 1) (n - 1) (of_sw l i (of_sj l i (n - 1))) n) o' → post 1 (nI n, c, T, pr, o', q)) : ∀ k, k < n → of_sj l i k = of_sj l i (n - 1) → wY_next_47 post (nI i) (nI n) c T pr o q (k + 1) (nI k) := by
  intro k
  induction k with
  | zero =>
    intro hk e
    have e0 : 0 = of_sj l i (n - 1) := e
    rw [← e0] at hp
    exact br_t (nI_le (by omega) (by omega)) (of_y73 hn hi (by omega) R hp)
  | succ k ih =>
    intro hk e
    have a1 := hlt i hi
    have a2 := hlt (k + 1) hk
    simp only [of_sj] at e
    refine pk_le (k + 1) i (fun hle => ?_) (fun hle => ?_) rfl rfl (by omega) (by omega)
    · rw [if_neg (by omega)] at e
      rw [← e] at hp
      exact of_y73 hn hi hk R hp
    · refine ⟨vp_in_nI (by omega) (by decide), vp_in_nI (by omega) (by decide), ?_⟩
      rw [nI_clamp (by omega : i < 2 ^ 31), nI_clamp (by omega : k + 1 < 2 ^ 31), R.2 i hi, R.2 (k + 1) hk]
      refine pk_le (l.getD i 0) (l.getD (k + 1) 0) (fun hl => ?_) (fun hl => ?_) rfl rfl (by omega) (by omega)
      · rw [if_neg (by omega)] at e
        rw [← e] at hp
        exact of_y73 hn hi hk R hp
      · rw [if_pos ⟨hle, hl⟩] at e
        exact nm_r (pk_m1 k) (ih (by omega) e)
theorem of_ynext {post : Int32 → SY → Prop} {l : List Nat} (hn1 : 1 ≤ n) (hn : n ≤ 5) (hlt : ∀ p, p < n → l.getD p 0 < n) (R : of_rp n l o) (h0 : of_nx n l = none → post 0 (nI n, c, T, pr, o, q)) (h1 : ∀ l' o', of_nx n l = some l' → of_rp n l' o' → post 1 (nI n, c, T, pr, o', q)) : wpY_next post (nI n, c, T, pr, o, q) := by
  have key : ∀ k, k < n → of_sc l k = of_sc l (n - 1) → wY_next_7 post (nI n) c T pr o q (k + 1) (nI k + (-1)) := by
    intro k
    induction k with
    | zero =>
      intro hk e
      refine br_t of_m1 (br_f (by decide) (h0 ?_))
      have e0 : of_sc l (n - 1) = 0 := e.symm
      unfold of_nx
      rw [e0]
    | succ k ih =>
      intro hk e
      have a1 := hlt k (by omega)
      have a2 := hlt (k + 1) hk
      simp only [of_sc] at e
      rw [pk_m1]
      refine br_f (nI_pos (by omega)) ⟨vp_in_nI (by omega) (by decide), ?_⟩
      rw [nI_1 k, nI_clamp (by omega : k < 2 ^ 31), nI_clamp (by omega : k + 1 < 2 ^ 31), R.2 k (by omega), R.2 (k + 1) hk]
      refine ⟨vp_in_nI (by omega) (by decide), ?_⟩
      refine pk_le (l.getD k 0) (l.getD (k + 1) 0) (fun hl => ?_) (fun hl => ?_) rfl rfl (by omega) (by omega)
      · rw [if_neg (by omega)] at e
        have e2 : of_nx n l = some (of_rv (k + 1) (n - 1) (of_sw l k (of_sj l k (n - 1))) n) := by
          unfold of_nx
          rw [← e]
        refine br_t (nI_pos' (by omega)) (nm_r (of_nm1 hn1) ⟨n - 1 + 1, ?_⟩)
        exact of_y47 hn (by omega) hlt R (fun o' R' => h1 _ o' e2 R') (n - 1) (by omega) rfl
      · rw [if_pos hl] at e
        exact nm_e (ih (by omega) e)
  obtain ⟨m, rfl⟩ : ∃ m, n = m + 1 := ⟨n - 1, by omega⟩
  exact nm_r (of_nm2 m (by omega)) ⟨m + 1, key m (by omega) rfl⟩
theorem of_ch_1 {l : List Nat} (h : of_ch n [l] = true) : of_nx n l = none := by
  simp only [of_ch, Bool.and_eq_true, decide_eq_true_iff] at h
  exact h.1
theorem of_ch_2 {l l' : List Nat} {L : List (List Nat)} (h : of_ch n (l :: l' :: L) = true) : of_nx n l = some l' ∧ of_ch n (l' :: L) = true := by
  rw [of_ch, Bool.and_eq_true] at h
  exact ⟨of_decide_eq_true h.1, h.2⟩
theorem of_ysz {post : Int32 → SY → Prop} {l : List Nat} (hn1 : 1 ≤ n) (hn : n ≤ 5) (hl : l ∈ of_en n n 0) (R : of_rp n l o) (hp : ∀ q' c', post (nI (of_cost (of_w n T) 0 l)) (nI n, c', T, pr, o, q')) : wpY_sizeOfOrder post (nI n, c, T, pr, o, q) := by
  have e := of_sz_cost (w := of_w n T) l
  rw [R.1] at e
  rw [← e] at hp
  exact of_ysize hn (of_pm hn1 hn hl) R.2 hp
theorem of_cost_b {l : List Nat} (hn : n ≤ 5) (hl : l ∈ of_en n n 0) : of_cost (of_w n T) 0 l ≤ 480 := by
  have h1 := of_cost_le (fun b v => of_w_le (T := T) hn b v) l 0
  have h2 := of_en_len _ _ _ hl
  have h3 : 96 * l.length ≤ 96 * 5 := Nat.mul_le_mul_left _ (by omega)
  omega
theorem of_y40 {post : Int32 → SY → Prop} {J : Int32 → Int32 → Int32 → Int32 → Int32 → (Nat → Int32) → (Nat → Int32) → (Nat → Int32) → (Nat → Int32) → Prop} {x1 x2 x5 : Int32} {l : List Nat} {m : Nat} (hn1 : 1 ≤ n) (hn : n ≤ 5) (hm : m ≤ 1000) (hl : l ∈ of_en n n 0) (R : of_rp n l o) (hp : ∀ q' c', wY_lowest_55 post J x1 x2 (nI (if of_cost (of_w n T) 0 l < m then of_cost (of_w n T) 0 l else m)) x5 (nI n) c' T pr o q') : wY_lowest_40 post J x1 x2 (nI m) x5 (nI n) c T pr o q := by
  have hb := of_cost_b (T := T) hn hl
  unfold wY_lowest_40
  refine of_ysz hn1 hn hl R (fun q' c' => ?_)
  refine pk_le m (of_cost (of_w n T) 0 l) (fun h => ?_) (fun h => ?_) rfl rfl (by omega) (by omega)
  · have h2 := hp q' c'
    rw [if_neg (by omega)] at h2
    exact h2
  · have h2 := hp q' c'
    rw [if_pos h] at h2
    exact h2
theorem of_ylow {post : Int32 → SY → Prop} {x1 x2 : Int32} {p : List Nat → Bool} (hn1 : 1 ≤ n) (hn : n ≤ 5) (hx : (x1 < 0 ∧ ∀ l, p l = true) ∨ (∃ pv pp, pv < n ∧ pp < n ∧ x1 = nI pv ∧ x2 = nI pp ∧ ∀ l, p l = decide (l.getD pp 0 = pv))) : ∀ (L : List (List Nat)) (l : List Nat) (i m : Nat) (o q : Nat → Int32) (c : Int32), of_ch n (l :: L) = true → (∀ l', l' ∈ l :: L → l' ∈ of_en n n 0) → i + L.length < 120 → m ≤ 1000 → of_rp n l o → (∀ o' q' c', post (nI (of_mn (of_cost (of_w n T) 0) p (l :: L) m)) (nI n, c', T, pr, o', q')) → wY_lowest_14 post x1 x2 (L.length + 2) (nI m) 1 (nI i) (nI n) c T pr o q := by
  intro L
  induction L with
  | nil =>
    intro l i m o q c hch hen hi hm R hp
    have hl := hen l List.mem_cons_self
    have P := of_pm hn1 hn hl
    have h55 : ∀ q c, wY_lowest_55 post (wY_lowest_14 post x1 x2 1) x1 x2 (nI (of_mn (of_cost (of_w n T) 0) p [l] m)) (nI i) (nI n) c T pr o q := by
      intro q c
      unfold wY_lowest_55
      refine of_ynext hn1 hn P.1 R (fun _ => ?_) (fun l' o' e _ => ?_)
      · refine nm_e ?_
        exact br_c (fun _ => hp o q c) (fun _ => br_t rfl (hp o q c))
      · rw [of_ch_1 hch] at e
        cases e
    refine br_f (of_nle (b := 120) (by simp at hi; omega) (by decide)) (br_f of_10 ?_)
    rcases hx with ⟨hx1, hx2⟩ | ⟨pv, pp, b1, b2, b3, b4, b5⟩
    · refine br_t hx1 (of_y40 hn1 hn hm hl R (fun q' c' => ?_))
      have e : of_mn (of_cost (of_w n T) 0) p [l] m = (if of_cost (of_w n T) 0 l < m then of_cost (of_w n T) 0 l else m) := by
        simp only [of_mn, hx2, true_and]
      rw [← e]
      exact h55 q' c'
    · subst b3 b4
      refine br_f (nI_pos (by omega)) ⟨vp_in_nI (by omega) (by decide), ?_⟩
      rw [nI_clamp (by omega : pp < 2 ^ 31), R.2 pp b2]
      have hb : l.getD pp 0 < n := P.1 pp b2
      refine pk_eq (l.getD pp 0) pv (fun he => ?_) (fun he => ?_) rfl rfl (by omega) (by omega)
      · refine of_y40 hn1 hn hm hl R (fun q' c' => ?_)
        have e : of_mn (of_cost (of_w n T) 0) p [l] m = (if of_cost (of_w n T) 0 l < m then of_cost (of_w n T) 0 l else m) := by
          simp only [of_mn, b5, he, decide_true, true_and]
        rw [← e]
        exact h55 q' c'
      · have e : of_mn (of_cost (of_w n T) 0) p [l] m = m := by
          simp only [of_mn, b5, decide_eq_false he, Bool.false_eq_true, false_and, if_false]
        have h2 := h55 q c
        rw [e] at h2
        exact h2
  | cons l2 L ih =>
    intro l i m o q c hch hen hi hm R hp
    have hl := hen l List.mem_cons_self
    have P := of_pm hn1 hn hl
    obtain ⟨hc1, hc2⟩ := of_ch_2 hch
    have h55 : ∀ m' q c, m' ≤ 1000 → of_mn (of_cost (of_w n T) 0) p (l :: l2 :: L) m = of_mn (of_cost (of_w n T) 0) p (l2 :: L) m' → wY_lowest_55 post (wY_lowest_14 post x1 x2 (L.length + 2)) x1 x2 (nI m') (nI i) (nI n) c T pr o q := by
      intro m' q c hm' hmn
      rw [hmn] at hp
      unfold wY_lowest_55
      refine of_ynext hn1 hn P.1 R (fun e => ?_) (fun l' o' e R' => ?_)
      · rw [hc1] at e
        cases e
      · rw [hc1] at e
        cases e
        refine nm_r (nI_1 i) ?_
        exact ih l2 (i + 1) m' o' q c hc2 (fun l' h' => hen l' (List.mem_cons_of_mem _ h')) (by rw [List.length_cons] at hi; omega) hm' R' hp
    refine br_f (of_nle (b := 120) (by rw [List.length_cons] at hi; omega) (by decide)) (br_f of_10 ?_)
    rcases hx with ⟨hx1, hx2⟩ | ⟨pv, pp, b1, b2, b3, b4, b5⟩
    · refine br_t hx1 (of_y40 hn1 hn hm hl R (fun q' c' => h55 _ q' c' (by split <;> omega) ?_))
      rw [of_mn]
      simp only [hx2, true_and]
    · subst b3 b4
      refine br_f (nI_pos (by omega)) ⟨vp_in_nI (by omega) (by decide), ?_⟩
      rw [nI_clamp (by omega : pp < 2 ^ 31), R.2 pp b2]
      have hb : l.getD pp 0 < n := P.1 pp b2
      refine pk_eq (l.getD pp 0) pv (fun he => ?_) (fun he => ?_) rfl rfl (by omega) (by omega)
      · refine of_y40 hn1 hn hm hl R (fun q' c' => h55 _ q' c' (by split <;> omega) ?_)
        rw [of_mn]
        simp only [b5 l, he, decide_true, true_and]
      · refine h55 m q c hm ?_
        rw [of_mn]
        simp only [b5 l, decide_eq_false he, Bool.false_eq_true, false_and, if_false]
end YN
end
section
/-! the reference's searches, whole -/
section YS
variable {n : Nat} {T pr o q : Nat → Int32} {c : Int32}
theorem of_rp0 {o : Nat → Int32} (hn : n ≤ 5) (ho : ∀ p, p < 5 → o p = nI p) : of_rp n (List.range n) o := by
  refine ⟨List.length_range, fun p hp => ?_⟩
  rw [ho p (by omega), List.getD_eq_getElem?_getD, List.getElem?_range hp]
  rfl
theorem of_ylowest {post : Int32 → SY → Prop} {x1 x2 : Int32} {p : List Nat → Bool} (hn1 : 1 ≤ n) (hn : n ≤ 5) (hx : (x1 < 0 ∧ ∀ l, p l = true) ∨ (∃ pv pp, pv < n ∧ pp < n ∧ x1 = nI pv ∧ x2 = nI pp ∧ ∀ l, p l = decide (l.getD pp 0 = pv))) (hp : ∀ o' q' c', post (nI (of_mn (of_cost (of_w n T) 0) p (of_en n n 0) 1000)) (nI n, c', T, pr, o', q')) : wpY_lowest post (nI n, c, T, pr, o, q) x1 x2 := by
  obtain ⟨L, a1, a2, a3⟩ := of_all hn1 hn
  rw [a1] at hp
  refine of_ystart (fun o' ho' => ?_)
  exact ⟨L.length + 2, of_ylow hn1 hn hx L (List.range n) 0 1000 o' q c a3 (fun l' h' => by rw [a1]; exact h') (by omega) (Nat.le_refl _) (of_rp0 hn ho') hp⟩
theorem of_ygr {post : Int32 → SY → Prop} (hn1 : 1 ≤ n) (hn : n ≤ 5) : ∀ (L : List (List Nat)) (l : List Nat) (i m : Nat) (o q : Nat → Int32) (c : Int32), of_ch n (l :: L) = true → (∀ l', l' ∈ l :: L → l' ∈ of_en n n 0) → i + L.length < 120 → m ≤ 1000 → of_rp n l o → (∀ o' q' c', post (nI (of_mx (of_cost (of_w n T) 0) (l :: L) m)) (nI n, c', T, pr, o', q')) → wY_greatest_10 post (L.length + 2) (nI m) 1 (nI i) (nI n) c T pr o q := by
  intro L
  induction L with
  | nil =>
    intro l i m o q c hch hen hi hm R hp
    have hl := hen l List.mem_cons_self
    have P := of_pm hn1 hn hl
    have hb := of_cost_b (T := T) hn hl
    have h35 : ∀ m' q c, of_mx (of_cost (of_w n T) 0) [l] m = m' → wY_greatest_35 post (wY_greatest_10 post 1) (nI m') (nI i) (nI n) c T pr o q := by
      intro m' q c e
      rw [e] at hp
      unfold wY_greatest_35
      refine of_ynext hn1 hn P.1 R (fun _ => ?_) (fun l' o' e _ => ?_)
      · refine nm_e ?_
        exact br_c (fun _ => hp o q c) (fun _ => br_t rfl (hp o q c))
      · rw [of_ch_1 hch] at e
        cases e
    refine br_f (of_nle (b := 120) (by simp at hi; omega) (by decide)) (br_f of_10 (of_ysz hn1 hn hl R (fun q' c' => ?_)))
    refine pk_le (of_cost (of_w n T) 0 l) m (fun hl => h35 _ q' c' ?_) (fun hl => h35 _ q' c' ?_) rfl rfl (by omega) (by omega)
    · simp only [of_mx]
      rw [if_neg (by omega)]
    · simp only [of_mx]
      rw [if_pos hl]
  | cons l2 L ih =>
    intro l i m o q c hch hen hi hm R hp
    have hl := hen l List.mem_cons_self
    have P := of_pm hn1 hn hl
    have hb := of_cost_b (T := T) hn hl
    obtain ⟨hc1, hc2⟩ := of_ch_2 hch
    have h35 : ∀ m' q c, m' ≤ 1000 → of_mx (of_cost (of_w n T) 0) (l :: l2 :: L) m = of_mx (of_cost (of_w n T) 0) (l2 :: L) m' → wY_greatest_35 post (wY_greatest_10 post (L.length + 2)) (nI m') (nI i) (nI n) c T pr o q := by
      intro m' q c hm' e
      rw [e] at hp
      unfold wY_greatest_35
      refine of_ynext hn1 hn P.1 R (fun e => ?_) (fun l' o' e R' => ?_)
      · rw [hc1] at e
        cases e
      · rw [hc1] at e
        cases e
        refine nm_r (nI_1 i) ?_
        exact ih l2 (i + 1) m' o' q c hc2 (fun l' h' => hen l' (List.mem_cons_of_mem _ h')) (by rw [List.length_cons] at hi; omega) hm' R' hp
    refine br_f (of_nle (b := 120) (by rw [List.length_cons] at hi; omega) (by decide)) (br_f of_10 (of_ysz hn1 hn hl R (fun q' c' => ?_)))
    refine pk_le (of_cost (of_w n T) 0 l) m (fun hl => h35 _ q' c' hm ?_) (fun hl => h35 _ q' c' (by omega) ?_) rfl rfl (by omega) (by omega)
    · rw [of_mx, if_neg (by omega)]
    · rw [of_mx, if_pos hl]
theorem of_ygreatest {post : Int32 → SY → Prop} (hn1 : 1 ≤ n) (hn : n ≤ 5) (hp : ∀ o' q' c', post (nI (of_mx (of_cost (of_w n T) 0) (of_en n n 0) 0)) (nI n, c', T, pr, o', q')) : wpY_greatest post (nI n, c, T, pr, o, q) := by
  obtain ⟨L, a1, a2, a3⟩ := of_all hn1 hn
  rw [a1] at hp
  refine of_ystart (fun o' ho' => ?_)
  exact ⟨L.length + 2, of_ygr hn1 hn L (List.range n) 0 0 o' q c a3 (fun l' h' => by rw [a1]; exact h') (by omega) (by omega) (of_rp0 hn ho') hp⟩
theorem of_ybs {post : Int32 → SY → Prop} {p M : Nat} (hn1 : 1 ≤ n) (hn : n ≤ 5) (hpl : p < n) (hM : M ≤ 1000) : ∀ (L : List (List Nat)) (l : List Nat) (i : Nat) (o q : Nat → Int32) (c : Int32) (lf : List Nat), of_ch n (l :: L) = true → (∀ l', l' ∈ l :: L → l' ∈ of_en n n 0) → i + L.length < 120 → of_rp n l o → (l :: L).find? (fun l => decide (of_cost (of_w n T) 0 l = M)) = some lf → (∀ o' q' c', post (nI (lf.getD p 0)) (nI n, c', T, pr, o', q')) → wY_best_26 post (nI p) (nI M) (L.length + 2) 1 (nI i) (nI n) c T pr o q := by
  intro L
  induction L with
  | nil =>
    intro l i o q c lf hch hen hi R hf hp
    have hl := hen l List.mem_cons_self
    have hb := of_cost_b (T := T) hn hl
    refine br_f (of_nle (b := 120) (by simp at hi; omega) (by decide)) (br_f of_10 (of_ysz hn1 hn hl R (fun q' c' => ?_)))
    rw [List.find?_cons] at hf
    refine pk_eq (of_cost (of_w n T) 0 l) M (fun he => ?_) (fun he => ?_) rfl rfl (by omega) (by omega)
    · rw [decide_eq_true he] at hf
      cases hf
      refine ⟨vp_in_nI (by omega) (by decide), ?_⟩
      rw [nI_clamp (by omega : p < 2 ^ 31), R.2 p hpl]
      exact hp o q' c'
    · rw [decide_eq_false he] at hf
      cases hf
  | cons l2 L ih =>
    intro l i o q c lf hch hen hi R hf hp
    have hl := hen l List.mem_cons_self
    have P := of_pm hn1 hn hl
    have hb := of_cost_b (T := T) hn hl
    obtain ⟨hc1, hc2⟩ := of_ch_2 hch
    refine br_f (of_nle (b := 120) (by rw [List.length_cons] at hi; omega) (by decide)) (br_f of_10 (of_ysz hn1 hn hl R (fun q' c' => ?_)))
    rw [List.find?_cons] at hf
    refine pk_eq (of_cost (of_w n T) 0 l) M (fun he => ?_) (fun he => ?_) rfl rfl (by omega) (by omega)
    · rw [decide_eq_true he] at hf
      cases hf
      refine ⟨vp_in_nI (by omega) (by decide), ?_⟩
      rw [nI_clamp (by omega : p < 2 ^ 31), R.2 p hpl]
      exact hp o q' c'
    · rw [decide_eq_false he] at hf
      refine of_ynext hn1 hn P.1 R (fun e => ?_) (fun l' o' e R' => ?_)
      · rw [hc1] at e
        cases e
      · rw [hc1] at e
        cases e
        refine nm_r (nI_1 i) ?_
        exact ih l2 (i + 1) o' q' c' lf hc2 (fun l' h' => hen l' (List.mem_cons_of_mem _ h')) (by rw [List.length_cons] at hi; omega) R' hf hp
theorem of_ybest {post : Int32 → SY → Prop} {p M : Nat} {lf : List Nat} (hn1 : 1 ≤ n) (hn : n ≤ 5) (hpl : p < n) (hM : M ≤ 1000) (hf : (of_en n n 0).find? (fun l => decide (of_cost (of_w n T) 0 l = M)) = some lf) (ho : ∀ p, p < 5 → o p = nI p) (hp : ∀ o' q' c', post (nI (lf.getD p 0)) (nI n, c', T, pr, o', q')) : ∃ k : Nat, wY_best_26 post (nI p) (nI M) k 1 0 (nI n) c T pr o q := by
  obtain ⟨L, a1, a2, a3⟩ := of_all hn1 hn
  rw [a1] at hf
  exact ⟨L.length + 2, of_ybs hn1 hn hpl hM L (List.range n) 0 o q c lf a3 (fun l' h' => by rw [a1]; exact h') (by omega) (of_rp0 hn ho) hf hp⟩
/-! ranges -/
theorem of_xno {post : Int32 → Prop} {f2 f3 x : Int32} {g rs rm : Nat → Int32} (hz : x < 0 ∨ nI n ≤ x) (hp : post 0) : wpX_isVariableOrPlace post (nI n, f2, f3, T, g, rs, rm) x := by
  by_cases h0 : x < 0
  · exact br_t h0 hp
  · rcases hz with z | z
    · exact absurd z h0
    · exact br_f h0 (br_t z hp)
theorem of_xyes {post : Int32 → Prop} {f2 f3 : Int32} {g rs rm : Nat → Int32} {j : Nat} (hj : j < n) (hn : n ≤ 5) (hp : post 1) : wpX_isVariableOrPlace post (nI n, f2, f3, T, g, rs, rm) (nI j) := br_f (nI_pos (by omega)) (br_f (of_nle hj (by omega)) hp)
theorem of_yno {post : Int32 → Prop} {x : Int32} (hz : x < 0 ∨ nI n ≤ x) (hp : post 1) : wpY_outside post (nI n, c, T, pr, o, q) x := by
  by_cases h0 : x < 0
  · exact br_t h0 hp
  · rcases hz with z | z
    · exact absurd z h0
    · exact br_f h0 (br_f (Int32.not_lt.mpr z) hp)
theorem of_yyes {post : Int32 → Prop} {j : Nat} (hj : j < n) (hn : n ≤ 5) (hp : post 0) : wpY_outside post (nI n, c, T, pr, o, q) (nI j) := br_f (nI_pos (by omega)) (br_t (nI_lt hj (by omega)) hp)
theorem of_rg (x : Int32) {n : Nat} (hn : n < 2 ^ 31) : (x < 0 ∨ nI n ≤ x) ∨ ∃ j, j < n ∧ x = nI j := by
  rcases pk_ix x hn with z | z | z
  · exact Or.inl (Or.inl z)
  · exact Or.inl (Or.inr z)
  · exact Or.inr z
end YS
end
section
/-! the relation and what is owed -/
/-- one table, one present order (of n variables, each on one place); what the searches leave behind is free -/
def i_Rel (_ : Nat) (u : SX) (v : SY) : Prop := ∃ (n : Nat) (h : Nat → Nat) (c c' : Int32) (T g rs rm o q : Nat → Int32), 1 ≤ n ∧ n ≤ 5 ∧ of_Pm n h ∧ (∀ p, p < n → g p = nI (h p)) ∧ u = (nI n, nI (2 ^ n), c, T, g, rs, rm) ∧ v = (nI n, c', T, g, o, q)
theorem i_up {k : Nat} {u : SX} {v : SY} (h : i_Rel k u v) : i_Rel (k + 3) u v := h
theorem of_rel {k n : Nat} {h : Nat → Nat} {c c' : Int32} {T g rs rm o q : Nat → Int32} (h1 : 1 ≤ n) (h5 : n ≤ 5) (P : of_Pm n h) (hg : ∀ p, p < n → g p = nI (h p)) : i_Rel k (nI n, nI (2 ^ n), c, T, g, rs, rm) (nI n, c', T, g, o, q) := ⟨n, h, c, c', T, g, rs, rm, o, q, h1, h5, P, hg, rfl, rfl⟩
def of_g0 : Nat → Nat → Int32
  | 0 => fun _ => 0
  | k + 1 => upd (of_g0 k) k (nI k)
theorem of_g0_at : ∀ k p, p < k → of_g0 k p = nI p := by
  intro k
  induction k with
  | zero => intro p hp; omega
  | succ k ih =>
    intro p hp
    simp only [of_g0]
    by_cases e : p = k
    · rw [e]; exact pk_us
    · rw [pk_un e]; exact ih p (by omega)
theorem of_xi {post : SX → Prop} {T rs rm : Nat → Int32} {f1 f2 f3 : Int32} (hp : post (f1, f2, f3, T, of_g0 5, rs, rm)) : ∃ k, wX_init_64 post f1 f2 f3 k 0 T (fun _ => 0) rs rm := by
  have key : ∀ d p, p + d = 5 → wX_init_64 post f1 f2 f3 (d + 1) (nI p) T (of_g0 p) rs rm := by
    intro d
    induction d with
    | zero =>
      intro p h5
      have e : p = 5 := by omega
      subst e
      exact br_t (of_le_refl 5) hp
    | succ d ih =>
      intro p h5
      refine br_f (of_nle (b := 5) (by omega) (by decide)) ⟨vp_in_nI (by omega) (by decide), ?_⟩
      rw [nI_clamp (by omega)]
      exact nm_e (nm_r (nI_1 p) (ih (p + 1) (by omega)))
  exact ⟨6, key 5 0 (by omega)⟩
theorem of_yi {post : SY → Prop} {T o q : Nat → Int32} {f1 f2 : Int32} (hp : post (f1, f2, T, of_g0 5, o, q)) : ∃ k, wY_init_58 post f1 f2 k 0 T (fun _ => 0) o q := by
  have key : ∀ d p, p + d = 5 → wY_init_58 post f1 f2 (d + 1) (nI p) T (of_g0 p) o q := by
    intro d
    induction d with
    | zero =>
      intro p h5
      have e : p = 5 := by omega
      subst e
      exact br_t (of_le_refl 5) hp
    | succ d ih =>
      intro p h5
      refine br_f (of_nle (b := 5) (by omega) (by decide)) ⟨vp_in_nI (by omega) (by decide), ?_⟩
      rw [nI_clamp (by omega)]
      exact nm_e (nm_r (nI_1 p) (ih (p + 1) (by omega)))
  exact ⟨6, key 5 0 (by omega)⟩
theorem of_id (n : Nat) : of_Pm n (fun p => p) := ⟨fun _ hp => hp, fun _ _ _ _ e => e, fun v hv => ⟨v, hv, rfl⟩⟩
theorem of_rel0 {n : Nat} {c c' : Int32} {T rs rm o q : Nat → Int32} (h1 : 1 ≤ n) (h5 : n ≤ 5) : i_Rel 1 (nI n, nI (2 ^ n), c, T, of_g0 5, rs, rm) (nI n, c', T, of_g0 5, o, q) := of_rel h1 h5 (of_id n) (fun p hp => of_g0_at 5 p (by omega))
theorem i_vc0 (k0 : Int32) : wpX_init (fun u => wpY_init (fun v => i_Rel 1 u v) k0) k0 := by
  by_cases a1 : 1 ≤ k0
  · by_cases a5 : k0 ≤ 5
    · have h0 : ¬ k0 < 0 := by
        intro z
        rw [Int32.le_iff_toInt_le] at a1
        rw [Int32.lt_iff_toInt_lt] at z
        have e1 : (1 : Int32).toInt = 1 := by decide
        have e0 : (0 : Int32).toInt = 0 := by decide
        omega
      obtain ⟨n, hn, rfl⟩ := nI_of2 (M := 5) (n := 5) (by decide) h0 a5
      have h1 : 1 ≤ n := (nI_leI (a := 1) (by decide) (by omega)).mp a1
      refine br_t a1 (br_t a5 (nm_r (of_shl n (by omega)) (of_xi ?_)))
      exact br_t a1 (br_t a5 (of_yi (of_rel0 h1 hn)))
    · refine br_t a1 (br_f a5 (nm_r (of_shl 5 (by decide)) (of_xi ?_)))
      exact br_t a1 (br_f a5 (of_yi (of_rel0 (n := 5) (by decide) (by decide))))
  · refine br_f a1 (br_t (by decide) (nm_r (of_shl 1 (by decide)) (of_xi ?_)))
    exact br_f a1 (of_yi (of_rel0 (n := 1) (by decide) (by decide)))
theorem of_n2 {x : Int32} (h : nI 3 ≤ x) : ¬ x ≤ 2 := by
  intro z
  rw [Int32.le_iff_toInt_le] at h z
  have e3 : (nI 3).toInt = 3 := by decide
  have e2 : (2 : Int32).toInt = 2 := by decide
  omega
theorem of_xf0 {post : Int32 → Prop} {u : SX} {x : Int32} (hz : x < 0 ∨ nI 3 ≤ x) (hp : post 0) : wpX_isFunction post u x := by
  by_cases h0 : x < 0
  · exact br_t h0 hp
  · rcases hz with z | z
    · exact absurd z h0
    · exact br_f h0 (br_t z hp)
theorem of_xf1 {post : Int32 → Prop} {u : SX} {j : Nat} (hj : j < 3) (hp : post 1) : wpX_isFunction post u (nI j) := br_f (nI_pos (by omega)) (br_f (of_nle (b := 3) hj (by decide)) hp)
theorem of_yf1 {post : Int32 → Prop} {x : Int32} (hz : x < 0 ∨ nI 3 ≤ x) (hp : post 1) : wpY_badFunction post x := by
  by_cases h0 : x < 0
  · exact br_t h0 hp
  · rcases hz with z | z
    · exact absurd z h0
    · exact br_f h0 (br_f (of_n2 z) hp)
theorem of_yf0 {post : Int32 → Prop} {j : Nat} (hj : j < 3) (hp : post 0) : wpY_badFunction post (nI j) := br_f (nI_pos (by omega)) (br_t (nI_le (b := 2) (by omega) (by decide)) hp)
theorem i_vc_load {k : Nat} {u : SX} {v : SY} (I : i_Rel k u v) (hk : k + 3 ≤ 1537) (v1 : Int32) (v2 : Int32) : wpX_load (fun r u' => wpY_load (fun r' v' => r' = r ∧ i_Rel (k + 3) u' v') v v1 v2) u v1 v2 := by
  obtain ⟨n, h, c, c', T, g, rs, rm, o, q, h1, h5, P, hg, rfl, rfl⟩ := I
  unfold wpX_load wpY_load
  dsimp only
  rcases of_rg v1 (n := 3) (by decide) with z | ⟨j, hj, rfl⟩
  · refine of_xf0 z (br_t rfl ?_)
    exact of_yf1 z (br_f of_10 ⟨rfl, of_rel h1 h5 P hg⟩)
  · refine of_xf1 hj (br_f of_10 ⟨vp_in_nI hj (by decide), nm_e ?_⟩)
    exact of_yf0 hj (br_t rfl ⟨vp_in_nI hj (by decide), nm_e ⟨rfl, of_rel h1 h5 P hg⟩⟩)
theorem of_xa0 {post : Int32 → Prop} {n : Nat} {f1 f3 x : Int32} {T g rs rm : Nat → Int32} (hz : x < 0 ∨ nI (2 ^ n) ≤ x) (hp : post 0) : wpX_isAssignment post (f1, nI (2 ^ n), f3, T, g, rs, rm) x := by
  by_cases h0 : x < 0
  · exact br_t h0 hp
  · rcases hz with z | z
    · exact absurd z h0
    · exact br_f h0 (br_t z hp)
theorem of_xa1 {post : Int32 → Prop} {n j : Nat} {f1 f3 : Int32} {T g rs rm : Nat → Int32} (h5 : n ≤ 5) (hj : j < 2 ^ n) (hp : post 1) : wpX_isAssignment post (f1, nI (2 ^ n), f3, T, g, rs, rm) (nI j) := by
  have h32 := of_32 h5
  exact br_f (nI_pos (by omega)) (br_f (of_nle hj (by omega)) hp)
theorem of_ya0 {n : Nat} {A B C : Prop} {x : Int32} (h5 : n ≤ 5) (hz : x < 0 ∨ nI (2 ^ n) ≤ x) (ha : A) (hc : C) : (x < 0 → A) ∧ (¬ x < 0 → ((x < ((1 : Int32) <<< (nI n &&& 31)) → B) ∧ (¬ x < ((1 : Int32) <<< (nI n &&& 31)) → C))) := by
  by_cases h0 : x < 0
  · exact br_t h0 ha
  · rcases hz with z | z
    · exact absurd z h0
    · refine br_f h0 (br_f ?_ hc)
      rw [of_shl n (by omega)]
      exact Int32.not_lt.mpr z
theorem of_ya1 {n j : Nat} {A B C : Prop} (h5 : n ≤ 5) (hj : j < 2 ^ n) (hb : B) : (nI j < 0 → A) ∧ (¬ nI j < 0 → ((nI j < ((1 : Int32) <<< (nI n &&& 31)) → B) ∧ (¬ nI j < ((1 : Int32) <<< (nI n &&& 31)) → C))) := by
  have h32 := of_32 h5
  refine br_f (nI_pos (by omega)) (br_t ?_ hb)
  rw [of_shl n (by omega)]
  exact nI_lt hj (by omega)
theorem i_vc_flip {k : Nat} {u : SX} {v : SY} (I : i_Rel k u v) (hk : k + 3 ≤ 1537) (v1 : Int32) (v2 : Int32) : wpX_flip (fun r u' => wpY_flip (fun r' v' => r' = r ∧ i_Rel (k + 3) u' v') v v1 v2) u v1 v2 := by
  obtain ⟨n, h, c, c', T, g, rs, rm, o, q, h1, h5, P, hg, rfl, rfl⟩ := I
  have h32 := of_32 h5
  unfold wpX_flip wpY_flip
  dsimp only
  rcases of_rg v1 (n := 3) (by decide) with z | ⟨j, hj, rfl⟩
  · refine of_xf0 z (br_t rfl ?_)
    exact of_yf1 z (br_f of_10 ⟨rfl, of_rel h1 h5 P hg⟩)
  · refine of_xf1 hj (br_f of_10 ?_)
    rcases of_rg v2 (n := 2 ^ n) (by omega) with z | ⟨a, ha, rfl⟩
    · refine of_xa0 z (br_t rfl ?_)
      exact of_yf0 hj (br_t rfl (of_ya0 h5 z ⟨rfl, of_rel h1 h5 P hg⟩ ⟨rfl, of_rel h1 h5 P hg⟩))
    · refine of_xa1 h5 ha (br_f of_10 ⟨vp_in_nI hj (by decide), vp_in_nI hj (by decide), nm_e ⟨vp_in_nI hj (by decide), ?_⟩⟩)
      unfold wpX_bitOf
      dsimp only
      rw [nI_clamp (by omega : j < 2 ^ 31), of_ubit _ (by omega)]
      refine of_yf0 hj (br_t rfl (of_ya1 h5 ha ⟨vp_in_nI hj (by decide), vp_in_nI hj (by decide), nm_e ?_⟩))
      exact of_yval h5 hj ha ⟨rfl, of_rel h1 h5 P hg⟩
theorem i_vc_value {k : Nat} {u : SX} {v : SY} (I : i_Rel k u v) (hk : k + 3 ≤ 1537) (v1 : Int32) (v2 : Int32) : wpX_value (fun r => wpY_value (fun r' => r' = r ∧ i_Rel (k + 3) u v) v v1 v2) u v1 v2 := by
  have I0 : i_Rel (k + 3) u v := I
  obtain ⟨n, h, c, c', T, g, rs, rm, o, q, h1, h5, P, hg, rfl, rfl⟩ := I
  have h32 := of_32 h5
  rcases of_rg v1 (n := 3) (by decide) with z | ⟨j, hj, rfl⟩
  · unfold wpX_value wpY_value
    dsimp only
    refine of_xf0 z (br_t rfl ?_)
    exact of_yf1 z (br_f of_10 ⟨rfl, I0⟩)
  · rcases of_rg v2 (n := 2 ^ n) (by omega) with z | ⟨a, ha, rfl⟩
    · unfold wpX_value wpY_value
      dsimp only
      refine of_xf1 hj (br_f of_10 (of_xa0 z (br_t rfl ?_)))
      exact of_yf0 hj (br_t rfl (of_ya0 h5 z ⟨rfl, I0⟩ ⟨rfl, I0⟩))
    · unfold wpX_value
      dsimp only
      refine of_xf1 hj (br_f of_10 (of_xa1 h5 ha (br_f of_10 ⟨vp_in_nI hj (by decide), ?_⟩)))
      unfold wpX_bitOf
      dsimp only
      rw [nI_clamp (by omega : j < 2 ^ 31), of_ubit _ (by omega)]
      exact of_yval h5 hj ha ⟨rfl, I0⟩
def of_hs (h : Nat → Nat) (i j p : Nat) : Nat := if p = j then h i else if p = i then h j else h p
theorem of_hs_pm {n i j : Nat} {h : Nat → Nat} (P : of_Pm n h) (hi : i < n) (hj : j < n) : of_Pm n (of_hs h i j) := by
  obtain ⟨P1, P2, P3⟩ := P
  refine ⟨fun p hp => ?_, fun p p' hp hp' e => ?_, fun v hv => ?_⟩
  · unfold of_hs
    split
    · exact P1 i hi
    · split
      · exact P1 j hj
      · exact P1 p hp
  · unfold of_hs at e
    split at e <;> split at e <;> (try split at e) <;> (try split at e) <;> first | omega | (have := P2 _ _ (by assumption) (by assumption) e; omega)
  · obtain ⟨p, hp, e⟩ := P3 v hv
    by_cases e1 : p = i
    · refine ⟨j, hj, ?_⟩
      unfold of_hs
      rw [if_pos rfl, ← e1]
      exact e
    · by_cases e2 : p = j
      · refine ⟨i, hi, ?_⟩
        unfold of_hs
        rw [if_neg (by omega), if_pos rfl, ← e2]
        exact e
      · refine ⟨p, hp, ?_⟩
        unfold of_hs
        rw [if_neg e2, if_neg e1]
        exact e
theorem of_hs_at {n i j : Nat} {h : Nat → Nat} {g : Nat → Int32} (hg : ∀ p, p < n → g p = nI (h p)) (hi : i < n) (hj : j < n) : ∀ p, p < n → upd (upd g i (g j)) j (g i) p = nI (of_hs h i j p) := by
  intro p hp
  unfold of_hs
  by_cases e : p = j
  · rw [if_pos e, e, pk_us]; exact hg i hi
  · rw [if_neg e, pk_un e]
    by_cases e2 : p = i
    · rw [if_pos e2, e2, pk_us]; exact hg j hj
    · rw [if_neg e2, pk_un e2]; exact hg p hp
theorem i_vc_swap {k : Nat} {u : SX} {v : SY} (I : i_Rel k u v) (hk : k + 3 ≤ 1537) (v1 : Int32) (v2 : Int32) : wpX_swap (fun r u' => wpY_swap (fun r' v' => r' = r ∧ i_Rel (k + 3) u' v') v v1 v2) u v1 v2 := by
  obtain ⟨n, h, c, c', T, g, rs, rm, o, q, h1, h5, P, hg, rfl, rfl⟩ := I
  unfold wpX_swap wpY_swap
  dsimp only
  rcases of_rg v1 (n := n) (by omega) with z | ⟨i, hi, rfl⟩
  · refine of_xno z (br_t rfl ?_)
    exact of_yno z (br_f of_10 ⟨rfl, of_rel h1 h5 P hg⟩)
  · refine of_xyes hi h5 (br_f of_10 ?_)
    rcases of_rg v2 (n := n) (by omega) with z | ⟨j, hj, rfl⟩
    · refine of_xno z (br_t rfl ?_)
      exact of_yyes hi h5 (br_t rfl (of_yno z (br_f of_10 ⟨rfl, of_rel h1 h5 P hg⟩)))
    · rw [nI_clamp (by omega : i < 2 ^ 31), nI_clamp (by omega : j < 2 ^ 31)]
      have b1 : vp_in (nI i) 5 := vp_in_nI (by omega) (by decide)
      have b2 : vp_in (nI j) 5 := vp_in_nI (by omega) (by decide)
      refine of_xyes hj h5 (br_f of_10 ⟨b1, nm_e ⟨b2, b1, nm_e ⟨b2, nm_e ?_⟩⟩⟩)
      refine of_yyes hi h5 (br_t rfl (of_yyes hj h5 (br_t rfl ⟨b1, nm_e ⟨b2, b1, nm_e ⟨b2, nm_e ?_⟩⟩⟩)))
      exact ⟨rfl, of_rel h1 h5 (of_hs_pm P hi hj) (of_hs_at hg hi hj)⟩
theorem i_vc_at {k : Nat} {u : SX} {v : SY} (I : i_Rel k u v) (hk : k + 3 ≤ 1537) (v1 : Int32) : wpX_at (fun r => wpY_at (fun r' => r' = r ∧ i_Rel (k + 3) u v) v v1) u v1 := by
  have I0 : i_Rel (k + 3) u v := I
  obtain ⟨n, h, c, c', T, g, rs, rm, o, q, h1, h5, P, hg, rfl, rfl⟩ := I
  unfold wpX_at wpY_at
  dsimp only
  rcases of_rg v1 (n := n) (by omega) with z | ⟨i, hi, rfl⟩
  · refine of_xno z (br_t rfl ?_)
    exact of_yno z (br_f of_10 ⟨rfl, I0⟩)
  · refine of_xyes hi h5 (br_f of_10 ⟨vp_in_nI (by omega) (by decide), ?_⟩)
    exact of_yyes hi h5 (br_t rfl ⟨vp_in_nI (by omega) (by decide), rfl, I0⟩)
theorem i_vc_width {k : Nat} {u : SX} {v : SY} (I : i_Rel k u v) (hk : k + 3 ≤ 1537) (v1 : Int32) : wpX_width (fun r u' => wpY_width (fun r' v' => r' = r ∧ i_Rel (k + 3) u' v') v v1) u v1 := by
  obtain ⟨n, h, c, c', T, g, rs, rm, o, q, h1, h5, P, hg, rfl, rfl⟩ := I
  unfold wpX_width wpY_width
  dsimp only
  rcases of_rg v1 (n := n) (by omega) with z | ⟨i, hi, rfl⟩
  · refine of_xno z (br_t rfl ?_)
    exact of_yno z (br_f of_10 ⟨rfl, of_rel h1 h5 P hg⟩)
  · refine of_xyes hi h5 (br_f of_10 (of_xwidth h5 P hg hi (fun rs' c' => ?_)))
    refine of_yyes hi h5 (br_t rfl (of_ylay (fun o' ho' => ?_)))
    have ho2 : ∀ p, p < n → o' p = nI (h p) := fun p hp => (ho' p (by omega)).trans (hg p hp)
    exact of_yw h5 P hi ho2 (fun q' c' => ⟨rfl, of_rel h1 h5 P hg⟩)
theorem i_vc_size {k : Nat} {u : SX} {v : SY} (I : i_Rel k u v) (hk : k + 3 ≤ 1537) : wpX_size (fun r u' => wpY_size (fun r' v' => r' = r ∧ i_Rel (k + 3) u' v') v) u := by
  obtain ⟨n, h, c, c', T, g, rs, rm, o, q, h1, h5, P, hg, rfl, rfl⟩ := I
  unfold wpY_size
  refine of_xsize h5 P hg (fun rs' c' => ?_)
  dsimp only
  refine of_ylay (fun o' ho' => ?_)
  have ho2 : ∀ p, p < n → o' p = nI (h p) := fun p hp => (ho' p (by omega)).trans (hg p hp)
  exact of_ysize h5 P ho2 (fun q' c' => ⟨rfl, of_rel h1 h5 P hg⟩)
theorem of_free {n : Nat} (h5 : n ≤ 5) : ∀ b, b < 2 ^ n → ∀ v, v < n → (((if nI v = -1 then 1 else 0 : Int32) = if nI (of_cn b n) = -1 then 1 else 0) ↔ (fun _ _ => true : Nat → Nat → Bool) b v = true) := by
  intro b _ v hv
  have h := of_cn_le b n
  rw [if_neg (of_neg1 (by omega)), if_neg (of_neg1 (by omega))]
  exact ⟨fun _ => rfl, fun _ => rfl⟩
theorem of_pinned {n pv pp : Nat} (h5 : n ≤ 5) (hv : pv < n) (hp : pp < n) : ∀ b, b < 2 ^ n → ∀ v, v < n → (((if nI v = nI pv then 1 else 0 : Int32) = if nI (of_cn b n) = nI pp then 1 else 0) ↔ of_pin n pv pp b v = true) := by
  intro b _ v hv2
  have h := of_cn_le b n
  unfold of_pin
  rw [beq_iff_eq]
  have e1 : nI v = nI pv ↔ v = pv := nI_eq (by omega) (by omega)
  have e2 : nI (of_cn b n) = nI pp ↔ of_cn b n = pp := nI_eq (by omega) (by omega)
  by_cases a1 : v = pv
  · by_cases a2 : of_cn b n = pp
    · rw [if_pos (e1.mpr a1), if_pos (e2.mpr a2), decide_eq_true a1, decide_eq_true a2]
      simp
    · rw [if_pos (e1.mpr a1), if_neg (fun z => a2 (e2.mp z)), decide_eq_true a1, decide_eq_false a2]
      simp
  · by_cases a2 : of_cn b n = pp
    · rw [if_neg (fun z => a1 (e1.mp z)), if_pos (e2.mpr a2), decide_eq_false a1, decide_eq_true a2]
      simp
    · rw [if_neg (fun z => a1 (e1.mp z)), if_neg (fun z => a2 (e2.mp z)), decide_eq_false a1, decide_eq_false a2]
      simp
theorem of_leastF {n : Nat} {T : Nat → Int32} {r : Nat → Nat} (h1 : 1 ≤ n) (h5 : n ≤ 5) (F : of_F n (fun _ _ => true) (of_w n T) r) : of_mn (of_cost (of_w n T) 0) (fun _ => true) (of_en n n 0) 1000 = r 0 ∧ r 0 < 1000 := by
  refine of_least F h5 (fun b v => of_w_le h5 b v) (fun l hl => ?_) ?_
  · exact (of_ok_of_en n 0 l (Nat.two_pow_pos n) (by rw [of_cn_0]; omega) hl).symm
  · obtain ⟨L, a1, _, _⟩ := of_all h1 h5
    exact ⟨List.range n, by rw [a1]; exact List.mem_cons_self, rfl⟩
theorem of_leastP {n pv pp : Nat} {T : Nat → Int32} {r : Nat → Nat} (h1 : 1 ≤ n) (h5 : n ≤ 5) (hv : pv < n) (hp : pp < n) (F : of_F n (of_pin n pv pp) (of_w n T) r) : of_mn (of_cost (of_w n T) 0) (fun l => decide (l.getD pp 0 = pv)) (of_en n n 0) 1000 = r 0 ∧ r 0 < 1000 :=
  of_least F h5 (fun b v => of_w_le h5 b v) (fun _ hl => of_pinE h1 h5 hl hv hp) (of_exE h1 h5 hv hp)
theorem i_vc_least {k : Nat} {u : SX} {v : SY} (I : i_Rel k u v) (hk : k + 3 ≤ 1537) : wpX_least (fun r u' => wpY_least (fun r' v' => r' = r ∧ i_Rel (k + 3) u' v') v) u := by
  obtain ⟨n, h, c, c', T, g, rs, rm, o, q, h1, h5, P, hg, rfl, rfl⟩ := I
  unfold wpX_least wpY_least
  dsimp only
  refine of_xfill (al := fun _ _ => true) h1 h5 (of_free h5) (fun rs' c' rm' r hr F => ?_)
  dsimp only
  refine of_ylowest (p := fun _ => true) h1 h5 (Or.inl ⟨by decide, fun _ => rfl⟩) (fun o' q' c' => ?_)
  dsimp only
  rw [(of_leastF h1 h5 F).1, (hr 0 (Nat.two_pow_pos n)).1]
  exact ⟨rfl, of_rel h1 h5 P hg⟩
theorem i_vc_best {k : Nat} {u : SX} {v : SY} (I : i_Rel k u v) (hk : k + 3 ≤ 1537) (v1 : Int32) : wpX_best (fun r u' => wpY_best (fun r' v' => r' = r ∧ i_Rel (k + 3) u' v') v v1) u v1 := by
  obtain ⟨n, h, c, c', T, g, rs, rm, o, q, h1, h5, P, hg, rfl, rfl⟩ := I
  unfold wpX_best wpY_best
  dsimp only
  rcases of_rg v1 (n := n) (by omega) with z | ⟨i, hi, rfl⟩
  · refine of_xno z (br_t rfl ?_)
    exact of_yno z (br_f of_10 ⟨rfl, of_rel h1 h5 P hg⟩)
  · refine of_xyes hi h5 (br_f of_10 (of_xfill (al := fun _ _ => true) h1 h5 (of_free h5) (fun rs' c' rm' r hr F => ?_)))
    obtain ⟨e1, e2⟩ := of_leastF h1 h5 F
    obtain ⟨lf, f1, f2⟩ := of_best F (by omega)
    refine of_xbest h1 h5 hi hr (fun rs' c' => ?_)
    refine of_yyes hi h5 (br_t rfl (of_ylowest (p := fun _ => true) h1 h5 (Or.inl ⟨by decide, fun _ => rfl⟩) (fun o' q' c' => ?_)))
    rw [e1]
    refine of_ystart (fun o' ho' => ?_)
    refine of_ybest h1 h5 hi (by omega) f1 ho' (fun o' q' c' => ?_)
    rw [f2 i hi]
    exact ⟨rfl, of_rel h1 h5 P hg⟩
theorem i_vc_greatest {k : Nat} {u : SX} {v : SY} (I : i_Rel k u v) (hk : k + 3 ≤ 1537) : wpX_greatest (fun r u' => wpY_greatest (fun r' v' => r' = r ∧ i_Rel (k + 3) u' v') v) u := by
  obtain ⟨n, h, c, c', T, g, rs, rm, o, q, h1, h5, P, hg, rfl, rfl⟩ := I
  refine of_xgreat h1 h5 (fun rs' c' rm' r F => ?_)
  refine of_ygreatest h1 h5 (fun o' q' c' => ?_)
  rw [of_greatest F]
  exact ⟨rfl, of_rel h1 h5 P hg⟩
theorem i_vc_leastWith {k : Nat} {u : SX} {v : SY} (I : i_Rel k u v) (hk : k + 3 ≤ 1537) (v1 : Int32) (v2 : Int32) : wpX_leastWith (fun r u' => wpY_leastWith (fun r' v' => r' = r ∧ i_Rel (k + 3) u' v') v v1 v2) u v1 v2 := by
  obtain ⟨n, h, c, c', T, g, rs, rm, o, q, h1, h5, P, hg, rfl, rfl⟩ := I
  unfold wpX_leastWith wpY_leastWith
  dsimp only
  rcases of_rg v1 (n := n) (by omega) with z | ⟨i, hi, rfl⟩
  · refine of_xno z (br_t rfl ?_)
    exact of_yno z (br_f of_10 ⟨rfl, of_rel h1 h5 P hg⟩)
  · refine of_xyes hi h5 (br_f of_10 ?_)
    rcases of_rg v2 (n := n) (by omega) with z | ⟨j, hj, rfl⟩
    · refine of_xno z (br_t rfl ?_)
      exact of_yyes hi h5 (br_t rfl (of_yno z (br_f of_10 ⟨rfl, of_rel h1 h5 P hg⟩)))
    · refine of_xyes hj h5 (br_f of_10 (of_xfill (al := of_pin n i j) h1 h5 (of_pinned h5 hi hj) (fun rs' c' rm' r hr F => ?_)))
      refine of_yyes hi h5 (br_t rfl (of_yyes hj h5 (br_t rfl (of_ylowest (p := fun l => decide (l.getD j 0 = i)) h1 h5 (Or.inr ⟨i, j, hi, hj, rfl, rfl, fun _ => rfl⟩) (fun o' q' c' => ?_)))))
      dsimp only
      rw [(of_leastP h1 h5 hi hj F).1, (hr 0 (Nat.two_pow_pos n)).1]
      exact ⟨rfl, of_rel h1 h5 P hg⟩
end
