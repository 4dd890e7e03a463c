/-! sets of variables as numbers; costs of orders; the recursion over sets against the search over orders -/
def of_cost (w : Nat → Nat → Nat) : Nat → List Nat → Nat
  | _, [] => 0
  | b, v :: l => w b v + of_cost w (b ||| 2 ^ v) l
def of_ok (n : Nat) (al : Nat → Nat → Bool) : Nat → List Nat → Bool
  | b, [] => decide (b = 2 ^ n - 1)
  | b, v :: l => decide (v < n) && (!b.testBit v && (al b v && of_ok n al (b ||| 2 ^ v) l))
theorem of_ok_cons {n : Nat} {al : Nat → Nat → Bool} {b v : Nat} {l : List Nat} : of_ok n al b (v :: l) = true ↔ v < n ∧ b.testBit v = false ∧ al b v = true ∧ of_ok n al (b ||| 2 ^ v) l = true := by
  simp [of_ok]
theorem of_ok_nil {n : Nat} {al : Nat → Nat → Bool} {b : Nat} : of_ok n al b [] = true ↔ b = 2 ^ n - 1 := by
  simp [of_ok]
/-- how many of the variables below k are in b -/
def of_cn (b : Nat) : Nat → Nat
  | 0 => 0
  | k + 1 => of_cn b k + (if b.testBit k = true then 1 else 0)
theorem of_cn_or {b v : Nat} (h : b.testBit v = false) : ∀ k, of_cn (b ||| 2 ^ v) k = of_cn b k + (if v < k then 1 else 0) := by
  intro k
  induction k with
  | zero => simp [of_cn]
  | succ k ih =>
    simp only [of_cn]
    rw [ih, Nat.testBit_or, Nat.testBit_two_pow]
    rcases Nat.lt_trichotomy v k with e | e | e
    · have h1 : v < k + 1 := by omega
      have h2 : ¬ v = k := by omega
      rw [if_pos e, if_pos h1, decide_eq_false h2, Bool.or_false]
      omega
    · subst e
      rw [h]
      simp
    · have h1 : ¬ v < k + 1 := by omega
      have h2 : ¬ v = k := by omega
      have h3 : ¬ v < k := by omega
      rw [if_neg h3, if_neg h1, decide_eq_false h2, Bool.or_false]
      omega
theorem of_cn_le (b : Nat) : ∀ k, of_cn b k ≤ k := by
  intro k
  induction k with
  | zero => exact Nat.le_refl _
  | succ k ih =>
    simp only [of_cn]
    split <;> omega
theorem of_cn_full {b : Nat} : ∀ k, of_cn b k = k → ∀ v, v < k → b.testBit v = true := by
  intro k
  induction k with
  | zero => intro _ v hv; omega
  | succ k ih =>
    intro h v hv
    simp only [of_cn] at h
    have hl := of_cn_le b k
    split at h
    · rename_i ht
      rcases Nat.lt_or_ge v k with z | z
      · exact ih (by omega) v z
      · have e : v = k := by omega
        rw [e]; exact ht
    · omega
theorem of_cn_all {b : Nat} : ∀ k, (∀ v, v < k → b.testBit v = true) → of_cn b k = k := by
  intro k
  induction k with
  | zero => intro _; rfl
  | succ k ih =>
    intro h
    simp only [of_cn]
    rw [ih (fun v hv => h v (by omega)), if_pos (h k (by omega))]
theorem of_hi {b n i : Nat} (hb : b < 2 ^ n) (hi : n ≤ i) : b.testBit i = false := Nat.testBit_lt_two_pow (Nat.lt_of_lt_of_le hb (Nat.pow_le_pow_right (by decide) hi))
theorem of_full {n b : Nat} (hb : b < 2 ^ n) (h : of_cn b n = n) : b = 2 ^ n - 1 := by
  apply Nat.eq_of_testBit_eq
  intro i
  rw [Nat.testBit_two_pow_sub_one]
  rcases Nat.lt_or_ge i n with z | z
  · rw [of_cn_full n h i z, decide_eq_true z]
  · rw [of_hi hb z, decide_eq_false (by omega)]
theorem of_cn_m1 (n : Nat) : of_cn (2 ^ n - 1) n = n := of_cn_all n (fun v hv => by rw [Nat.testBit_two_pow_sub_one, decide_eq_true hv])
theorem of_cn_0 : ∀ k, of_cn 0 k = 0 := by
  intro k
  induction k with
  | zero => rfl
  | succ k ih => simp [of_cn, ih]
theorem of_or_lt {b v n : Nat} (hb : b < 2 ^ n) (hv : v < n) : b ||| 2 ^ v < 2 ^ n := Nat.or_lt_two_pow hb (Nat.pow_lt_pow_right (by decide) hv)
theorem of_or_gt {b v : Nat} (h : b.testBit v = false) : b < b ||| 2 ^ v := by
  apply Nat.lt_of_le_of_ne Nat.left_le_or
  intro e
  have z : (b ||| 2 ^ v).testBit v = true := by rw [Nat.testBit_or, Nat.testBit_two_pow, decide_eq_true rfl, Bool.or_true]
  rw [← e, h] at z
  exact Bool.noConfusion z
theorem of_ok_len {n : Nat} {al : Nat → Nat → Bool} : ∀ (l : List Nat) (b : Nat), of_ok n al b l = true → of_cn b n + l.length = n := by
  intro l
  induction l with
  | nil =>
    intro b h
    rw [of_ok_nil] at h
    rw [h, of_cn_m1]; rfl
  | cons v l ih =>
    intro b h
    rw [of_ok_cons] at h
    have h2 := ih _ h.2.2.2
    rw [of_cn_or h.2.1, if_pos h.1] at h2
    rw [List.length_cons]
    omega
/-- all orders of the variables outside b, in the order of the alphabet -/
def of_en (n : Nat) : Nat → Nat → List (List Nat)
  | 0, _ => [[]]
  | k + 1, b => (List.range n).flatMap (fun v => if b.testBit v = true then [] else (of_en n k (b ||| 2 ^ v)).map (fun l => v :: l))
theorem of_en_s {n k b : Nat} {l : List Nat} : l ∈ of_en n (k + 1) b ↔ ∃ v l', v < n ∧ b.testBit v = false ∧ l' ∈ of_en n k (b ||| 2 ^ v) ∧ l = v :: l' := by
  rw [of_en, List.mem_flatMap]
  constructor
  · rintro ⟨v, hv, h⟩
    cases e : b.testBit v with
    | true =>
      rw [if_pos e] at h
      simp at h
    | false =>
      rw [if_neg (by rw [e]; exact Bool.false_ne_true), List.mem_map] at h
      obtain ⟨l', h1, h2⟩ := h
      exact ⟨v, l', List.mem_range.mp hv, e, h1, h2.symm⟩
  · rintro ⟨v, l', hv, e, h1, h2⟩
    refine ⟨v, List.mem_range.mpr hv, ?_⟩
    rw [if_neg (by rw [e]; exact Bool.false_ne_true), List.mem_map]
    exact ⟨l', h1, h2.symm⟩
theorem of_en_of_ok {n : Nat} {al : Nat → Nat → Bool} : ∀ (l : List Nat) (b : Nat), of_ok n al b l = true → l ∈ of_en n l.length b := by
  intro l
  induction l with
  | nil => intro b _; simp [of_en]
  | cons v l ih =>
    intro b h
    rw [of_ok_cons] at h
    rw [List.length_cons, of_en_s]
    exact ⟨v, l, h.1, h.2.1, ih _ h.2.2.2, rfl⟩
theorem of_ok_of_en {n : Nat} : ∀ (k b : Nat) (l : List Nat), b < 2 ^ n → of_cn b n + k = n → l ∈ of_en n k b → of_ok n (fun _ _ => true) b l = true := by
  intro k
  induction k with
  | zero =>
    intro b l hb hc hl
    simp [of_en] at hl
    rw [hl, of_ok_nil]
    exact of_full hb hc
  | succ k ih =>
    intro b l hb hc hl
    rw [of_en_s] at hl
    obtain ⟨v, l', hv, e, h1, rfl⟩ := hl
    rw [of_ok_cons]
    refine ⟨hv, e, rfl, ih _ l' (of_or_lt hb hv) ?_ h1⟩
    rw [of_cn_or e, if_pos hv]
    omega
theorem of_cost_le {w : Nat → Nat → Nat} {c : Nat} (hw : ∀ b v, w b v ≤ c) : ∀ (l : List Nat) (b : Nat), of_cost w b l ≤ c * l.length := by
  intro l
  induction l with
  | nil => intro b; exact Nat.zero_le _
  | cons v l ih =>
    intro b
    have h1 := hw b v
    have h2 := ih (b ||| 2 ^ v)
    simp only [of_cost, List.length_cons, Nat.mul_add, Nat.mul_one]
    omega
/-! the least -/
def of_la (al : Nat → Nat → Bool) (w : Nat → Nat → Nat) (r : Nat → Nat) (b : Nat) : Nat → Nat
  | 0 => 1000000
  | v + 1 => if b.testBit v = false ∧ al b v = true ∧ w b v + r (b ||| 2 ^ v) < of_la al w r b v then w b v + r (b ||| 2 ^ v) else of_la al w r b v
theorem of_la_le {al : Nat → Nat → Bool} {w : Nat → Nat → Nat} {r : Nat → Nat} {b : Nat} : ∀ k, of_la al w r b k ≤ 1000000 := by
  intro k
  induction k with
  | zero => exact Nat.le_refl _
  | succ k ih =>
    simp only [of_la]
    split
    · omega
    · exact ih
theorem of_la_min {al : Nat → Nat → Bool} {w : Nat → Nat → Nat} {r : Nat → Nat} {b : Nat} : ∀ k v, v < k → b.testBit v = false → al b v = true → of_la al w r b k ≤ w b v + r (b ||| 2 ^ v) := by
  intro k
  induction k with
  | zero => intro v hv; omega
  | succ k ih =>
    intro v hv h1 h2
    simp only [of_la]
    rcases Nat.lt_or_ge v k with z | z
    · have h3 := ih v z h1 h2
      split <;> omega
    · have e : v = k := by omega
      subst e
      split
      · exact Nat.le_refl _
      · rename_i h4
        have h5 : ¬ (w b v + r (b ||| 2 ^ v) < of_la al w r b v) := fun z => h4 ⟨h1, h2, z⟩
        omega
theorem of_la_att {al : Nat → Nat → Bool} {w : Nat → Nat → Nat} {r : Nat → Nat} {b : Nat} : ∀ k, of_la al w r b k = 1000000 ∨ ∃ v, v < k ∧ b.testBit v = false ∧ al b v = true ∧ of_la al w r b k = w b v + r (b ||| 2 ^ v) := by
  intro k
  induction k with
  | zero => exact Or.inl rfl
  | succ k ih =>
    simp only [of_la]
    split
    · rename_i h
      exact Or.inr ⟨k, by omega, h.1, h.2.1, rfl⟩
    · rcases ih with h | ⟨v, h1, h2, h3, h4⟩
      · exact Or.inl h
      · exact Or.inr ⟨v, by omega, h2, h3, h4⟩
def of_F (n : Nat) (al : Nat → Nat → Bool) (w : Nat → Nat → Nat) (r : Nat → Nat) : Prop := r (2 ^ n - 1) = 0 ∧ ∀ b, b < 2 ^ n - 1 → r b = of_la al w r b n
theorem of_A {n : Nat} {al : Nat → Nat → Bool} {w : Nat → Nat → Nat} {r : Nat → Nat} (F : of_F n al w r) : ∀ (l : List Nat) (b : Nat), b < 2 ^ n → of_ok n al b l = true → r b ≤ of_cost w b l := by
  intro l
  induction l with
  | nil =>
    intro b _ h
    rw [of_ok_nil] at h
    rw [h, F.1]
    exact Nat.zero_le _
  | cons v l ih =>
    intro b hb h
    rw [of_ok_cons] at h
    have h1 := ih _ (of_or_lt hb h.1) h.2.2.2
    have h2 := of_or_gt h.2.1
    have h3 := of_or_lt hb h.1
    rw [F.2 b (by omega)]
    have h4 := of_la_min (al := al) (w := w) (r := r) (b := b) n v h.1 h.2.1 h.2.2.1
    simp only [of_cost]
    omega
theorem of_B {n : Nat} {al : Nat → Nat → Bool} {w : Nat → Nat → Nat} {r : Nat → Nat} (F : of_F n al w r) : ∀ d b, 2 ^ n - b ≤ d → b < 2 ^ n → r b < 1000000 → ∃ l, of_ok n al b l = true ∧ of_cost w b l = r b := by
  intro d
  induction d with
  | zero => intro b h1 h2; omega
  | succ d ih =>
    intro b h1 h2 h3
    by_cases e : b = 2 ^ n - 1
    · refine ⟨[], of_ok_nil.mpr e, ?_⟩
      rw [e, F.1]; rfl
    · have h4 := F.2 b (by omega)
      rcases of_la_att (al := al) (w := w) (r := r) (b := b) n with h | ⟨v, a1, a2, a3, a4⟩
      · omega
      · have h5 := of_or_gt a2
        obtain ⟨l, b1, b2⟩ := ih (b ||| 2 ^ v) (by omega) (of_or_lt h2 a1) (by omega)
        refine ⟨v :: l, of_ok_cons.mpr ⟨a1, a2, a3, b1⟩, ?_⟩
        simp only [of_cost]
        omega
def of_mn (c : List Nat → Nat) (p : List Nat → Bool) : List (List Nat) → Nat → Nat
  | [], m => m
  | l :: L, m => of_mn c p L (if p l = true ∧ c l < m then c l else m)
theorem of_mn_le {c : List Nat → Nat} {p : List Nat → Bool} : ∀ (L : List (List Nat)) (m : Nat), of_mn c p L m ≤ m ∧ ∀ l, l ∈ L → p l = true → of_mn c p L m ≤ c l := by
  intro L
  induction L with
  | nil => intro m; exact ⟨Nat.le_refl _, fun l h => by simp at h⟩
  | cons l0 L ih =>
    intro m
    simp only [of_mn]
    obtain ⟨h1, h2⟩ := ih (if p l0 = true ∧ c l0 < m then c l0 else m)
    have h3 : (if p l0 = true ∧ c l0 < m then c l0 else m) ≤ m := by split <;> omega
    refine ⟨by omega, fun l hl hp => ?_⟩
    rcases List.mem_cons.mp hl with e | e
    · subst e
      have h4 : (if p l = true ∧ c l < m then c l else m) ≤ c l := by
        by_cases z : c l < m
        · rw [if_pos ⟨hp, z⟩]; exact Nat.le_refl _
        · rw [if_neg (fun y => z y.2)]; omega
      omega
    · exact h2 l e hp
theorem of_mn_att {c : List Nat → Nat} {p : List Nat → Bool} : ∀ (L : List (List Nat)) (m : Nat), of_mn c p L m = m ∨ ∃ l, l ∈ L ∧ p l = true ∧ of_mn c p L m = c l := by
  intro L
  induction L with
  | nil => intro m; exact Or.inl rfl
  | cons l0 L ih =>
    intro m
    simp only [of_mn]
    rcases ih (if p l0 = true ∧ c l0 < m then c l0 else m) with h | ⟨l, h1, h2, h3⟩
    · rw [h]
      split
      · rename_i z
        exact Or.inr ⟨l0, List.mem_cons_self, z.1, rfl⟩
      · exact Or.inl rfl
    · exact Or.inr ⟨l, List.mem_cons_of_mem _ h1, h2, h3⟩
/-- the recursion over sets finds what the search over all orders finds -/
theorem of_least {n : Nat} {al : Nat → Nat → Bool} {w : Nat → Nat → Nat} {r : Nat → Nat} {p : List Nat → Bool} (F : of_F n al w r) (hn : n ≤ 5) (hw : ∀ b v, w b v ≤ 96) (hp : ∀ l, l ∈ of_en n n 0 → p l = of_ok n al 0 l) (he : ∃ l, l ∈ of_en n n 0 ∧ p l = true) : of_mn (of_cost w 0) p (of_en n n 0) 1000 = r 0 ∧ r 0 < 1000 := by
  have h0 : 0 < 2 ^ n := Nat.two_pow_pos n
  have hlen : ∀ l, l ∈ of_en n n 0 → p l = true → of_cost w 0 l < 1000 ∧ r 0 ≤ of_cost w 0 l := by
    intro l h1 h2
    rw [hp l h1] at h2
    have h3 := of_ok_len l 0 h2
    rw [of_cn_0] at h3
    have h4 := of_cost_le hw l 0
    have h5 : 96 * l.length ≤ 96 * 5 := Nat.mul_le_mul_left _ (by omega)
    exact ⟨by omega, of_A F l 0 h0 h2⟩
  obtain ⟨l0, a1, a2⟩ := he
  obtain ⟨a3, a4⟩ := hlen l0 a1 a2
  obtain ⟨l1, b1, b2⟩ := of_B F (2 ^ n) 0 (by omega) h0 (by omega)
  have b3 := of_en_of_ok l1 0 b1
  have b4 := of_ok_len l1 0 b1
  rw [of_cn_0] at b4
  have b5 : l1.length = n := by omega
  rw [b5] at b3
  obtain ⟨c1, c2⟩ := of_mn_le (c := of_cost w 0) (p := p) (of_en n n 0) 1000
  have c3 := c2 l1 b3 (by rw [hp l1 b3]; exact b1)
  have c4 := c2 l0 a1 a2
  rcases of_mn_att (c := of_cost w 0) (p := p) (of_en n n 0) 1000 with h | ⟨l, h1, h2, h3⟩
  · omega
  · have h4 := (hlen l h1 h2).2
    omega
/-! the greatest -/
def of_ga (w : Nat → Nat → Nat) (r : Nat → Nat) (b : Nat) : Nat → Nat
  | 0 => 0
  | v + 1 => if b.testBit v = false ∧ of_ga w r b v < w b v + r (b ||| 2 ^ v) then w b v + r (b ||| 2 ^ v) else of_ga w r b v
theorem of_ga_max {w : Nat → Nat → Nat} {r : Nat → Nat} {b : Nat} : ∀ k v, v < k → b.testBit v = false → w b v + r (b ||| 2 ^ v) ≤ of_ga w r b k := by
  intro k
  induction k with
  | zero => intro v hv; omega
  | succ k ih =>
    intro v hv h1
    simp only [of_ga]
    rcases Nat.lt_or_ge v k with z | z
    · have h3 := ih v z h1
      split <;> omega
    · have e : v = k := by omega
      subst e
      split
      · exact Nat.le_refl _
      · rename_i h4
        have h5 : ¬ (of_ga w r b v < w b v + r (b ||| 2 ^ v)) := fun z => h4 ⟨h1, z⟩
        omega
theorem of_ga_att {w : Nat → Nat → Nat} {r : Nat → Nat} {b : Nat} : ∀ k, of_ga w r b k = 0 ∨ ∃ v, v < k ∧ b.testBit v = false ∧ of_ga w r b k = w b v + r (b ||| 2 ^ v) := by
  intro k
  induction k with
  | zero => exact Or.inl rfl
  | succ k ih =>
    simp only [of_ga]
    split
    · rename_i h
      exact Or.inr ⟨k, by omega, h.1, rfl⟩
    · rcases ih with h | ⟨v, h1, h2, h4⟩
      · exact Or.inl h
      · exact Or.inr ⟨v, by omega, h2, h4⟩
def of_G (n : Nat) (w : Nat → Nat → Nat) (r : Nat → Nat) : Prop := r (2 ^ n - 1) = 0 ∧ ∀ b, b < 2 ^ n - 1 → r b = of_ga w r b n
theorem of_GA {n : Nat} {w : Nat → Nat → Nat} {r : Nat → Nat} (F : of_G n w r) : ∀ (l : List Nat) (b : Nat), b < 2 ^ n → of_ok n (fun _ _ => true) b l = true → of_cost w b l ≤ r b := by
  intro l
  induction l with
  | nil =>
    intro b _ h
    exact Nat.zero_le _
  | cons v l ih =>
    intro b hb h
    rw [of_ok_cons] at h
    have h1 := ih _ (of_or_lt hb h.1) h.2.2.2
    have h2 := of_or_gt h.2.1
    have h3 := of_or_lt hb h.1
    rw [F.2 b (by omega)]
    have h4 := of_ga_max (w := w) (r := r) (b := b) n v h.1 h.2.1
    simp only [of_cost]
    omega
theorem of_out {n b : Nat} (hb : b < 2 ^ n) (h : b ≠ 2 ^ n - 1) : ∃ v, v < n ∧ b.testBit v = false := by
  apply Classical.byContradiction
  intro z
  apply h
  apply of_full hb
  apply of_cn_all
  intro v hv
  cases e : b.testBit v with
  | true => rfl
  | false => exact absurd ⟨v, hv, e⟩ z
theorem of_GB {n : Nat} {w : Nat → Nat → Nat} {r : Nat → Nat} (F : of_G n w r) : ∀ d b, 2 ^ n - b ≤ d → b < 2 ^ n → ∃ l, of_ok n (fun _ _ => true) b l = true ∧ of_cost w b l = r b := by
  intro d
  induction d with
  | zero => intro b h1 h2; omega
  | succ d ih =>
    intro b h1 h2
    by_cases e : b = 2 ^ n - 1
    · refine ⟨[], of_ok_nil.mpr e, ?_⟩
      rw [e, F.1]; rfl
    · have h4 := F.2 b (by omega)
      have key : ∃ v, v < n ∧ b.testBit v = false ∧ r b = w b v + r (b ||| 2 ^ v) := by
        rcases of_ga_att (w := w) (r := r) (b := b) n with h | ⟨v, a1, a2, a4⟩
        · obtain ⟨v, a1, a2⟩ := of_out h2 e
          have h6 := of_ga_max (w := w) (r := r) (b := b) n v a1 a2
          exact ⟨v, a1, a2, by omega⟩
        · exact ⟨v, a1, a2, by omega⟩
      obtain ⟨v, a1, a2, a4⟩ := key
      have h5 := of_or_gt a2
      obtain ⟨l, b1, b2⟩ := ih (b ||| 2 ^ v) (by omega) (of_or_lt h2 a1)
      refine ⟨v :: l, of_ok_cons.mpr ⟨a1, a2, rfl, b1⟩, ?_⟩
      simp only [of_cost]
      omega
def of_mx (c : List Nat → Nat) : List (List Nat) → Nat → Nat
  | [], m => m
  | l :: L, m => of_mx c L (if m < c l then c l else m)
theorem of_mx_ge {c : List Nat → Nat} : ∀ (L : List (List Nat)) (m : Nat), m ≤ of_mx c L m ∧ ∀ l, l ∈ L → c l ≤ of_mx c L m := by
  intro L
  induction L with
  | nil => intro m; exact ⟨Nat.le_refl _, fun l h => by simp at h⟩
  | cons l0 L ih =>
    intro m
    simp only [of_mx]
    obtain ⟨h1, h2⟩ := ih (if m < c l0 then c l0 else m)
    have h3 : m ≤ (if m < c l0 then c l0 else m) ∧ c l0 ≤ (if m < c l0 then c l0 else m) := by split <;> omega
    refine ⟨by omega, fun l hl => ?_⟩
    rcases List.mem_cons.mp hl with e | e
    · subst e
      omega
    · exact h2 l e
theorem of_mx_att {c : List Nat → Nat} : ∀ (L : List (List Nat)) (m : Nat), of_mx c L m = m ∨ ∃ l, l ∈ L ∧ of_mx c L m = c l := by
  intro L
  induction L with
  | nil => intro m; exact Or.inl rfl
  | cons l0 L ih =>
    intro m
    simp only [of_mx]
    rcases ih (if m < c l0 then c l0 else m) with h | ⟨l, h1, h3⟩
    · rw [h]
      split
      · exact Or.inr ⟨l0, List.mem_cons_self, rfl⟩
      · exact Or.inl rfl
    · exact Or.inr ⟨l, List.mem_cons_of_mem _ h1, h3⟩
theorem of_greatest {n : Nat} {w : Nat → Nat → Nat} {r : Nat → Nat} (F : of_G n w r) : of_mx (of_cost w 0) (of_en n n 0) 0 = r 0 := by
  have h0 : 0 < 2 ^ n := Nat.two_pow_pos n
  obtain ⟨l1, b1, b2⟩ := of_GB F (2 ^ n) 0 (by omega) h0
  have b3 := of_en_of_ok l1 0 b1
  have b4 := of_ok_len l1 0 b1
  rw [of_cn_0] at b4
  have b5 : l1.length = n := by omega
  rw [b5] at b3
  have c3 := (of_mx_ge (c := of_cost w 0) (of_en n n 0) 0).2 l1 b3
  rcases of_mx_att (c := of_cost w 0) (of_en n n 0) 0 with h | ⟨l, h1, h3⟩
  · omega
  · have h4 := of_GA F l 0 h0 (of_ok_of_en n 0 l h0 (by rw [of_cn_0]; omega) h1)
    omega
