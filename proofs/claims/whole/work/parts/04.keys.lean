/-! rest functions as numbers; the two lists of rest functions have one length -/
def of_mk (g : Nat → Bool) : Nat → Int32
  | 0 => 0
  | k + 1 => if g k = true then of_mk g k ||| ((1 : Int32) <<< (nI k &&& 31)) else of_mk g k
theorem of_one : ∀ k, k < 32 → ∀ i, i < 32 → bt ((1 : Int32) <<< (nI k &&& 31)) i = decide (i = k) := by decide +kernel
theorem of_mk_b (g : Nat → Bool) : ∀ k, k ≤ 32 → ∀ i, i < 32 → bt (of_mk g k) i = (decide (i < k) && g i) := by
  intro k
  induction k with
  | zero =>
    intro _ i _
    rw [decide_eq_false (by omega), Bool.false_and]
    exact b_0 i
  | succ k ih =>
    intro hk i hi
    have h := ih (by omega) i hi
    have h1 := of_one k (by omega) i hi
    simp only [of_mk]
    cases hg : g k with
    | true =>
      rw [if_pos rfl, b_or, h, h1]
      rcases Nat.lt_trichotomy i k with z | z | z
      · rw [decide_eq_true z, decide_eq_false (by omega : ¬ i = k), decide_eq_true (by omega : i < k + 1), Bool.or_false]
      · subst z
        rw [decide_eq_true rfl, decide_eq_true (by omega : i < i + 1), hg]
        simp
      · rw [decide_eq_false (by omega : ¬ i < k), decide_eq_false (by omega : ¬ i = k), decide_eq_false (by omega : ¬ i < k + 1)]
        simp
    | false =>
      rw [if_neg Bool.false_ne_true, h]
      rcases Nat.lt_trichotomy i k with z | z | z
      · rw [decide_eq_true z, decide_eq_true (by omega : i < k + 1)]
      · subst z
        rw [hg]
        simp
      · rw [decide_eq_false (by omega : ¬ i < k), decide_eq_false (by omega : ¬ i < k + 1)]
theorem of_mk_eq {g g' : Nat → Bool} {k : Nat} (hk : k ≤ 32) (h : ∀ i, i < k → g i = g' i) : of_mk g k = of_mk g' k := by
  apply b_ext
  intro i hi
  rw [of_mk_b g k hk i hi, of_mk_b g' k hk i hi]
  rcases Nat.lt_or_ge i k with z | z
  · rw [h i z]
  · rw [decide_eq_false (by omega), Bool.false_and, Bool.false_and]
theorem of_mk_at {g : Nat → Bool} {k i : Nat} (hk : k ≤ 32) (hi : i < k) : bt (of_mk g k) i = g i := by
  rw [of_mk_b g k hk i (by omega), decide_eq_true hi, Bool.true_and]
/-- s without the variables of b (s below 32) -/
def of_cl (s b : Nat) : Nat := s &&& (31 ^^^ b)
theorem of_31 : ∀ i, (31 : Nat).testBit i = decide (i < 5) := by
  intro i
  exact Nat.testBit_two_pow_sub_one 5 i
theorem of_cl_b {s b : Nat} (hs : s < 32) (i : Nat) : (of_cl s b).testBit i = (s.testBit i && !b.testBit i) := by
  unfold of_cl
  rw [Nat.testBit_and, Nat.testBit_xor, of_31]
  rcases Nat.lt_or_ge i 5 with z | z
  · rw [decide_eq_true z, Bool.true_xor]
  · rw [of_hi (n := 5) hs z, Bool.false_and, Bool.false_and]
theorem of_cl_le {s b : Nat} : of_cl s b ≤ s := Nat.and_le_left
theorem of_cl_0 {s b : Nat} (hs : s < 32) : of_cl s b = 0 ↔ ∀ i, s.testBit i = true → b.testBit i = true := by
  constructor
  · intro h i hi
    have h1 := of_cl_b (b := b) hs i
    rw [h, Nat.zero_testBit, hi, Bool.true_and] at h1
    cases hb : b.testBit i with
    | true => rfl
    | false => rw [hb] at h1; exact Bool.noConfusion h1
  · intro h
    apply Nat.eq_of_testBit_eq
    intro i
    rw [of_cl_b hs, Nat.zero_testBit]
    cases hi : s.testBit i with
    | true => rw [h i hi]; rfl
    | false => rfl
/-! spreading and gathering along an order -/
def of_sp (g : Nat → Nat) (lo s : Nat) : Nat → Nat
  | 0 => 0
  | k + 1 => if s.testBit k = true then of_sp g lo s k ||| 2 ^ g (lo + k) else of_sp g lo s k
theorem of_sp_b {g : Nat → Nat} {lo s : Nat} : ∀ k v, (of_sp g lo s k).testBit v = true ↔ ∃ q, q < k ∧ s.testBit q = true ∧ g (lo + q) = v := by
  intro k
  induction k with
  | zero =>
    intro v
    simp [of_sp]
  | succ k ih =>
    intro v
    simp only [of_sp]
    by_cases h : s.testBit k = true
    · rw [if_pos h, Nat.testBit_or, Bool.or_eq_true, ih, Nat.testBit_two_pow, decide_eq_true_iff]
      constructor
      · rintro (⟨q, h1, h2, h3⟩ | e)
        · exact ⟨q, by omega, h2, h3⟩
        · exact ⟨k, by omega, h, e⟩
      · rintro ⟨q, h1, h2, h3⟩
        rcases Nat.lt_or_ge q k with z | z
        · exact Or.inl ⟨q, z, h2, h3⟩
        · have e : q = k := by omega
          rw [e] at h3
          exact Or.inr h3
    · rw [if_neg h, ih]
      constructor
      · rintro ⟨q, h1, h2, h3⟩
        exact ⟨q, by omega, h2, h3⟩
      · rintro ⟨q, h1, h2, h3⟩
        rcases Nat.lt_or_ge q k with z | z
        · exact ⟨q, z, h2, h3⟩
        · have e : q = k := by omega
          rw [e] at h2
          exact absurd h2 h
def of_gt (g : Nat → Nat) (lo i : Nat) : Nat → Nat
  | 0 => 0
  | k + 1 => if i.testBit (g (lo + k)) = true then of_gt g lo i k ||| 2 ^ k else of_gt g lo i k
theorem of_gt_b {g : Nat → Nat} {lo i : Nat} : ∀ k q, (of_gt g lo i k).testBit q = true ↔ q < k ∧ i.testBit (g (lo + q)) = true := by
  intro k
  induction k with
  | zero =>
    intro v
    simp [of_gt]
  | succ k ih =>
    intro q
    simp only [of_gt]
    by_cases h : i.testBit (g (lo + k)) = true
    · rw [if_pos h, Nat.testBit_or, Bool.or_eq_true, ih, Nat.testBit_two_pow, decide_eq_true_iff]
      constructor
      · rintro (⟨h1, h2⟩ | e)
        · exact ⟨by omega, h2⟩
        · rw [← e]; exact ⟨by omega, h⟩
      · rintro ⟨h1, h2⟩
        rcases Nat.lt_or_ge q k with z | z
        · exact Or.inl ⟨z, h2⟩
        · exact Or.inr (by omega)
    · rw [if_neg h, ih]
      constructor
      · rintro ⟨h1, h2⟩
        exact ⟨by omega, h2⟩
      · rintro ⟨h1, h2⟩
        rcases Nat.lt_or_ge q k with z | z
        · exact ⟨z, h2⟩
        · have e : q = k := by omega
          rw [e] at h2
          exact absurd h2 h
theorem of_gt_lt {g : Nat → Nat} {lo i : Nat} (k : Nat) : of_gt g lo i k < 2 ^ k := by
  apply Nat.lt_pow_two_of_testBit
  intro q hq
  cases h : (of_gt g lo i k).testBit q with
  | false => rfl
  | true =>
    rw [of_gt_b] at h
    omega
def of_bs (g : Nat → Nat) : Nat → Nat
  | 0 => 0
  | p + 1 => of_bs g p ||| 2 ^ g p
theorem of_bs_b {g : Nat → Nat} : ∀ p v, (of_bs g p).testBit v = true ↔ ∃ q, q < p ∧ g q = v := by
  intro p
  induction p with
  | zero => intro v; simp [of_bs]
  | succ p ih =>
    intro v
    simp only [of_bs]
    rw [Nat.testBit_or, Bool.or_eq_true, ih, Nat.testBit_two_pow, decide_eq_true_iff]
    constructor
    · rintro (⟨q, h1, h2⟩ | e)
      · exact ⟨q, by omega, h2⟩
      · exact ⟨p, by omega, e⟩
    · rintro ⟨q, h1, h2⟩
      rcases Nat.lt_or_ge q p with z | z
      · exact Or.inl ⟨q, z, h2⟩
      · have e : q = p := by omega
        rw [e] at h2
        exact Or.inr h2
/-- g puts each variable below n on one place below n -/
def of_Pm (n : Nat) (g : Nat → Nat) : Prop := (∀ p, p < n → g p < n) ∧ (∀ p q, p < n → q < n → g p = g q → p = q) ∧ (∀ v, v < n → ∃ p, p < n ∧ g p = v)
theorem of_bs_lt {n : Nat} {g : Nat → Nat} (P : of_Pm n g) : ∀ p, p ≤ n → of_bs g p < 2 ^ n := by
  intro p
  induction p with
  | zero => intro _; exact Nat.two_pow_pos n
  | succ p ih => intro hp; exact of_or_lt (ih (by omega)) (P.1 p (by omega))
theorem of_bs_no {n : Nat} {g : Nat → Nat} (P : of_Pm n g) {p : Nat} (hp : p < n) : (of_bs g p).testBit (g p) = false := by
  cases h : (of_bs g p).testBit (g p) with
  | false => rfl
  | true =>
    rw [of_bs_b] at h
    obtain ⟨q, h1, h2⟩ := h
    have := P.2.1 q p (by omega) hp h2
    omega
theorem of_32 {n : Nat} (hn : n ≤ 5) : 2 ^ n ≤ 32 := Nat.pow_le_pow_right (n := 2) (by decide) hn
theorem of_sp_lt {n : Nat} {g : Nat → Nat} (P : of_Pm n g) {lo s k : Nat} (hk : lo + k ≤ n) : of_sp g lo s k < 2 ^ n := by
  apply Nat.lt_pow_two_of_testBit
  intro v hv
  cases h : (of_sp g lo s k).testBit v with
  | false => rfl
  | true =>
    rw [of_sp_b] at h
    obtain ⟨q, h1, _, h3⟩ := h
    have := P.1 (lo + q) (by omega)
    omega
theorem of_S1 {n : Nat} {g : Nat → Nat} (hn : n ≤ 5) (P : of_Pm n g) {p j : Nat} (hp : p ≤ n) : of_cl (of_sp g 0 j p) (of_bs g p) = 0 := by
  have h32 := of_32 hn
  have hl := of_sp_lt P (lo := 0) (s := j) (k := p) (by omega)
  rw [of_cl_0 (by omega)]
  intro i hi
  rw [of_sp_b] at hi
  obtain ⟨q, h1, _, h3⟩ := hi
  rw [Nat.zero_add] at h3
  exact (of_bs_b p i).mpr ⟨q, h1, h3⟩
theorem of_S2 {n : Nat} {g : Nat → Nat} (hn : n ≤ 5) {p a : Nat} (ha : a < 2 ^ n) (h : of_cl a (of_bs g p) = 0) : of_sp g 0 (of_gt g 0 a p) p = a := by
  have h32 := of_32 hn
  rw [of_cl_0 (by omega)] at h
  apply Nat.eq_of_testBit_eq
  intro v
  rw [Bool.eq_iff_iff, of_sp_b]
  constructor
  · rintro ⟨q, h1, h2, h3⟩
    rw [of_gt_b] at h2
    rw [← h3]; exact h2.2
  · intro hv
    obtain ⟨q, h1, h2⟩ := (of_bs_b p v).mp (h v hv)
    refine ⟨q, h1, ?_, by rw [Nat.zero_add]; exact h2⟩
    rw [of_gt_b, Nat.zero_add, h2]
    exact ⟨h1, hv⟩
theorem of_S3 {n : Nat} {g : Nat → Nat} (hn : n ≤ 5) (P : of_Pm n g) {p m s : Nat} (hp : p + m = n) : of_cl (of_sp g p s m) (of_bs g p) = of_sp g p s m := by
  have h32 := of_32 hn
  have hl := of_sp_lt P (lo := p) (s := s) (k := m) (by omega)
  apply Nat.eq_of_testBit_eq
  intro v
  rw [of_cl_b (by omega), Bool.eq_iff_iff, Bool.and_eq_true]
  constructor
  · exact fun h => h.1
  · intro h
    refine ⟨h, ?_⟩
    rw [of_sp_b] at h
    obtain ⟨q, h1, _, h3⟩ := h
    cases hb : (of_bs g p).testBit v with
    | false => rfl
    | true =>
      rw [of_bs_b] at hb
      obtain ⟨q', h4, h5⟩ := hb
      have := P.2.1 (p + q) q' (by omega) (by omega) (by rw [h3, h5])
      omega
theorem of_S4 {n : Nat} {g : Nat → Nat} (hn : n ≤ 5) (P : of_Pm n g) {p m i : Nat} (hp : p + m = n) (hi : i < 2 ^ n) : of_sp g p (of_gt g p i m) m = of_cl i (of_bs g p) := by
  have h32 := of_32 hn
  apply Nat.eq_of_testBit_eq
  intro v
  rw [of_cl_b (by omega), Bool.eq_iff_iff, Bool.and_eq_true, of_sp_b]
  constructor
  · rintro ⟨q, h1, h2, h3⟩
    rw [of_gt_b, h3] at h2
    refine ⟨h2.2, ?_⟩
    cases hb : (of_bs g p).testBit v with
    | false => rfl
    | true =>
      rw [of_bs_b] at hb
      obtain ⟨q', h4, h5⟩ := hb
      have := P.2.1 (p + q) q' (by omega) (by omega) (by rw [h3, h5])
      omega
  · rintro ⟨h1, h2⟩
    have hv : v < n := by
      rcases Nat.lt_or_ge v n with z | z
      · exact z
      · rw [of_hi hi z] at h1
        exact Bool.noConfusion h1
    obtain ⟨q, h3, h4⟩ := P.2.2 v hv
    rcases Nat.lt_or_ge q p with z | z
    · have h5 : (of_bs g p).testBit v = true := (of_bs_b p v).mpr ⟨q, z, h4⟩
      rw [h5] at h2
      exact Bool.noConfusion h2
    · have e : p + (q - p) = q := by omega
      refine ⟨q - p, by omega, ?_, by rw [e]; exact h4⟩
      rw [of_gt_b, e, h4]
      exact ⟨by omega, h1⟩
theorem of_S5 {n : Nat} {g : Nat → Nat} (P : of_Pm n g) {p m c : Nat} (hp : p + m = n) (hm : 0 < m) : of_sp g p (2 * c + 1) m = of_sp g p (2 * c) m ^^^ 2 ^ g p := by
  apply Nat.eq_of_testBit_eq
  intro v
  rw [Nat.testBit_xor, Nat.testBit_two_pow]
  have e0 : (2 * c + 1).testBit 0 = true := by rw [Nat.testBit_zero, decide_eq_true_iff]; omega
  have e1 : (2 * c).testBit 0 = false := by rw [Nat.testBit_zero, decide_eq_false_iff_not]; omega
  have e2 : ∀ q, 0 < q → (2 * c + 1).testBit q = (2 * c).testBit q := by
    intro q hq
    obtain ⟨q, rfl⟩ : ∃ q', q = q' + 1 := ⟨q - 1, by omega⟩
    rw [Nat.testBit_add_one, Nat.testBit_add_one, show (2 * c + 1) / 2 = 2 * c / 2 by omega]
  by_cases h : g p = v
  · have h1 : (of_sp g p (2 * c + 1) m).testBit v = true := (of_sp_b m v).mpr ⟨0, hm, e0, h⟩
    have h2 : (of_sp g p (2 * c) m).testBit v = false := by
      cases hb : (of_sp g p (2 * c) m).testBit v with
      | false => rfl
      | true =>
        rw [of_sp_b] at hb
        obtain ⟨q, h4, h5, h6⟩ := hb
        have h7 := P.2.1 (p + q) p (by omega) (by omega) (by rw [h6, h])
        have h8 : q = 0 := by omega
        rw [h8, e1] at h5
        exact Bool.noConfusion h5
    rw [h1, h2, decide_eq_true h]; rfl
  · rw [decide_eq_false h, Bool.xor_false, Bool.eq_iff_iff, of_sp_b, of_sp_b]
    constructor
    · rintro ⟨q, h1, h2, h3⟩
      have hq : 0 < q := by
        rcases Nat.eq_zero_or_pos q with z | z
        · rw [z] at h3; exact absurd h3 h
        · exact z
      exact ⟨q, h1, by rw [← e2 q hq]; exact h2, h3⟩
    · rintro ⟨q, h1, h2, h3⟩
      have hq : 0 < q := by
        rcases Nat.eq_zero_or_pos q with z | z
        · rw [z] at h3; exact absurd h3 h
        · exact z
      exact ⟨q, h1, by rw [e2 q hq]; exact h2, h3⟩
