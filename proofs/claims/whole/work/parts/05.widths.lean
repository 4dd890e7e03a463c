/-! the lists of different rest functions, and their length -/
def of_in (l : List Int32) : Option Int32 → List Int32
  | none => l
  | some x => if x ∈ l then l else l ++ [x]
def of_fi (K : Nat → Nat → Option Int32) (f : Nat) (L : List Int32) : Nat → List Int32
  | 0 => L
  | j + 1 => of_in (of_fi K f L j) (K f j)
def of_fo (K : Nat → Nat → Option Int32) (N : Nat) : Nat → List Int32
  | 0 => []
  | f + 1 => of_fi K f (of_fo K N f) N
theorem of_in_m {l : List Int32} {o : Option Int32} {x : Int32} : x ∈ of_in l o ↔ x ∈ l ∨ o = some x := by
  cases o with
  | none => simp [of_in]
  | some y =>
    simp only [of_in]
    by_cases h : y ∈ l
    · rw [if_pos h]
      constructor
      · exact Or.inl
      · rintro (z | z)
        · exact z
        · rw [Option.some.inj z] at h; exact h
    · rw [if_neg h, List.mem_append, List.mem_singleton]
      constructor
      · rintro (z | z)
        · exact Or.inl z
        · exact Or.inr (by rw [z])
      · rintro (z | z)
        · exact Or.inl z
        · exact Or.inr (Option.some.inj z).symm
theorem of_in_d {l : List Int32} {o : Option Int32} (h : l.Nodup) : (of_in l o).Nodup := by
  cases o with
  | none => exact h
  | some y =>
    simp only [of_in]
    by_cases hy : y ∈ l
    · rw [if_pos hy]; exact h
    · rw [if_neg hy, List.nodup_append]
      refine ⟨h, by simp, ?_⟩
      intro a ha b hb e
      rw [List.mem_singleton] at hb
      rw [e, hb] at ha
      exact hy ha
theorem of_in_l {l : List Int32} {o : Option Int32} : (of_in l o).length ≤ l.length + 1 := by
  cases o with
  | none => exact Nat.le_succ _
  | some y =>
    simp only [of_in]
    split
    · exact Nat.le_succ _
    · rw [List.length_append]; exact Nat.le_refl _
theorem of_fi_m {K : Nat → Nat → Option Int32} {f : Nat} {L : List Int32} {x : Int32} : ∀ k, x ∈ of_fi K f L k ↔ x ∈ L ∨ ∃ j, j < k ∧ K f j = some x := by
  intro k
  induction k with
  | zero =>
    constructor
    · exact Or.inl
    · rintro (z | ⟨j, h, _⟩)
      · exact z
      · omega
  | succ k ih =>
    simp only [of_fi]
    rw [of_in_m, ih]
    constructor
    · rintro ((z | ⟨j, h1, h2⟩) | z)
      · exact Or.inl z
      · exact Or.inr ⟨j, by omega, h2⟩
      · exact Or.inr ⟨k, by omega, z⟩
    · rintro (z | ⟨j, h1, h2⟩)
      · exact Or.inl (Or.inl z)
      · rcases Nat.lt_or_ge j k with y | y
        · exact Or.inl (Or.inr ⟨j, y, h2⟩)
        · have e : j = k := by omega
          rw [e] at h2
          exact Or.inr h2
theorem of_fo_m {K : Nat → Nat → Option Int32} {N : Nat} {x : Int32} : ∀ c, x ∈ of_fo K N c ↔ ∃ f, f < c ∧ ∃ j, j < N ∧ K f j = some x := by
  intro c
  induction c with
  | zero => simp [of_fo]
  | succ c ih =>
    simp only [of_fo]
    rw [of_fi_m, ih]
    constructor
    · rintro (⟨f, h1, h2⟩ | h)
      · exact ⟨f, by omega, h2⟩
      · exact ⟨c, by omega, h⟩
    · rintro ⟨f, h1, h2⟩
      rcases Nat.lt_or_ge f c with y | y
      · exact Or.inl ⟨f, y, h2⟩
      · have e : f = c := by omega
        rw [e] at h2
        exact Or.inr h2
theorem of_fi_d {K : Nat → Nat → Option Int32} {f : Nat} {L : List Int32} (h : L.Nodup) : ∀ k, (of_fi K f L k).Nodup := by
  intro k
  induction k with
  | zero => exact h
  | succ k ih => exact of_in_d ih
theorem of_fo_d {K : Nat → Nat → Option Int32} {N : Nat} : ∀ c, (of_fo K N c).Nodup := by
  intro c
  induction c with
  | zero => simp [of_fo]
  | succ c ih => exact of_fi_d ih N
theorem of_fi_l {K : Nat → Nat → Option Int32} {f : Nat} {L : List Int32} : ∀ k, (of_fi K f L k).length ≤ L.length + k := by
  intro k
  induction k with
  | zero => exact Nat.le_refl _
  | succ k ih =>
    have h := of_in_l (l := of_fi K f L k) (o := K f k)
    simp only [of_fi]
    omega
theorem of_fo_l {K : Nat → Nat → Option Int32} {N : Nat} : ∀ c, (of_fo K N c).length ≤ c * N := by
  intro c
  induction c with
  | zero => exact Nat.zero_le _
  | succ c ih =>
    have h := of_fi_l (K := K) (f := c) (L := of_fo K N c) N
    simp only [of_fo]
    rw [Nat.succ_mul]
    omega
theorem of_fi_c {K K' : Nat → Nat → Option Int32} {f : Nat} {L : List Int32} : ∀ k, (∀ j, j < k → K f j = K' f j) → of_fi K f L k = of_fi K' f L k := by
  intro k
  induction k with
  | zero => intro _; rfl
  | succ k ih =>
    intro h
    simp only [of_fi]
    rw [ih (fun j hj => h j (by omega)), h k (by omega)]
theorem of_fo_c {K K' : Nat → Nat → Option Int32} {N : Nat} : ∀ c, (∀ f j, f < c → j < N → K f j = K' f j) → of_fo K N c = of_fo K' N c := by
  intro c
  induction c with
  | zero => intro _; rfl
  | succ c ih =>
    intro h
    simp only [of_fo]
    rw [ih (fun f j hf hj => h f j (by omega) hj), of_fi_c N (fun j hj => h c j (by omega) hj)]
theorem of_len (R : Int32 → Int32 → Prop) (hR : ∀ x x' y, R x y → R x' y → x = x') : ∀ (l1 l2 : List Int32), l1.Nodup → (∀ x, x ∈ l1 → ∃ y, y ∈ l2 ∧ R x y) → l1.length ≤ l2.length := by
  intro l1
  induction l1 with
  | nil => intro l2 _ _; exact Nat.zero_le _
  | cons x l1 ih =>
    intro l2 hd h
    rw [List.nodup_cons] at hd
    obtain ⟨y, hy, hxy⟩ := h x List.mem_cons_self
    have h1 := ih (l2.erase y) hd.2 (by
      intro x' hx'
      obtain ⟨y', hy', hxy'⟩ := h x' (List.mem_cons_of_mem _ hx')
      refine ⟨y', ?_, hxy'⟩
      have hne : y' ≠ y := by
        intro e
        rw [e] at hxy'
        have e2 := hR x x' y hxy hxy'
        rw [e2] at hd
        exact hd.1 hx'
      exact (List.mem_erase_of_ne hne).mpr hy')
    rw [List.length_erase_of_mem hy] at h1
    have h2 := List.length_pos_of_mem hy
    rw [List.length_cons]
    omega
/-! the component's rest functions -/
def of_kx (t : Int32) (b N a : Nat) : Int32 := of_mk (fun s => bt t (of_cl s b ||| a)) N
def of_dx (N v : Nat) (r : Int32) : Bool := (List.range N).any (fun s => bt r s != bt r (s ^^^ 2 ^ v))
theorem of_dx_t {N v : Nat} {r : Int32} : of_dx N v r = true ↔ ∃ s, s < N ∧ bt r s ≠ bt r (s ^^^ 2 ^ v) := by
  unfold of_dx
  rw [List.any_eq_true]
  constructor
  · rintro ⟨s, h1, h2⟩
    exact ⟨s, List.mem_range.mp h1, bne_iff_ne.mp h2⟩
  · rintro ⟨s, h1, h2⟩
    exact ⟨s, List.mem_range.mpr h1, bne_iff_ne.mpr h2⟩
def of_KX (n : Nat) (T : Nat → Int32) (b v f j : Nat) : Option Int32 := if of_cl j b = 0 ∧ of_dx (2 ^ n) v (of_kx (T f) b (2 ^ n) j) = true then some (of_kx (T f) b (2 ^ n) j) else none
def of_xl (n : Nat) (T : Nat → Int32) (b v : Nat) : List Int32 := of_fo (of_KX n T b v) (2 ^ n) 3
/-- the width after the set b at variable v -/
def of_w (n : Nat) (T : Nat → Int32) (b v : Nat) : Nat := (of_xl n T b v).length
/-! the reference's -/
def of_ky (t : Int32) (g : Nat → Nat) (p m j : Nat) : Int32 := of_mk (fun s => bt t (of_sp g 0 j p ||| of_sp g p s m)) (2 ^ m)
def of_dy (H : Nat) (r : Int32) : Bool := (List.range H).any (fun c => bt r (2 * c) != bt r (2 * c + 1))
theorem of_dy_t {H : Nat} {r : Int32} : of_dy H r = true ↔ ∃ c, c < H ∧ bt r (2 * c) ≠ bt r (2 * c + 1) := by
  unfold of_dy
  rw [List.any_eq_true]
  constructor
  · rintro ⟨s, h1, h2⟩
    exact ⟨s, List.mem_range.mp h1, bne_iff_ne.mp h2⟩
  · rintro ⟨s, h1, h2⟩
    exact ⟨s, List.mem_range.mpr h1, bne_iff_ne.mpr h2⟩
def of_KY (T : Nat → Int32) (g : Nat → Nat) (p m f j : Nat) : Option Int32 := if of_dy (2 ^ (m - 1)) (of_ky (T f) g p m j) = true then some (of_ky (T f) g p m j) else none
def of_yl (T : Nat → Int32) (g : Nat → Nat) (p m : Nat) : List Int32 := of_fo (of_KY T g p m) (2 ^ p) 3
theorem of_kx_at {t : Int32} {b n a i : Nat} (hn : n ≤ 5) (hi : i < 2 ^ n) : bt (of_kx t b (2 ^ n) a) i = bt t (of_cl i b ||| a) := of_mk_at (of_32 hn) hi
theorem of_ky_at {t : Int32} {g : Nat → Nat} {p m j i : Nat} (hm : m ≤ 5) (hi : i < 2 ^ m) : bt (of_ky t g p m j) i = bt t (of_sp g 0 j p ||| of_sp g p i m) := of_mk_at (of_32 hm) hi
/-- the bits of one in the bits of the other -/
theorem of_yx {n : Nat} {g : Nat → Nat} {p m : Nat} (hn : n ≤ 5) (P : of_Pm n g) (hp : p + m = n) (t : Int32) (j s : Nat) (hs : s < 2 ^ m) : bt (of_ky t g p m j) s = bt (of_kx t (of_bs g p) (2 ^ n) (of_sp g 0 j p)) (of_sp g p s m) := by
  rw [of_ky_at (by omega) hs, of_kx_at hn (of_sp_lt P (by omega)), of_S3 hn P hp, Nat.or_comm]
theorem of_xy {n : Nat} {g : Nat → Nat} {p m : Nat} (hn : n ≤ 5) (P : of_Pm n g) (hp : p + m = n) (t : Int32) (j i : Nat) (hi : i < 2 ^ n) : bt (of_kx t (of_bs g p) (2 ^ n) (of_sp g 0 j p)) i = bt (of_ky t g p m j) (of_gt g p i m) := by
  rw [of_ky_at (by omega) (of_gt_lt m), of_kx_at hn hi, of_S4 hn P hp hi, Nat.or_comm]
theorem of_xor_lt {i v n : Nat} (hi : i < 2 ^ n) (hv : v < n) : i ^^^ 2 ^ v < 2 ^ n := Nat.xor_lt_two_pow hi (Nat.pow_lt_pow_right (by decide) hv)
theorem of_gt_x {n : Nat} {g : Nat → Nat} (P : of_Pm n g) {p m i q : Nat} (hp : p + m = n) (hm : 0 < m) : (of_gt g p (i ^^^ 2 ^ g p) m).testBit q = ((of_gt g p i m).testBit q ^^ decide (q = 0)) := by
  rw [Bool.eq_iff_iff, of_gt_b, Nat.testBit_xor, Nat.testBit_two_pow]
  rcases Nat.eq_zero_or_pos q with z | z
  · subst z
    rw [Nat.add_zero, decide_eq_true rfl, decide_eq_true rfl, Bool.xor_true, Bool.xor_true]
    cases hb : (of_gt g p i m).testBit 0 with
    | true =>
      rw [of_gt_b, Nat.add_zero] at hb
      rw [hb.2]
      simp
    | false =>
      have h2 : i.testBit (g p) = false := by
        cases h3 : i.testBit (g p) with
        | false => rfl
        | true =>
          have h4 : (of_gt g p i m).testBit 0 = true := (of_gt_b m 0).mpr ⟨hm, by rw [Nat.add_zero]; exact h3⟩
          rw [h4] at hb
          exact hb
      rw [h2]
      simp [hm]
  · rw [decide_eq_false (by omega : ¬ q = 0), Bool.xor_false, of_gt_b]
    constructor
    · rintro ⟨h1, h2⟩
      have h3 : ¬ g p = g (p + q) := by
        intro e
        have := P.2.1 p (p + q) (by omega) (by omega) e
        omega
      rw [decide_eq_false h3, Bool.xor_false] at h2
      exact ⟨h1, h2⟩
    · rintro ⟨h1, h2⟩
      have h3 : ¬ g p = g (p + q) := by
        intro e
        have := P.2.1 p (p + q) (by omega) (by omega) e
        omega
      rw [decide_eq_false h3, Bool.xor_false]
      exact ⟨h1, h2⟩
theorem of_flip0 {a b : Nat} (h : ∀ q, b.testBit q = (a.testBit q ^^ decide (q = 0))) : (a = 2 * (a / 2) ∧ b = 2 * (a / 2) + 1) ∨ (b = 2 * (a / 2) ∧ a = 2 * (a / 2) + 1) := by
  have h0 := h 0
  rw [Nat.testBit_zero, Nat.testBit_zero, decide_eq_true rfl, Bool.xor_true] at h0
  have h1 : b / 2 = a / 2 := by
    apply Nat.eq_of_testBit_eq
    intro i
    rw [← Nat.testBit_add_one, ← Nat.testBit_add_one, h (i + 1), decide_eq_false (by omega), Bool.xor_false]
  rcases Nat.mod_two_eq_zero_or_one a with z | z
  · left
    rw [z] at h0
    have h2 : b % 2 = 1 := by
      apply Classical.byContradiction
      intro y
      rw [decide_eq_false y] at h0
      simp at h0
    omega
  · right
    rw [z] at h0
    have h2 : ¬ b % 2 = 1 := by
      intro y
      rw [y] at h0
      simp at h0
    omega
/-- both depend, or neither does -/
theorem of_dd {n : Nat} {g : Nat → Nat} {p m : Nat} (hn : n ≤ 5) (P : of_Pm n g) (hp : p + m = n) (hm : 0 < m) (t : Int32) (j : Nat) : of_dy (2 ^ (m - 1)) (of_ky t g p m j) = of_dx (2 ^ n) (g p) (of_kx t (of_bs g p) (2 ^ n) (of_sp g 0 j p)) := by
  have e2 : 2 ^ m = 2 * 2 ^ (m - 1) := by
    rw [← Nat.pow_succ']
    congr 1
    omega
  rw [Bool.eq_iff_iff, of_dy_t, of_dx_t]
  constructor
  · rintro ⟨c, h1, h2⟩
    refine ⟨of_sp g p (2 * c) m, of_sp_lt P (by omega), ?_⟩
    rw [of_yx hn P hp t j (2 * c) (by omega), of_yx hn P hp t j (2 * c + 1) (by omega), of_S5 P hp hm] at h2
    exact h2
  · rintro ⟨i, h1, h2⟩
    rw [of_xy hn P hp t j i h1, of_xy hn P hp t j (i ^^^ 2 ^ g p) (of_xor_lt h1 (P.1 p (by omega)))] at h2
    have hl := of_gt_lt (g := g) (lo := p) (i := i) m
    rcases of_flip0 (fun q => of_gt_x (i := i) (q := q) P hp hm) with ⟨a1, a2⟩ | ⟨a1, a2⟩
    · refine ⟨of_gt g p i m / 2, by omega, ?_⟩
      rw [← a2, ← a1]
      exact h2
    · refine ⟨of_gt g p i m / 2, by omega, ?_⟩
      rw [← a2, ← a1]
      exact h2.symm
theorem of_keq {n : Nat} {g : Nat → Nat} {p m : Nat} (hn : n ≤ 5) (P : of_Pm n g) (hp : p + m = n) {t t' : Int32} {j j' : Nat} : of_ky t g p m j = of_ky t' g p m j' ↔ of_kx t (of_bs g p) (2 ^ n) (of_sp g 0 j p) = of_kx t' (of_bs g p) (2 ^ n) (of_sp g 0 j' p) := by
  constructor
  · intro h
    apply of_mk_eq (of_32 hn)
    intro i hi
    have h1 := of_xy hn P hp t j i hi
    have h2 := of_xy hn P hp t' j' i hi
    rw [h, ← h2, of_kx_at hn hi, of_kx_at hn hi] at h1
    exact h1
  · intro h
    apply of_mk_eq (of_32 (by omega))
    intro s hs
    have h1 := of_yx hn P hp t j s hs
    have h2 := of_yx hn P hp t' j' s hs
    rw [h, ← h2, of_ky_at (by omega) hs, of_ky_at (by omega) hs] at h1
    exact h1
/-- the two widths are one -/
theorem of_width {n : Nat} {g : Nat → Nat} {p m : Nat} (hn : n ≤ 5) (P : of_Pm n g) (hp : p + m = n) (hm : 0 < m) (T : Nat → Int32) : (of_yl T g p m).length = of_w n T (of_bs g p) (g p) := by
  have hX : ∀ x, x ∈ of_xl n T (of_bs g p) (g p) ↔ ∃ f, f < 3 ∧ ∃ a, a < 2 ^ n ∧ of_KX n T (of_bs g p) (g p) f a = some x := fun x => of_fo_m 3
  have hY : ∀ x, x ∈ of_yl T g p m ↔ ∃ f, f < 3 ∧ ∃ j, j < 2 ^ p ∧ of_KY T g p m f j = some x := fun x => of_fo_m 3
  apply Nat.le_antisymm
  · apply of_len (fun y x => ∃ f j, y = of_ky (T f) g p m j ∧ x = of_kx (T f) (of_bs g p) (2 ^ n) (of_sp g 0 j p))
    · rintro y y' x ⟨f, j, h1, h2⟩ ⟨f', j', h3, h4⟩
      rw [h1, h3, of_keq hn P hp, ← h2, ← h4]
    · exact of_fo_d 3
    · intro y hy
      rw [hY] at hy
      obtain ⟨f, h1, j, h2, h3⟩ := hy
      unfold of_KY at h3
      split at h3
      · rename_i hd
        refine ⟨of_kx (T f) (of_bs g p) (2 ^ n) (of_sp g 0 j p), ?_, f, j, (Option.some.inj h3).symm, rfl⟩
        rw [hX]
        refine ⟨f, h1, of_sp g 0 j p, of_sp_lt P (by omega), ?_⟩
        unfold of_KX
        rw [if_pos ⟨of_S1 hn P (by omega), by rw [← of_dd hn P hp hm]; exact hd⟩]
      · cases h3
  · apply of_len (fun x y => ∃ f j, y = of_ky (T f) g p m j ∧ x = of_kx (T f) (of_bs g p) (2 ^ n) (of_sp g 0 j p))
    · rintro x x' y ⟨f, j, h1, h2⟩ ⟨f', j', h3, h4⟩
      rw [h2, h4, ← of_keq hn P hp, ← h1, ← h3]
    · exact of_fo_d 3
    · intro x hx
      rw [hX] at hx
      obtain ⟨f, h1, a, h2, h3⟩ := hx
      unfold of_KX at h3
      split at h3
      · rename_i hd
        have e := of_S2 (g := g) hn (p := p) h2 hd.1
        refine ⟨of_ky (T f) g p m (of_gt g 0 a p), ?_, f, of_gt g 0 a p, rfl, by rw [e]; exact (Option.some.inj h3).symm⟩
        rw [hY]
        refine ⟨f, h1, of_gt g 0 a p, of_gt_lt p, ?_⟩
        unfold of_KY
        rw [if_pos (by rw [of_dd hn P hp hm, e]; exact hd.2)]
      · cases h3
theorem of_w_le {n : Nat} {T : Nat → Int32} (hn : n ≤ 5) (b v : Nat) : of_w n T b v ≤ 96 := by
  have h := of_fo_l (K := of_KX n T b v) (N := 2 ^ n) 3
  have h32 := of_32 hn
  unfold of_w of_xl
  omega
