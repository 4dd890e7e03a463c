/-! the best order: the least variable that keeps the least sum, place by place, is the first of the search -/
def of_ba (w : Nat → Nat → Nat) (r : Nat → Nat) (b : Nat) : Nat → Nat → Nat
  | 0, f => f
  | v + 1, f => of_ba w r b v (if b.testBit v = false ∧ w b v + r (b ||| 2 ^ v) = r b then v else f)
theorem of_ba_first {w : Nat → Nat → Nat} {r : Nat → Nat} {b : Nat} : ∀ k f, (of_ba w r b k f = f ∧ ∀ u, u < k → ¬ (b.testBit u = false ∧ w b u + r (b ||| 2 ^ u) = r b)) ∨ (of_ba w r b k f < k ∧ (b.testBit (of_ba w r b k f) = false ∧ w b (of_ba w r b k f) + r (b ||| 2 ^ (of_ba w r b k f)) = r b) ∧ ∀ u, u < of_ba w r b k f → ¬ (b.testBit u = false ∧ w b u + r (b ||| 2 ^ u) = r b)) := by
  intro k
  induction k with
  | zero => intro f; exact Or.inl ⟨rfl, fun u hu => by omega⟩
  | succ k ih =>
    intro f
    simp only [of_ba]
    by_cases c : b.testBit k = false ∧ w b k + r (b ||| 2 ^ k) = r b
    · rw [if_pos c]
      rcases ih k with ⟨h1, h2⟩ | ⟨h1, h2, h3⟩
      · right
        rw [h1]
        exact ⟨by omega, c, h2⟩
      · right
        exact ⟨by omega, h2, h3⟩
    · rw [if_neg c]
      rcases ih f with ⟨h1, h2⟩ | ⟨h1, h2, h3⟩
      · left
        refine ⟨h1, fun u hu => ?_⟩
        rcases Nat.lt_or_ge u k with z | z
        · exact h2 u z
        · have e : u = k := by omega
          rw [e]; exact c
      · right
        exact ⟨by omega, h2, h3⟩
theorem of_ba_lt {w : Nat → Nat → Nat} {r : Nat → Nat} {b n : Nat} (hn : 1 ≤ n) : of_ba w r b n 0 < n := by
  rcases of_ba_first (w := w) (r := r) (b := b) n 0 with h | h
  · omega
  · exact h.1
def of_gr (n : Nat) (w : Nat → Nat → Nat) (r : Nat → Nat) : Nat → Nat → List Nat
  | 0, _ => []
  | k + 1, b => of_ba w r b n 0 :: of_gr n w r k (b ||| 2 ^ of_ba w r b n 0)
def of_bp (n : Nat) (w : Nat → Nat → Nat) (r : Nat → Nat) : Nat → Nat
  | 0 => 0
  | p + 1 => of_bp n w r p ||| 2 ^ of_ba w r (of_bp n w r p) n 0
theorem of_bp_lt {n : Nat} {w : Nat → Nat → Nat} {r : Nat → Nat} (hn : 1 ≤ n) : ∀ p, of_bp n w r p < 2 ^ n := by
  intro p
  induction p with
  | zero => exact Nat.two_pow_pos n
  | succ p ih => exact of_or_lt ih (of_ba_lt hn)
theorem of_gr_at {n : Nat} {w : Nat → Nat → Nat} {r : Nat → Nat} : ∀ i j k, i < k → (of_gr n w r k (of_bp n w r j)).getD i 0 = of_ba w r (of_bp n w r (j + i)) n 0 := by
  intro i
  induction i with
  | zero =>
    intro j k hk
    obtain ⟨k, rfl⟩ : ∃ k', k = k' + 1 := ⟨k - 1, by omega⟩
    rfl
  | succ i ih =>
    intro j k hk
    obtain ⟨k, rfl⟩ : ∃ k', k = k' + 1 := ⟨k - 1, by omega⟩
    have h := ih (j + 1) k (by omega)
    rw [show j + (i + 1) = j + 1 + i by omega, ← h]
    rfl
theorem of_fs {n v0 : Nat} {α : Type} {f : Nat → Option α} {y : α} (h : v0 < n) (hy : f v0 = some y) (hu : ∀ u, u < v0 → f u = none) : (List.range n).findSome? f = some y := by
  induction n with
  | zero => omega
  | succ n ih =>
    rw [List.range_succ, List.findSome?_append]
    rcases Nat.lt_or_ge v0 n with z | z
    · rw [ih z]; rfl
    · have e : v0 = n := by omega
      subst e
      have h1 : (List.range v0).findSome? f = none := by
        rw [List.findSome?_eq_none_iff]
        intro x hx
        exact hu x (List.mem_range.mp hx)
      rw [h1]
      simp [hy]
theorem of_find {n : Nat} {w : Nat → Nat → Nat} {r : Nat → Nat} (F : of_F n (fun _ _ => true) w r) : ∀ k b, b < 2 ^ n → of_cn b n + k = n → r b < 1000000 → (of_en n k b).find? (fun l => decide (of_cost w b l = r b)) = some (of_gr n w r k b) := by
  intro k
  induction k with
  | zero =>
    intro b hb hc _
    have e := of_full hb hc
    simp [of_en, of_gr, of_cost, e, F.1]
  | succ k ih =>
    intro b hb hc hr
    have hne : b ≠ 2 ^ n - 1 := by
      intro e
      rw [e, of_cn_m1] at hc
      omega
    have hF := F.2 b (by omega)
    have hex : ∃ v, v < n ∧ (b.testBit v = false ∧ w b v + r (b ||| 2 ^ v) = r b) := by
      rcases of_la_att (al := fun _ _ => true) (w := w) (r := r) (b := b) n with h | ⟨v, a1, a2, _, a4⟩
      · omega
      · exact ⟨v, a1, a2, by omega⟩
    rcases of_ba_first (w := w) (r := r) (b := b) n 0 with h | ⟨m1, m2, m3⟩
    · obtain ⟨v, a1, a2⟩ := hex
      exact absurd a2 (h.2 v a1)
    · simp only [of_gr]
      generalize of_ba w r b n 0 = m at m1 m2 m3
      rw [of_en, List.find?_flatMap]
      apply of_fs (v0 := m) m1
      · rw [if_neg (by rw [m2.1]; exact Bool.false_ne_true), List.find?_map]
        have hc2 : of_cn (b ||| 2 ^ m) n + k = n := by
          rw [of_cn_or m2.1, if_pos m1]
          omega
        have hi := ih (b ||| 2 ^ m) (of_or_lt hb m1) hc2 (by omega)
        have e : ((fun l => decide (of_cost w b l = r b)) ∘ fun l => m :: l) = (fun l => decide (of_cost w (b ||| 2 ^ m) l = r (b ||| 2 ^ m))) := by
          funext l
          have hm := m2.2
          show decide (w b m + of_cost w (b ||| 2 ^ m) l = r b) = _
          rw [decide_eq_decide]
          omega
        rw [e, hi]
        rfl
      · intro u hu
        cases hb2 : b.testBit u with
        | true => rfl
        | false =>
          rw [if_neg (by exact Bool.false_ne_true), List.find?_eq_none]
          intro l hl
          rw [List.mem_map] at hl
          obtain ⟨l', h1, rfl⟩ := hl
          have hun : u < n := by omega
          have hc2 : of_cn (b ||| 2 ^ u) n + k = n := by
            rw [of_cn_or hb2, if_pos hun]
            omega
          have h2 := of_ok_of_en k _ l' (of_or_lt hb hun) hc2 h1
          have h3 := of_A F l' _ (of_or_lt hb hun) h2
          have h4 := of_la_min (al := fun _ _ => true) (w := w) (r := r) (b := b) n u hun hb2 rfl
          have h5 : ¬ (w b u + r (b ||| 2 ^ u) = r b) := fun z => m3 u hu ⟨hb2, z⟩
          rw [decide_eq_true_iff]
          simp only [of_cost]
          omega
/-- what both sides answer for the best order -/
theorem of_best {n : Nat} {w : Nat → Nat → Nat} {r : Nat → Nat} (F : of_F n (fun _ _ => true) w r) (hr : r 0 < 1000000) : ∃ l, (of_en n n 0).find? (fun l => decide (of_cost w 0 l = r 0)) = some l ∧ ∀ i, i < n → l.getD i 0 = of_ba w r (of_bp n w r i) n 0 := by
  refine ⟨_, of_find F n 0 (Nat.two_pow_pos n) (by rw [of_cn_0]; omega) hr, fun i hi => ?_⟩
  have h := of_gr_at (n := n) (w := w) (r := r) i 0 n hi
  rw [Nat.zero_add] at h
  exact h
