/-! the next order, on lists; all orders one behind the other (looked through for 1 to 5 variables) -/
def of_sc (l : List Nat) : Nat → Nat
  | 0 => 0
  | k + 1 => if l.getD (k + 1) 0 < l.getD k 0 then of_sc l k else k + 1
def of_sj (l : List Nat) (i : Nat) : Nat → Nat
  | 0 => 0
  | k + 1 => if i < k + 1 ∧ l.getD (k + 1) 0 < l.getD i 0 then of_sj l i k else k + 1
def of_sw (l : List Nat) (i j : Nat) : List Nat := (l.set i (l.getD j 0)).set j (l.getD i 0)
def of_rv (lo hi : Nat) (l : List Nat) : Nat → List Nat
  | 0 => l
  | d + 1 => if lo < hi then of_rv (lo + 1) (hi - 1) (of_sw l lo hi) d else l
def of_nx (n : Nat) (l : List Nat) : Option (List Nat) :=
  match of_sc l (n - 1) with
  | 0 => none
  | i + 1 => some (of_rv (i + 1) (n - 1) (of_sw l i (of_sj l i (n - 1))) n)
def of_ch (n : Nat) : List (List Nat) → Bool
  | [] => true
  | l :: L => (match L with
    | [] => decide (of_nx n l = none)
    | l' :: _ => decide (of_nx n l = some l')) && of_ch n L
def of_pin (n pv pp b v : Nat) : Bool := decide (v = pv) == decide (of_cn b n = pp)
def of_pmB (n : Nat) (l : List Nat) : Bool := (List.range n).all (fun p => decide (l.getD p 0 < n) && (List.range n).all (fun q => decide (p = q) || !decide (l.getD p 0 = l.getD q 0)) && (List.range n).any (fun q => decide (l.getD q 0 = p)))
def of_pinB (n : Nat) : Bool := (of_en n n 0).all (fun l => (List.range n).all (fun pv => (List.range n).all (fun pp => decide (l.getD pp 0 = pv) == of_ok n (of_pin n pv pp) 0 l)))
def of_exB (n : Nat) : Bool := (List.range n).all (fun pv => (List.range n).all (fun pp => (of_en n n 0).any (fun l => decide (l.getD pp 0 = pv))))
theorem of_ch_all : ∀ n, n < 5 → of_ch (n + 1) (of_en (n + 1) (n + 1) 0) = true := by decide +kernel
theorem of_hd_all : ∀ n, n < 5 → (of_en (n + 1) (n + 1) 0).head? = some (List.range (n + 1)) := by decide +kernel
theorem of_ln_all : ∀ n, n < 5 → (of_en (n + 1) (n + 1) 0).length ≤ 120 := by decide +kernel
theorem of_pm_all : ∀ n, n < 5 → (of_en (n + 1) (n + 1) 0).all (of_pmB (n + 1)) = true := by decide +kernel
theorem of_pin_all : ∀ n, n < 5 → of_pinB (n + 1) = true := by decide +kernel
theorem of_ex_all : ∀ n, n < 5 → of_exB (n + 1) = true := by decide +kernel
theorem of_pm {n : Nat} (h1 : 1 ≤ n) (h5 : n ≤ 5) {l : List Nat} (hl : l ∈ of_en n n 0) : of_Pm n (fun p => l.getD p 0) := by
  obtain ⟨n, rfl⟩ : ∃ n', n = n' + 1 := ⟨n - 1, by omega⟩
  have h := of_pm_all n (by omega)
  rw [List.all_eq_true] at h
  have h2 := h l hl
  unfold of_pmB at h2
  rw [List.all_eq_true] at h2
  have h3 : ∀ p, p < n + 1 → l.getD p 0 < n + 1 ∧ (∀ q, q < n + 1 → l.getD p 0 = l.getD q 0 → p = q) ∧ (∃ q, q < n + 1 ∧ l.getD q 0 = p) := by
    intro p hp
    have h4 := h2 p (List.mem_range.mpr hp)
    rw [Bool.and_eq_true, Bool.and_eq_true, List.all_eq_true, List.any_eq_true, decide_eq_true_iff] at h4
    obtain ⟨⟨a1, a2⟩, ⟨q0, a3, a4⟩⟩ := h4
    refine ⟨a1, fun q hq e => ?_, q0, List.mem_range.mp a3, of_decide_eq_true a4⟩
    have a5 := a2 q (List.mem_range.mpr hq)
    rw [Bool.or_eq_true, decide_eq_true_iff, e, decide_eq_true rfl] at a5
    rcases a5 with z | z
    · exact z
    · exact Bool.noConfusion z
  exact ⟨fun p hp => (h3 p hp).1, fun p q hp hq e => (h3 p hp).2.1 q hq e, fun v hv => (h3 v hv).2.2⟩
theorem of_pinE {n : Nat} (h1 : 1 ≤ n) (h5 : n ≤ 5) {l : List Nat} (hl : l ∈ of_en n n 0) {pv pp : Nat} (hv : pv < n) (hp : pp < n) : decide (l.getD pp 0 = pv) = of_ok n (of_pin n pv pp) 0 l := by
  obtain ⟨n, rfl⟩ : ∃ n', n = n' + 1 := ⟨n - 1, by omega⟩
  have h := of_pin_all n (by omega)
  unfold of_pinB at h
  rw [List.all_eq_true] at h
  have h2 := h l hl
  rw [List.all_eq_true] at h2
  have h3 := h2 pv (List.mem_range.mpr hv)
  rw [List.all_eq_true] at h3
  have h4 := h3 pp (List.mem_range.mpr hp)
  exact eq_of_beq h4
theorem of_exE {n : Nat} (h1 : 1 ≤ n) (h5 : n ≤ 5) {pv pp : Nat} (hv : pv < n) (hp : pp < n) : ∃ l, l ∈ of_en n n 0 ∧ decide (l.getD pp 0 = pv) = true := by
  obtain ⟨n, rfl⟩ : ∃ n', n = n' + 1 := ⟨n - 1, by omega⟩
  have h := of_ex_all n (by omega)
  unfold of_exB at h
  rw [List.all_eq_true] at h
  have h3 := h pv (List.mem_range.mpr hv)
  rw [List.all_eq_true] at h3
  have h4 := h3 pp (List.mem_range.mpr hp)
  rw [List.any_eq_true] at h4
  exact h4
theorem of_en_len {n : Nat} : ∀ k b l, l ∈ of_en n k b → l.length = k := by
  intro k
  induction k with
  | zero =>
    intro b l h
    simp [of_en] at h
    rw [h]; rfl
  | succ k ih =>
    intro b l h
    rw [of_en_s] at h
    obtain ⟨v, l', _, _, h3, rfl⟩ := h
    rw [List.length_cons, ih _ _ h3]
/-- the whole search as a list: it begins with the order 0, 1, .., and each is the next of the one before -/
theorem of_all {n : Nat} (h1 : 1 ≤ n) (h5 : n ≤ 5) : ∃ L, of_en n n 0 = List.range n :: L ∧ L.length < 120 ∧ of_ch n (List.range n :: L) = true := by
  obtain ⟨n, rfl⟩ : ∃ n', n = n' + 1 := ⟨n - 1, by omega⟩
  have a1 := of_hd_all n (by omega)
  have a2 := of_ln_all n (by omega)
  have a3 := of_ch_all n (by omega)
  generalize of_en (n + 1) (n + 1) 0 = E at a1 a2 a3
  cases E with
  | nil => simp at a1
  | cons l L =>
    have e : l = List.range (n + 1) := Option.some.inj a1
    subst e
    exact ⟨L, rfl, by rw [List.length_cons] at a2; omega, a3⟩
/-! sums of widths -/
def of_sz (w : Nat → Nat → Nat) (g : Nat → Nat) : Nat → Nat
  | 0 => 0
  | p + 1 => of_sz w g p + w (of_bs g p) (g p)
theorem of_sz_le {w : Nat → Nat → Nat} {g : Nat → Nat} {c : Nat} (hw : ∀ b v, w b v ≤ c) : ∀ p, of_sz w g p ≤ p * c := by
  intro p
  induction p with
  | zero => exact Nat.zero_le _
  | succ p ih =>
    have h := hw (of_bs g p) (g p)
    simp only [of_sz]
    rw [Nat.succ_mul]
    omega
theorem of_sz_cost {w : Nat → Nat → Nat} (l : List Nat) : of_sz w (fun p => l.getD p 0) l.length = of_cost w 0 l := by
  have h : ∀ i, i ≤ l.length → of_sz w (fun p => l.getD p 0) i + of_cost w (of_bs (fun p => l.getD p 0) i) (l.drop i) = of_cost w 0 l := by
    intro i
    induction i with
    | zero =>
      intro _
      simp [of_sz, of_bs]
    | succ i ih =>
      intro hi
      have h1 := ih (by omega)
      rw [List.drop_eq_getElem_cons (by omega)] at h1
      have e : l.getD i 0 = l[i] := by
        rw [List.getD_eq_getElem?_getD, List.getElem?_eq_getElem (by omega)]
        rfl
      simp only [of_cost] at h1
      simp only [of_sz, of_bs]
      rw [e]
      omega
  have h2 := h l.length (Nat.le_refl _)
  rw [List.drop_length] at h2
  simp only [of_cost] at h2
  omega
theorem of_bs_c {g g' : Nat → Nat} : ∀ p, (∀ q, q < p → g q = g' q) → of_bs g p = of_bs g' p := by
  intro p
  induction p with
  | zero => intro _; rfl
  | succ p ih =>
    intro h
    simp only [of_bs]
    rw [ih (fun q hq => h q (by omega)), h p (by omega)]
/-! an array's first cells as a list -/
def of_ls (a : Nat → Int32) (c : Nat) : List Int32 := (List.range c).map a
theorem of_ls_len {a : Nat → Int32} {c : Nat} : (of_ls a c).length = c := by simp [of_ls]
theorem of_ls_m {a : Nat → Int32} {c : Nat} {x : Int32} : x ∈ of_ls a c ↔ ∃ i, i < c ∧ a i = x := by
  unfold of_ls
  rw [List.mem_map]
  constructor
  · rintro ⟨i, h1, h2⟩
    exact ⟨i, List.mem_range.mp h1, h2⟩
  · rintro ⟨i, h1, h2⟩
    exact ⟨i, List.mem_range.mpr h1, h2⟩
theorem of_ls_u {a : Nat → Int32} {c : Nat} {x : Int32} : of_ls (upd a c x) (c + 1) = of_ls a c ++ [x] := by
  unfold of_ls
  rw [List.range_succ, List.map_append]
  have h : (List.range c).map (upd a c x) = (List.range c).map a := by
    apply List.map_congr_left
    intro i hi
    have := List.mem_range.mp hi
    exact pk_un (by omega)
  rw [h]
  simp [pk_us]
/-! a list's cells under a swap -/
theorem of_set_at {l : List Nat} {i p x : Nat} (hp : p < l.length) : (l.set i x).getD p 0 = if p = i then x else l.getD p 0 := by
  rw [List.getD_eq_getElem?_getD, List.getD_eq_getElem?_getD, List.getElem?_set]
  by_cases h : i = p
  · subst h
    simp [hp]
  · rw [if_neg h, if_neg (fun z => h z.symm)]
theorem of_sw_len {l : List Nat} {i j : Nat} : (of_sw l i j).length = l.length := by simp [of_sw]
theorem of_sw_at {l : List Nat} {i j p : Nat} (hp : p < l.length) : (of_sw l i j).getD p 0 = if p = j then l.getD i 0 else if p = i then l.getD j 0 else l.getD p 0 := by
  unfold of_sw
  rw [of_set_at (by rw [List.length_set]; exact hp)]
  by_cases h : p = j
  · rw [if_pos h, if_pos h]
  · rw [if_neg h, if_neg h, of_set_at hp]
