/-! the reference's next order, and its searches -/
section YN
variable {n : Nat} {T pr o q : Nat → Int32} {c : Int32}
theorem of_nm1 {n : Nat} (h : 1 ≤ n) : nI n - 1 = nI (n - 1) := by
  obtain ⟨m, rfl⟩ : ∃ m, n = m + 1 := ⟨n - 1, by omega⟩
  exact nI_pred m
theorem of_nm2 : ∀ m, m < 5 → nI (m + 1) - 2 = nI m + (-1) := by decide +kernel
/-- the array's first cells are the list's -/
def of_rp (n : Nat) (l : List Nat) (o : Nat → Int32) : Prop := l.length = n ∧ ∀ p, p < n → o p = nI (l.getD p 0)
theorem of_rp_sw {l : List Nat} {i j : Nat} (hi : i < n) (hj : j < n) (R : of_rp n l o) : of_rp n (of_sw l i j) (upd (upd o i (o j)) j (o i)) := by
  refine ⟨by rw [of_sw_len]; exact R.1, fun p hp => ?_⟩
  rw [of_sw_at (by rw [R.1]; exact hp)]
  by_cases e : p = j
  · rw [if_pos e, e, pk_us]
    exact R.2 i hi
  · rw [if_neg e, pk_un e]
    by_cases e2 : p = i
    · rw [if_pos e2, e2, pk_us]
      exact R.2 j hj
    · rw [if_neg e2, pk_un e2]
      exact R.2 p hp
theorem of_y112 {post : Int32 → SY → Prop} (hn : n ≤ 5) : ∀ d lo hi l o, hi - lo ≤ d → hi < n → of_rp n l o → (∀ o', of_rp n (of_rv lo hi l d) o' → post 1 (nI n, c, T, pr, o', q)) → lo ≤ n → wY_next_112 post (nI n) c (d + 1) (nI lo) (nI hi) T pr o q := by
  intro d
  induction d with
  | zero =>
    intro lo hi l o h1 h2 R hp h3
    exact br_t (nI_le (by omega) (by omega)) (hp o R)
  | succ d ih =>
    intro lo hi l o h1 h2 R hp h3
    by_cases hl : hi ≤ lo
    · refine br_t (nI_le hl (by omega)) (hp o ?_)
      simp only [of_rv]
      rw [if_neg (by omega)]
      exact R
    · refine br_f (of_nle (by omega) (by omega)) ⟨vp_in_nI (by omega) (by decide), ?_⟩
      rw [nI_clamp (by omega : lo < 2 ^ 31), nI_clamp (by omega : hi < 2 ^ 31)]
      refine nm_e ⟨vp_in_nI (by omega) (by decide), vp_in_nI (by omega) (by decide), nm_e ⟨vp_in_nI (by omega) (by decide), nm_e (nm_r (nI_1 lo) ?_)⟩⟩
      obtain ⟨k, rfl⟩ : ∃ k, hi = k + 1 := ⟨hi - 1, by omega⟩
      refine nm_r (pk_m1 k) (ih (lo + 1) k (of_sw l lo (k + 1)) _ (by omega) (by omega) (of_rp_sw (by omega) h2 R) (fun o' R' => hp o' ?_) (by omega))
      simp only [of_rv]
      rw [if_pos (by omega)]
      exact R'
theorem of_y73 {post : Int32 → SY → Prop} {l : List Nat} {i j : Nat} (hn : n ≤ 5) (hi : i < n) (hj : j < n) (R : of_rp n l o) (hp : ∀ o', of_rp n (of_rv (i + 1) (n - 1) (of_sw l i j) n) o' → post 1 (nI n, c, T, pr, o', q)) : wY_next_73 post (nI i) (nI j) (nI n) c T pr o q := by
  unfold wY_next_73
  rw [nI_clamp (by omega : i < 2 ^ 31), nI_clamp (by omega : j < 2 ^ 31)]
  refine ⟨vp_in_nI (by omega) (by decide), nm_e ⟨vp_in_nI (by omega) (by decide), vp_in_nI (by omega) (by decide), nm_e ⟨vp_in_nI (by omega) (by decide), nm_e (nm_r (nI_1 i) (nm_r (of_nm1 (by omega)) ⟨n + 1, ?_⟩))⟩⟩⟩
  exact of_y112 hn n (i + 1) (n - 1) (of_sw l i j) _ (by omega) (by omega) (of_rp_sw hi hj R) hp (by omega)
theorem of_sj_lt {l : List Nat} {i : Nat} : ∀ k, of_sj l i k ≤ k := by
  intro k
  induction k with
  | zero => exact Nat.le_refl _
  | succ k ih =>
    simp only [of_sj]
    split <;> omega
theorem of_y47 {post : Int32 → SY → Prop} {l : List Nat} {i : Nat} (hn : n ≤ 5) (hi : i < n) (hlt : ∀ p, p < n → l.getD p 0 < n) (R : of_rp n l o) (hp : ∀ o', of_rp n (of_rv (i + 1) (n - 1) (of_sw l i (of_sj l i (n - 1))) n) o' → post 1 (nI n, c, T, pr, o', q)) : ∀ k, k < n → of_sj l i k = of_sj l i (n - 1) → wY_next_47 post (nI i) (nI n) c T pr o q (k + 1) (nI k) := by
  intro k
  induction k with
  | zero =>
    intro hk e
    have e0 : 0 = of_sj l i (n - 1) := e
    rw [← e0] at hp
    exact br_t (nI_le (by omega) (by omega)) (of_y73 hn hi (by omega) R hp)
  | succ k ih =>
    intro hk e
    have a1 := hlt i hi
    have a2 := hlt (k + 1) hk
    simp only [of_sj] at e
    refine pk_le (k + 1) i (fun hle => ?_) (fun hle => ?_) rfl rfl (by omega) (by omega)
    · rw [if_neg (by omega)] at e
      rw [← e] at hp
      exact of_y73 hn hi hk R hp
    · refine ⟨vp_in_nI (by omega) (by decide), vp_in_nI (by omega) (by decide), ?_⟩
      rw [nI_clamp (by omega : i < 2 ^ 31), nI_clamp (by omega : k + 1 < 2 ^ 31), R.2 i hi, R.2 (k + 1) hk]
      refine pk_le (l.getD i 0) (l.getD (k + 1) 0) (fun hl => ?_) (fun hl => ?_) rfl rfl (by omega) (by omega)
      · rw [if_neg (by omega)] at e
        rw [← e] at hp
        exact of_y73 hn hi hk R hp
      · rw [if_pos ⟨hle, hl⟩] at e
        exact nm_r (pk_m1 k) (ih (by omega) e)
theorem of_ynext {post : Int32 → SY → Prop} {l : List Nat} (hn1 : 1 ≤ n) (hn : n ≤ 5) (hlt : ∀ p, p < n → l.getD p 0 < n) (R : of_rp n l o) (h0 : of_nx n l = none → post 0 (nI n, c, T, pr, o, q)) (h1 : ∀ l' o', of_nx n l = some l' → of_rp n l' o' → post 1 (nI n, c, T, pr, o', q)) : wpY_next post (nI n, c, T, pr, o, q) := by
  have key : ∀ k, k < n → of_sc l k = of_sc l (n - 1) → wY_next_7 post (nI n) c T pr o q (k + 1) (nI k + (-1)) := by
    intro k
    induction k with
    | zero =>
      intro hk e
      refine br_t of_m1 (br_f (by decide) (h0 ?_))
      have e0 : of_sc l (n - 1) = 0 := e.symm
      unfold of_nx
      rw [e0]
    | succ k ih =>
      intro hk e
      have a1 := hlt k (by omega)
      have a2 := hlt (k + 1) hk
      simp only [of_sc] at e
      rw [pk_m1]
      refine br_f (nI_pos (by omega)) ⟨vp_in_nI (by omega) (by decide), ?_⟩
      rw [nI_1 k, nI_clamp (by omega : k < 2 ^ 31), nI_clamp (by omega : k + 1 < 2 ^ 31), R.2 k (by omega), R.2 (k + 1) hk]
      refine ⟨vp_in_nI (by omega) (by decide), ?_⟩
      refine pk_le (l.getD k 0) (l.getD (k + 1) 0) (fun hl => ?_) (fun hl => ?_) rfl rfl (by omega) (by omega)
      · rw [if_neg (by omega)] at e
        have e2 : of_nx n l = some (of_rv (k + 1) (n - 1) (of_sw l k (of_sj l k (n - 1))) n) := by
          unfold of_nx
          rw [← e]
        refine br_t (nI_pos' (by omega)) (nm_r (of_nm1 hn1) ⟨n - 1 + 1, ?_⟩)
        exact of_y47 hn (by omega) hlt R (fun o' R' => h1 _ o' e2 R') (n - 1) (by omega) rfl
      · rw [if_pos hl] at e
        exact nm_e (ih (by omega) e)
  obtain ⟨m, rfl⟩ : ∃ m, n = m + 1 := ⟨n - 1, by omega⟩
  exact nm_r (of_nm2 m (by omega)) ⟨m + 1, key m (by omega) rfl⟩
theorem of_ch_1 {l : List Nat} (h : of_ch n [l] = true) : of_nx n l = none := by
  simp only [of_ch, Bool.and_eq_true, decide_eq_true_iff] at h
  exact h.1
theorem of_ch_2 {l l' : List Nat} {L : List (List Nat)} (h : of_ch n (l :: l' :: L) = true) : of_nx n l = some l' ∧ of_ch n (l' :: L) = true := by
  rw [of_ch, Bool.and_eq_true] at h
  exact ⟨of_decide_eq_true h.1, h.2⟩
theorem of_ysz {post : Int32 → SY → Prop} {l : List Nat} (hn1 : 1 ≤ n) (hn : n ≤ 5) (hl : l ∈ of_en n n 0) (R : of_rp n l o) (hp : ∀ q' c', post (nI (of_cost (of_w n T) 0 l)) (nI n, c', T, pr, o, q')) : wpY_sizeOfOrder post (nI n, c, T, pr, o, q) := by
  have e := of_sz_cost (w := of_w n T) l
  rw [R.1] at e
  rw [← e] at hp
  exact of_ysize hn (of_pm hn1 hn hl) R.2 hp
theorem of_cost_b {l : List Nat} (hn : n ≤ 5) (hl : l ∈ of_en n n 0) : of_cost (of_w n T) 0 l ≤ 480 := by
  have h1 := of_cost_le (fun b v => of_w_le (T := T) hn b v) l 0
  have h2 := of_en_len _ _ _ hl
  have h3 : 96 * l.length ≤ 96 * 5 := Nat.mul_le_mul_left _ (by omega)
  omega
theorem of_y40 {post : Int32 → SY → Prop} {J : Int32 → Int32 → Int32 → Int32 → Int32 → (Nat → Int32) → (Nat → Int32) → (Nat → Int32) → (Nat → Int32) → Prop} {x1 x2 x5 : Int32} {l : List Nat} {m : Nat} (hn1 : 1 ≤ n) (hn : n ≤ 5) (hm : m ≤ 1000) (hl : l ∈ of_en n n 0) (R : of_rp n l o) (hp : ∀ q' c', wY_lowest_55 post J x1 x2 (nI (if of_cost (of_w n T) 0 l < m then of_cost (of_w n T) 0 l else m)) x5 (nI n) c' T pr o q') : wY_lowest_40 post J x1 x2 (nI m) x5 (nI n) c T pr o q := by
  have hb := of_cost_b (T := T) hn hl
  unfold wY_lowest_40
  refine of_ysz hn1 hn hl R (fun q' c' => ?_)
  refine pk_le m (of_cost (of_w n T) 0 l) (fun h => ?_) (fun h => ?_) rfl rfl (by omega) (by omega)
  · have h2 := hp q' c'
    rw [if_neg (by omega)] at h2
    exact h2
  · have h2 := hp q' c'
    rw [if_pos h] at h2
    exact h2
theorem of_ylow {post : Int32 → SY → Prop} {x1 x2 : Int32} {p : List Nat → Bool} (hn1 : 1 ≤ n) (hn : n ≤ 5) (hx : (x1 < 0 ∧ ∀ l, p l = true) ∨ (∃ pv pp, pv < n ∧ pp < n ∧ x1 = nI pv ∧ x2 = nI pp ∧ ∀ l, p l = decide (l.getD pp 0 = pv))) : ∀ (L : List (List Nat)) (l : List Nat) (i m : Nat) (o q : Nat → Int32) (c : Int32), of_ch n (l :: L) = true → (∀ l', l' ∈ l :: L → l' ∈ of_en n n 0) → i + L.length < 120 → m ≤ 1000 → of_rp n l o → (∀ o' q' c', post (nI (of_mn (of_cost (of_w n T) 0) p (l :: L) m)) (nI n, c', T, pr, o', q')) → wY_lowest_14 post x1 x2 (L.length + 2) (nI m) 1 (nI i) (nI n) c T pr o q := by
  intro L
  induction L with
  | nil =>
    intro l i m o q c hch hen hi hm R hp
    have hl := hen l List.mem_cons_self
    have P := of_pm hn1 hn hl
    have h55 : ∀ q c, wY_lowest_55 post (wY_lowest_14 post x1 x2 1) x1 x2 (nI (of_mn (of_cost (of_w n T) 0) p [l] m)) (nI i) (nI n) c T pr o q := by
      intro q c
      unfold wY_lowest_55
      refine of_ynext hn1 hn P.1 R (fun _ => ?_) (fun l' o' e _ => ?_)
      · refine nm_e ?_
        exact br_c (fun _ => hp o q c) (fun _ => br_t rfl (hp o q c))
      · rw [of_ch_1 hch] at e
        cases e
    refine br_f (of_nle (b := 120) (by simp at hi; omega) (by decide)) (br_f of_10 ?_)
    rcases hx with ⟨hx1, hx2⟩ | ⟨pv, pp, b1, b2, b3, b4, b5⟩
    · refine br_t hx1 (of_y40 hn1 hn hm hl R (fun q' c' => ?_))
      have e : of_mn (of_cost (of_w n T) 0) p [l] m = (if of_cost (of_w n T) 0 l < m then of_cost (of_w n T) 0 l else m) := by
        simp only [of_mn, hx2, true_and]
      rw [← e]
      exact h55 q' c'
    · subst b3 b4
      refine br_f (nI_pos (by omega)) ⟨vp_in_nI (by omega) (by decide), ?_⟩
      rw [nI_clamp (by omega : pp < 2 ^ 31), R.2 pp b2]
      have hb : l.getD pp 0 < n := P.1 pp b2
      refine pk_eq (l.getD pp 0) pv (fun he => ?_) (fun he => ?_) rfl rfl (by omega) (by omega)
      · refine of_y40 hn1 hn hm hl R (fun q' c' => ?_)
        have e : of_mn (of_cost (of_w n T) 0) p [l] m = (if of_cost (of_w n T) 0 l < m then of_cost (of_w n T) 0 l else m) := by
          simp only [of_mn, b5, he, decide_true, true_and]
        rw [← e]
        exact h55 q' c'
      · have e : of_mn (of_cost (of_w n T) 0) p [l] m = m := by
          simp only [of_mn, b5, decide_eq_false he, Bool.false_eq_true, false_and, if_false]
        have h2 := h55 q c
        rw [e] at h2
        exact h2
  | cons l2 L ih =>
    intro l i m o q c hch hen hi hm R hp
    have hl := hen l List.mem_cons_self
    have P := of_pm hn1 hn hl
    obtain ⟨hc1, hc2⟩ := of_ch_2 hch
    have h55 : ∀ m' q c, m' ≤ 1000 → of_mn (of_cost (of_w n T) 0) p (l :: l2 :: L) m = of_mn (of_cost (of_w n T) 0) p (l2 :: L) m' → wY_lowest_55 post (wY_lowest_14 post x1 x2 (L.length + 2)) x1 x2 (nI m') (nI i) (nI n) c T pr o q := by
      intro m' q c hm' hmn
      rw [hmn] at hp
      unfold wY_lowest_55
      refine of_ynext hn1 hn P.1 R (fun e => ?_) (fun l' o' e R' => ?_)
      · rw [hc1] at e
        cases e
      · rw [hc1] at e
        cases e
        refine nm_r (nI_1 i) ?_
        exact ih l2 (i + 1) m' o' q c hc2 (fun l' h' => hen l' (List.mem_cons_of_mem _ h')) (by rw [List.length_cons] at hi; omega) hm' R' hp
    refine br_f (of_nle (b := 120) (by rw [List.length_cons] at hi; omega) (by decide)) (br_f of_10 ?_)
    rcases hx with ⟨hx1, hx2⟩ | ⟨pv, pp, b1, b2, b3, b4, b5⟩
    · refine br_t hx1 (of_y40 hn1 hn hm hl R (fun q' c' => h55 _ q' c' (by split <;> omega) ?_))
      rw [of_mn]
      simp only [hx2, true_and]
    · subst b3 b4
      refine br_f (nI_pos (by omega)) ⟨vp_in_nI (by omega) (by decide), ?_⟩
      rw [nI_clamp (by omega : pp < 2 ^ 31), R.2 pp b2]
      have hb : l.getD pp 0 < n := P.1 pp b2
      refine pk_eq (l.getD pp 0) pv (fun he => ?_) (fun he => ?_) rfl rfl (by omega) (by omega)
      · refine of_y40 hn1 hn hm hl R (fun q' c' => h55 _ q' c' (by split <;> omega) ?_)
        rw [of_mn]
        simp only [b5 l, he, decide_true, true_and]
      · refine h55 m q c hm ?_
        rw [of_mn]
        simp only [b5 l, decide_eq_false he, Bool.false_eq_true, false_and, if_false]
end YN
