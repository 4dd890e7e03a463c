/-! the reference's searches, whole -/
section YS
variable {n : Nat} {T pr o q : Nat → Int32} {c : Int32}
theorem of_rp0 {o : Nat → Int32} (hn : n ≤ 5) (ho : ∀ p, p < 5 → o p = nI p) : of_rp n (List.range n) o := by
  refine ⟨List.length_range, fun p hp => ?_⟩
  rw [ho p (by omega), List.getD_eq_getElem?_getD, List.getElem?_range hp]
  rfl
theorem of_ylowest {post : Int32 → SY → Prop} {x1 x2 : Int32} {p : List Nat → Bool} (hn1 : 1 ≤ n) (hn : n ≤ 5) (hx : (x1 < 0 ∧ ∀ l, p l = true) ∨ (∃ pv pp, pv < n ∧ pp < n ∧ x1 = nI pv ∧ x2 = nI pp ∧ ∀ l, p l = decide (l.getD pp 0 = pv))) (hp : ∀ o' q' c', post (nI (of_mn (of_cost (of_w n T) 0) p (of_en n n 0) 1000)) (nI n, c', T, pr, o', q')) : wpY_lowest post (nI n, c, T, pr, o, q) x1 x2 := by
  obtain ⟨L, a1, a2, a3⟩ := of_all hn1 hn
  rw [a1] at hp
  refine of_ystart (fun o' ho' => ?_)
  exact ⟨L.length + 2, of_ylow hn1 hn hx L (List.range n) 0 1000 o' q c a3 (fun l' h' => by rw [a1]; exact h') (by omega) (Nat.le_refl _) (of_rp0 hn ho') hp⟩
theorem of_ygr {post : Int32 → SY → Prop} (hn1 : 1 ≤ n) (hn : n ≤ 5) : ∀ (L : List (List Nat)) (l : List Nat) (i m : Nat) (o q : Nat → Int32) (c : Int32), of_ch n (l :: L) = true → (∀ l', l' ∈ l :: L → l' ∈ of_en n n 0) → i + L.length < 120 → m ≤ 1000 → of_rp n l o → (∀ o' q' c', post (nI (of_mx (of_cost (of_w n T) 0) (l :: L) m)) (nI n, c', T, pr, o', q')) → wY_greatest_10 post (L.length + 2) (nI m) 1 (nI i) (nI n) c T pr o q := by
  intro L
  induction L with
  | nil =>
    intro l i m o q c hch hen hi hm R hp
    have hl := hen l List.mem_cons_self
    have P := of_pm hn1 hn hl
    have hb := of_cost_b (T := T) hn hl
    have h35 : ∀ m' q c, of_mx (of_cost (of_w n T) 0) [l] m = m' → wY_greatest_35 post (wY_greatest_10 post 1) (nI m') (nI i) (nI n) c T pr o q := by
      intro m' q c e
      rw [e] at hp
      unfold wY_greatest_35
      refine of_ynext hn1 hn P.1 R (fun _ => ?_) (fun l' o' e _ => ?_)
      · refine nm_e ?_
        exact br_c (fun _ => hp o q c) (fun _ => br_t rfl (hp o q c))
      · rw [of_ch_1 hch] at e
        cases e
    refine br_f (of_nle (b := 120) (by simp at hi; omega) (by decide)) (br_f of_10 (of_ysz hn1 hn hl R (fun q' c' => ?_)))
    refine pk_le (of_cost (of_w n T) 0 l) m (fun hl => h35 _ q' c' ?_) (fun hl => h35 _ q' c' ?_) rfl rfl (by omega) (by omega)
    · simp only [of_mx]
      rw [if_neg (by omega)]
    · simp only [of_mx]
      rw [if_pos hl]
  | cons l2 L ih =>
    intro l i m o q c hch hen hi hm R hp
    have hl := hen l List.mem_cons_self
    have P := of_pm hn1 hn hl
    have hb := of_cost_b (T := T) hn hl
    obtain ⟨hc1, hc2⟩ := of_ch_2 hch
    have h35 : ∀ m' q c, m' ≤ 1000 → of_mx (of_cost (of_w n T) 0) (l :: l2 :: L) m = of_mx (of_cost (of_w n T) 0) (l2 :: L) m' → wY_greatest_35 post (wY_greatest_10 post (L.length + 2)) (nI m') (nI i) (nI n) c T pr o q := by
      intro m' q c hm' e
      rw [e] at hp
      unfold wY_greatest_35
      refine of_ynext hn1 hn P.1 R (fun e => ?_) (fun l' o' e R' => ?_)
      · rw [hc1] at e
        cases e
      · rw [hc1] at e
        cases e
        refine nm_r (nI_1 i) ?_
        exact ih l2 (i + 1) m' o' q c hc2 (fun l' h' => hen l' (List.mem_cons_of_mem _ h')) (by rw [List.length_cons] at hi; omega) hm' R' hp
    refine br_f (of_nle (b := 120) (by rw [List.length_cons] at hi; omega) (by decide)) (br_f of_10 (of_ysz hn1 hn hl R (fun q' c' => ?_)))
    refine pk_le (of_cost (of_w n T) 0 l) m (fun hl => h35 _ q' c' hm ?_) (fun hl => h35 _ q' c' (by omega) ?_) rfl rfl (by omega) (by omega)
    · rw [of_mx, if_neg (by omega)]
    · rw [of_mx, if_pos hl]
theorem of_ygreatest {post : Int32 → SY → Prop} (hn1 : 1 ≤ n) (hn : n ≤ 5) (hp : ∀ o' q' c', post (nI (of_mx (of_cost (of_w n T) 0) (of_en n n 0) 0)) (nI n, c', T, pr, o', q')) : wpY_greatest post (nI n, c, T, pr, o, q) := by
  obtain ⟨L, a1, a2, a3⟩ := of_all hn1 hn
  rw [a1] at hp
  refine of_ystart (fun o' ho' => ?_)
  exact ⟨L.length + 2, of_ygr hn1 hn L (List.range n) 0 0 o' q c a3 (fun l' h' => by rw [a1]; exact h') (by omega) (by omega) (of_rp0 hn ho') hp⟩
theorem of_ybs {post : Int32 → SY → Prop} {p M : Nat} (hn1 : 1 ≤ n) (hn : n ≤ 5) (hpl : p < n) (hM : M ≤ 1000) : ∀ (L : List (List Nat)) (l : List Nat) (i : Nat) (o q : Nat → Int32) (c : Int32) (lf : List Nat), of_ch n (l :: L) = true → (∀ l', l' ∈ l :: L → l' ∈ of_en n n 0) → i + L.length < 120 → of_rp n l o → (l :: L).find? (fun l => decide (of_cost (of_w n T) 0 l = M)) = some lf → (∀ o' q' c', post (nI (lf.getD p 0)) (nI n, c', T, pr, o', q')) → wY_best_26 post (nI p) (nI M) (L.length + 2) 1 (nI i) (nI n) c T pr o q := by
  intro L
  induction L with
  | nil =>
    intro l i o q c lf hch hen hi R hf hp
    have hl := hen l List.mem_cons_self
    have hb := of_cost_b (T := T) hn hl
    refine br_f (of_nle (b := 120) (by simp at hi; omega) (by decide)) (br_f of_10 (of_ysz hn1 hn hl R (fun q' c' => ?_)))
    rw [List.find?_cons] at hf
    refine pk_eq (of_cost (of_w n T) 0 l) M (fun he => ?_) (fun he => ?_) rfl rfl (by omega) (by omega)
    · rw [decide_eq_true he] at hf
      cases hf
      refine ⟨vp_in_nI (by omega) (by decide), ?_⟩
      rw [nI_clamp (by omega : p < 2 ^ 31), R.2 p hpl]
      exact hp o q' c'
    · rw [decide_eq_false he] at hf
      cases hf
  | cons l2 L ih =>
    intro l i o q c lf hch hen hi R hf hp
    have hl := hen l List.mem_cons_self
    have P := of_pm hn1 hn hl
    have hb := of_cost_b (T := T) hn hl
    obtain ⟨hc1, hc2⟩ := of_ch_2 hch
    refine br_f (of_nle (b := 120) (by rw [List.length_cons] at hi; omega) (by decide)) (br_f of_10 (of_ysz hn1 hn hl R (fun q' c' => ?_)))
    rw [List.find?_cons] at hf
    refine pk_eq (of_cost (of_w n T) 0 l) M (fun he => ?_) (fun he => ?_) rfl rfl (by omega) (by omega)
    · rw [decide_eq_true he] at hf
      cases hf
      refine ⟨vp_in_nI (by omega) (by decide), ?_⟩
      rw [nI_clamp (by omega : p < 2 ^ 31), R.2 p hpl]
      exact hp o q' c'
    · rw [decide_eq_false he] at hf
      refine of_ynext hn1 hn P.1 R (fun e => ?_) (fun l' o' e R' => ?_)
      · rw [hc1] at e
        cases e
      · rw [hc1] at e
        cases e
        refine nm_r (nI_1 i) ?_
        exact ih l2 (i + 1) o' q' c' lf hc2 (fun l' h' => hen l' (List.mem_cons_of_mem _ h')) (by rw [List.length_cons] at hi; omega) R' hf hp
theorem of_ybest {post : Int32 → SY → Prop} {p M : Nat} {lf : List Nat} (hn1 : 1 ≤ n) (hn : n ≤ 5) (hpl : p < n) (hM : M ≤ 1000) (hf : (of_en n n 0).find? (fun l => decide (of_cost (of_w n T) 0 l = M)) = some lf) (ho : ∀ p, p < 5 → o p = nI p) (hp : ∀ o' q' c', post (nI (lf.getD p 0)) (nI n, c', T, pr, o', q')) : ∃ k : Nat, wY_best_26 post (nI p) (nI M) k 1 0 (nI n) c T pr o q := by
  obtain ⟨L, a1, a2, a3⟩ := of_all hn1 hn
  rw [a1] at hf
  exact ⟨L.length + 2, of_ybs hn1 hn hpl hM L (List.range n) 0 o q c lf a3 (fun l' h' => by rw [a1]; exact h') (by omega) (of_rp0 hn ho) hf hp⟩
/-! ranges -/
theorem of_xno {post : Int32 → Prop} {f2 f3 x : Int32} {g rs rm : Nat → Int32} (hz : x < 0 ∨ nI n ≤ x) (hp : post 0) : wpX_isVariableOrPlace post (nI n, f2, f3, T, g, rs, rm) x := by
  by_cases h0 : x < 0
  · exact br_t h0 hp
  · rcases hz with z | z
    · exact absurd z h0
    · exact br_f h0 (br_t z hp)
theorem of_xyes {post : Int32 → Prop} {f2 f3 : Int32} {g rs rm : Nat → Int32} {j : Nat} (hj : j < n) (hn : n ≤ 5) (hp : post 1) : wpX_isVariableOrPlace post (nI n, f2, f3, T, g, rs, rm) (nI j) := br_f (nI_pos (by omega)) (br_f (of_nle hj (by omega)) hp)
theorem of_yno {post : Int32 → Prop} {x : Int32} (hz : x < 0 ∨ nI n ≤ x) (hp : post 1) : wpY_outside post (nI n, c, T, pr, o, q) x := by
  by_cases h0 : x < 0
  · exact br_t h0 hp
  · rcases hz with z | z
    · exact absurd z h0
    · exact br_f h0 (br_f (Int32.not_lt.mpr z) hp)
theorem of_yyes {post : Int32 → Prop} {j : Nat} (hj : j < n) (hn : n ≤ 5) (hp : post 0) : wpY_outside post (nI n, c, T, pr, o, q) (nI j) := br_f (nI_pos (by omega)) (br_t (nI_lt hj (by omega)) hp)
theorem of_rg (x : Int32) {n : Nat} (hn : n < 2 ^ 31) : (x < 0 ∨ nI n ≤ x) ∨ ∃ j, j < n ∧ x = nI j := by
  rcases pk_ix x hn with z | z | z
  · exact Or.inl (Or.inl z)
  · exact Or.inl (Or.inr z)
  · exact Or.inr z
end YS
