/-! the reference's walks up to the size of an order -/
section YW
variable {n : Nat} {T pr o q : Nat → Int32} {c : Int32} {h : Nat → Nat}
theorem of_yval {post : Int32 → Prop} {f a : Nat} (hn : n ≤ 5) (hf : f < 3) (ha : a < 2 ^ n) (hp : post (if bt (T f) a = true then 1 else 0)) : wpY_value post (nI n, c, T, pr, o, q) (nI f) (nI a) := by
  have h32 := of_32 hn
  unfold wpY_value
  dsimp only
  unfold wpY_badFunction
  refine br_f (nI_pos (by omega)) (br_t (nI_le (b := 2) (by omega) (by decide)) ?_)
  refine br_t rfl (br_f (nI_pos (by omega)) (br_t ?_ ⟨vp_in_nI hf (by decide), ?_⟩))
  · rw [of_shl n (by omega)]
    exact nI_lt ha (by omega)
  · rw [nI_clamp (by omega), of_sbit _ (by omega)]
    exact hp
theorem of_ysp {post : Int32 → Prop} {f1 : Int32} (lo hi m s : Nat) (hhi : hi = lo + m) (h5 : hi ≤ 5) (ho : ∀ p, p < hi → o p = nI (h p) ∧ h p < 5) (hp : post (nI (of_sp h lo s m))) : wpY_spread post (f1, c, T, pr, o, q) (nI lo) (nI hi) (nI s) := by
  have key : ∀ d k, k + d = m → wY_spread_6 post (nI lo) (nI hi) (nI s) f1 c T pr o q (d + 1) (nI (of_sp h lo s k)) (nI (lo + k)) := by
    intro d
    induction d with
    | zero =>
      intro k hk
      have e : k = m := by omega
      subst e
      refine br_t ?_ hp
      rw [hhi]
      exact of_le_refl _
    | succ d ih =>
      intro k hk
      have hk5 := ho (lo + k) (by omega)
      refine br_f (of_nle (by omega) (by omega)) ?_
      rw [pk_sub (by omega : lo ≤ lo + k), show lo + k - lo = k by omega, of_sbit _ (by omega), of_bn (by omega)]
      cases hs : s.testBit k with
      | true =>
        rw [if_pos rfl]
        refine br_t rfl ⟨vp_in_nI (by omega) (by decide), ?_⟩
        rw [nI_clamp (by omega), hk5.1]
        refine nm_r (of_orN (by omega)) (nm_r (nI_1 (lo + k)) ?_)
        have e : of_sp h lo s (k + 1) = of_sp h lo s k ||| 2 ^ h (lo + k) := by
          simp only [of_sp]
          rw [if_pos hs]
        rw [← e]
        exact ih (k + 1) (by omega)
      | false =>
        rw [if_neg Bool.false_ne_true]
        refine br_f of_01 (nm_r (nI_1 (lo + k)) ?_)
        have e : of_sp h lo s (k + 1) = of_sp h lo s k := by
          simp only [of_sp]
          rw [if_neg (by rw [hs]; exact Bool.false_ne_true)]
        rw [← e]
        exact ih (k + 1) (by omega)
  exact ⟨m + 1, key m 0 (by omega)⟩
theorem of_ybd {p m : Nat} (hn : n ≤ 5) (hp : p + m = n) : (1 : Int32) <<< ((nI n - nI p) &&& 31) = nI (2 ^ m) := by
  rw [pk_sub (by omega), show n - p = m by omega, of_shl m (by omega)]
theorem of_yrest {post : Int32 → Prop} {p m f j : Nat} (hn : n ≤ 5) (P : of_Pm n h) (hpm : p + m = n) (ho : ∀ p, p < n → o p = nI (h p)) (hf : f < 3) (hp : post (of_ky (T f) h p m j)) : wpY_restOf post (nI n, c, T, pr, o, q) (nI f) (nI p) (nI j) := by
  have h32 := of_32 hn
  have hm32 := of_32 (n := m) (by omega)
  have ho2 : ∀ p, p < n → o p = nI (h p) ∧ h p < 5 := fun p hp => ⟨ho p hp, by have := P.1 p hp; omega⟩
  have key : ∀ d s, s + d = 2 ^ m → wY_restOf_15 post (nI f) (nI p) (nI (of_sp h 0 j p)) (nI n) c T pr o q (d + 1) (of_mk (fun s => bt (T f) (of_sp h 0 j p ||| of_sp h p s m)) s) (nI s) := by
    intro d
    induction d with
    | zero =>
      intro s hs
      have e : s = 2 ^ m := by omega
      subst e
      refine br_t ?_ hp
      rw [of_ybd hn hpm]
      exact of_le_refl _
    | succ d ih =>
      intro s hs
      have hl : of_sp h 0 j p ||| of_sp h p s m < 2 ^ n := Nat.or_lt_two_pow (of_sp_lt P (by omega)) (of_sp_lt P (by omega))
      refine br_f (by rw [of_ybd hn hpm]; exact of_nle (by omega) (by omega)) (of_ysp p n m s hpm.symm hn ho2 (nm_r (of_nor _ _) (of_yval hn hf hl ?_)))
      have hst := of_mk_step (fun s => bt (T f) (of_sp h 0 j p ||| of_sp h p s m)) s (by omega)
      cases hb : bt (T f) (of_sp h 0 j p ||| of_sp h p s m) with
      | true =>
        rw [hb, if_pos rfl] at hst
        rw [if_pos rfl]
        exact br_t rfl (nm_r hst (nm_r (nI_1 s) (ih (s + 1) (by omega))))
      | false =>
        rw [if_neg Bool.false_ne_true]
        refine br_f of_01 (nm_r (nI_1 s) ?_)
        have e : of_mk (fun s => bt (T f) (of_sp h 0 j p ||| of_sp h p s m)) (s + 1) = of_mk (fun s => bt (T f) (of_sp h 0 j p ||| of_sp h p s m)) s := by
          simp only [of_mk]
          rw [if_neg (by rw [hb]; exact Bool.false_ne_true)]
        rw [← e]
        exact ih (s + 1) (by omega)
  exact of_ysp 0 p p j (by omega) (by omega) (fun i hi => ho2 i (by omega)) ⟨2 ^ m + 1, key (2 ^ m) 0 (by omega)⟩
theorem of_ydep {post : Int32 → Prop} {r : Int32} {p m : Nat} (hn : n ≤ 5) (hpm : p + m = n) (hm : 0 < m) (h1 : of_dy (2 ^ (m - 1)) r = true → post 1) (h0 : of_dy (2 ^ (m - 1)) r = false → post 0) : wpY_depends post (nI n, c, T, pr, o, q) r (nI p) := by
  have e2 : 2 ^ m = 2 * 2 ^ (m - 1) := by
    rw [← Nat.pow_succ']
    congr 1
    omega
  have hm32 := of_32 (n := m) (by omega)
  have key : ∀ d k, k + d = 2 ^ (m - 1) → (∀ i, i < k → bt r (2 * i) = bt r (2 * i + 1)) → wY_depends_2 post r (nI p) (nI n) c T pr o q (d + 1) (nI (2 * k)) := by
    intro d
    induction d with
    | zero =>
      intro k hk hi
      have e : k = 2 ^ (m - 1) := by omega
      subst e
      refine br_t ?_ (h0 ?_)
      · rw [of_ybd hn hpm, ← e2]
        exact of_le_refl _
      · cases hd : of_dy (2 ^ (m - 1)) r with
        | false => rfl
        | true =>
          rw [of_dy_t] at hd
          obtain ⟨i, a1, a2⟩ := hd
          exact absurd (hi i a1) a2
    | succ d ih =>
      intro k hk hi
      refine br_f (by rw [of_ybd hn hpm]; exact of_nle (by omega) (by omega)) ?_
      rw [nI_1 (2 * k)]
      by_cases hb : bt r (2 * k) = bt r (2 * k + 1)
      · refine br_t (by rw [of_sbit r (by omega), of_sbit r (by omega), hb]) (nm_r (e' := nI (2 * (k + 1))) (nI_add (2 * k) 2) (ih (k + 1) (by omega) (lt_s hi hb)))
      · refine br_f (by rw [of_sbit r (by omega), of_sbit r (by omega), of_if]; exact hb) (h1 ?_)
        rw [of_dy_t]
        exact ⟨k, by omega, hb⟩
  exact ⟨2 ^ (m - 1) + 1, key (2 ^ (m - 1)) 0 (by omega) lt_0⟩
theorem of_ylist {post : Int32 → Prop} {f1 x : Int32} {k : Nat} (hk : k ≤ 48) (h1 : x ∈ of_ls q k → post 1) (h0 : ¬ x ∈ of_ls q k → post 0) : wpY_listed post (f1, nI k, T, pr, o, q) x := by
  have key : ∀ d i, i + d = k → (∀ j, j < i → ¬ q j = x) → wY_listed_2 post x f1 (nI k) T pr o q (d + 1) (nI i) := by
    intro d
    induction d with
    | zero =>
      intro i hi hj
      have e : i = k := by omega
      subst e
      refine br_t (of_le_refl i) (h0 ?_)
      intro z
      rw [of_ls_m] at z
      obtain ⟨j, a1, a2⟩ := z
      exact hj j a1 a2
    | succ d ih =>
      intro i hi hj
      refine br_f (of_nle (by omega) (by omega)) ⟨vp_in_nI (by omega) (by decide), ?_⟩
      rw [nI_clamp (by omega)]
      by_cases hx : q i = x
      · refine br_t hx (h1 ?_)
        rw [of_ls_m]
        exact ⟨i, by omega, hx⟩
      · exact br_f hx (nm_r (nI_1 i) (ih (i + 1) (by omega) (lt_s hj hx)))
  exact ⟨k + 1, key k 0 (by omega) lt_0⟩
theorem of_ywi {post : Int32 → SY → Prop} {J : Int32 → Int32 → (Nat → Int32) → (Nat → Int32) → (Nat → Int32) → (Nat → Int32) → Prop} {p m f : Nat} {L0 : List Int32} (hn : n ≤ 5) (P : of_Pm n h) (hpm : p + m = n) (hm : 0 < m) (ho : ∀ p, p < n → o p = nI (h p)) (hf : f < 3) (hL : L0.length ≤ f * 2 ^ p) (hJ : ∀ q' k, of_ls q' k = of_fi (of_KY T h p m) f L0 (2 ^ p) → J (nI (f + 1)) (nI k) T pr o q') : ∀ d j, j + d = 2 ^ p → ∀ q k, of_ls q k = of_fi (of_KY T h p m) f L0 j → wY_widthAt_14 post J (nI p) (nI f) (nI n) (d + 1) (nI j) (nI k) T pr o q := by
  have h16 : 2 ^ p ≤ 16 := Nat.pow_le_pow_right (n := 2) (by decide) (by omega : p ≤ 4)
  intro d
  induction d with
  | zero =>
    intro j hj q k hq
    have e : j = 2 ^ p := by omega
    subst e
    refine br_t ?_ (nm_r (nI_1 f) (hJ q k hq))
    rw [of_shl p (by omega)]
    exact of_le_refl _
  | succ d ih =>
    intro j hj q k hq
    have hk : k < 48 := by
      have h1 := of_fi_l (K := of_KY T h p m) (f := f) (L := L0) j
      rw [← hq, of_ls_len] at h1
      have h2 : f * 2 ^ p ≤ 2 * 2 ^ p := Nat.mul_le_mul_right _ (by omega)
      omega
    refine br_f (by rw [of_shl p (by omega)]; exact of_nle (by omega) (by omega)) (of_yrest hn P hpm ho hf (of_ydep hn hpm hm (fun hd => ?_) (fun hd => ?_)))
    · have e : of_KY T h p m f j = some (of_ky (T f) h p m j) := by
        unfold of_KY
        rw [if_pos hd]
      refine br_f of_10 (of_ylist (by omega) (fun hx => ?_) (fun hx => ?_))
      · refine br_f of_10 (nm_r (nI_1 j) (ih (j + 1) (by omega) q k ?_))
        simp only [of_fi]
        rw [e, ← hq]
        simp only [of_in]
        rw [if_pos hx]
      · refine br_t rfl (br_f (of_nle (b := 48) hk (by decide)) ⟨vp_in_nI hk (by decide), nm_r (e' := upd q k (of_ky (T f) h p m j)) (by rw [nI_clamp (by omega)]) (nm_r (nI_1 k) (nm_r (nI_1 j) (ih (j + 1) (by omega) _ (k + 1) ?_)))⟩)
        simp only [of_fi]
        rw [e, ← hq, of_ls_u]
        simp only [of_in]
        rw [if_neg hx]
    · have e : of_KY T h p m f j = none := by
        unfold of_KY
        rw [if_neg (by rw [hd]; exact Bool.false_ne_true)]
      refine br_t rfl (nm_r (nI_1 j) (ih (j + 1) (by omega) q k ?_))
      simp only [of_fi]
      rw [e, hq]
      rfl
theorem of_yw {post : Int32 → SY → Prop} {p : Nat} (hn : n ≤ 5) (P : of_Pm n h) (hpn : p < n) (ho : ∀ p, p < n → o p = nI (h p)) (hp : ∀ q' c', post (nI (of_w n T (of_bs h p) (h p))) (nI n, c', T, pr, o, q')) : wpY_widthAt post (nI n, c, T, pr, o, q) (nI p) := by
  have hpm : p + (n - p) = n := by omega
  have hm : 0 < n - p := by omega
  have key : ∀ d f, f + d = 3 → ∀ q k, of_ls q k = of_fo (of_KY T h p (n - p)) (2 ^ p) f → wY_widthAt_7 post (nI p) (nI n) (d + 1) (nI f) (nI k) T pr o q := by
    intro d
    induction d with
    | zero =>
      intro f hf q k hq
      have e : f = 3 := by omega
      subst e
      have e2 : k = of_w n T (of_bs h p) (h p) := by
        have h2 : (of_ls q k).length = (of_yl T h p (n - p)).length := by rw [hq]; rfl
        rw [of_ls_len, of_width hn P hpm hm] at h2
        exact h2
      refine br_t (of_le_refl 3) ?_
      rw [e2]
      exact hp q _
    | succ d ih =>
      intro f hf q k hq
      refine br_f (of_nle (b := 3) (by omega) (by decide)) ⟨2 ^ p + 1, ?_⟩
      exact of_ywi hn P hpm hm ho (by omega) (of_fo_l f) (fun q' k' h' => ih (f + 1) (by omega) q' k' h') (2 ^ p) 0 (by omega) q k hq
  exact ⟨4, key 3 0 (by omega) q 0 rfl⟩
theorem of_ysize {post : Int32 → SY → Prop} (hn : n ≤ 5) (P : of_Pm n h) (ho : ∀ p, p < n → o p = nI (h p)) (hp : ∀ q' c', post (nI (of_sz (of_w n T) h n)) (nI n, c', T, pr, o, q')) : wpY_sizeOfOrder post (nI n, c, T, pr, o, q) := by
  have key : ∀ d k, k + d = n → ∀ q c, wY_sizeOfOrder_4 post (d + 1) (nI (of_sz (of_w n T) h k)) (nI k) (nI n) c T pr o q := by
    intro d
    induction d with
    | zero =>
      intro k hk q c
      have e : k = n := by omega
      subst e
      exact br_t (of_le_refl k) (hp q c)
    | succ d ih =>
      intro k hk q c
      refine br_f (of_nle (by omega) (by omega)) (of_yw hn P (by omega) ho (fun q' c' => ?_))
      exact nm_r (nI_add _ _) (nm_r (nI_1 k) (ih (k + 1) (by omega) q' c'))
  exact ⟨n + 1, key n 0 (by omega) q c⟩
theorem of_ylay {post : SY → Prop} {f1 : Int32} (hp : ∀ o', (∀ p, p < 5 → o' p = pr p) → post (f1, c, T, pr, o', q)) : wpY_layPresent post (f1, c, T, pr, o, q) := by
  have key : ∀ d p, p + d = 5 → ∀ o, (∀ i, i < p → o i = pr i) → wY_layPresent_2 post f1 c (d + 1) (nI p) T pr o q := by
    intro d
    induction d with
    | zero =>
      intro p h5 o hi
      have e : p = 5 := by omega
      subst e
      exact br_t (of_le_refl 5) (hp o hi)
    | succ d ih =>
      intro p h5 o hi
      refine br_f (of_nle (b := 5) (by omega) (by decide)) ⟨vp_in_nI (by omega) (by decide), vp_in_nI (by omega) (by decide), ?_⟩
      rw [nI_clamp (by omega)]
      refine nm_e (nm_r (nI_1 p) (ih (p + 1) (by omega) _ ?_))
      intro i hlt
      by_cases e : i = p
      · rw [e]; exact pk_us
      · rw [pk_un e]; exact hi i (by omega)
  exact ⟨6, key 5 0 (by omega) o lt_0⟩
theorem of_ystart {post : SY → Prop} {f1 : Int32} (hp : ∀ o', (∀ p, p < 5 → o' p = nI p) → post (f1, c, T, pr, o', q)) : wpY_start post (f1, c, T, pr, o, q) := by
  have key : ∀ d p, p + d = 5 → ∀ o, (∀ i, i < p → o i = nI i) → wY_start_2 post f1 c (d + 1) (nI p) T pr o q := by
    intro d
    induction d with
    | zero =>
      intro p h5 o hi
      have e : p = 5 := by omega
      subst e
      exact br_t (of_le_refl 5) (hp o hi)
    | succ d ih =>
      intro p h5 o hi
      refine br_f (of_nle (b := 5) (by omega) (by decide)) ⟨vp_in_nI (by omega) (by decide), ?_⟩
      rw [nI_clamp (by omega)]
      refine nm_e (nm_r (nI_1 p) (ih (p + 1) (by omega) _ ?_))
      intro i hlt
      by_cases e : i = p
      · rw [e]; exact pk_us
      · rw [pk_un e]; exact hi i (by omega)
  exact ⟨6, key 5 0 (by omega) o lt_0⟩
end YW
