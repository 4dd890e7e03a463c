/-! the component's walks: width, size, and the recursion over sets -/
section XS
variable {n b v : Nat} {T g rs rm : Nat → Int32} {c0 : Int32}
theorem of_orN {b v : Nat} (hv : v < 32) : nI b ||| ((1 : Int32) <<< (nI v &&& 31)) = nI (b ||| 2 ^ v) := by rw [of_shl v hv, of_nor]
theorem of_xwidth {post : Int32 → SX → Prop} {h : Nat → Nat} {p : Nat} (hn : n ≤ 5) (P : of_Pm n h) (hg : ∀ p, p < n → g p = nI (h p)) (hpl : p < n) (hp : ∀ rs' c', post (nI (of_w n T (of_bs h p) (h p))) (nI n, nI (2 ^ n), c', T, g, rs', rm)) : ∃ k, wX_width_14 post (nI p) (nI n) (nI (2 ^ n)) c0 T g rs rm k 0 0 := by
  have key : ∀ d q, q + d = p → wX_width_14 post (nI p) (nI n) (nI (2 ^ n)) c0 T g rs rm (d + 1) (nI (of_bs h q)) (nI q) := by
    intro d
    induction d with
    | zero =>
      intro q hq
      have e : q = p := by omega
      subst e
      refine br_t (of_le_refl q) ⟨vp_in_nI (by omega) (by decide), ?_⟩
      rw [nI_clamp (by omega), hg q hpl]
      exact of_xw hn (of_bs_lt P q (by omega)) (P.1 q hpl) (fun rs' c' => hp rs' c')
    | succ d ih =>
      intro q hq
      have hl := P.1 q (by omega)
      refine br_f (of_nle (by omega) (by omega)) ⟨vp_in_nI (by omega) (by decide), ?_⟩
      rw [nI_clamp (by omega), hg q (by omega)]
      exact nm_r (of_orN (by omega)) (nm_r (nI_1 q) (ih (q + 1) (by omega)))
  exact ⟨p + 1, key p 0 (by omega)⟩
theorem of_xsize {post : Int32 → SX → Prop} {h : Nat → Nat} (hn : n ≤ 5) (P : of_Pm n h) (hg : ∀ p, p < n → g p = nI (h p)) (hp : ∀ rs' c', post (nI (of_sz (of_w n T) h n)) (nI n, nI (2 ^ n), c', T, g, rs', rm)) : wpX_size post (nI n, nI (2 ^ n), c0, T, g, rs, rm) := by
  have key : ∀ d q, q + d = n → ∀ rs c, wX_size_6 post (d + 1) (nI (of_sz (of_w n T) h q)) (nI (of_bs h q)) (nI q) (nI n) (nI (2 ^ n)) c T g rs rm := by
    intro d
    induction d with
    | zero =>
      intro q hq rs c
      have e : q = n := by omega
      subst e
      exact br_t (of_le_refl q) (hp rs c)
    | succ d ih =>
      intro q hq rs c
      have hl := P.1 q (by omega)
      refine br_f (of_nle (by omega) (by omega)) ⟨vp_in_nI (by omega) (by decide), ?_⟩
      have e1 : g (nI q).toNatClampNeg = nI (h q) := by rw [nI_clamp (by omega), hg q (by omega)]
      rw [e1]
      refine of_xw hn (of_bs_lt P q (by omega)) (P.1 q (by omega)) (fun rs' c' => ?_)
      dsimp only
      refine nm_r (nI_add _ _) ⟨vp_in_nI (by omega) (by decide), ?_⟩
      rw [e1]
      exact nm_r (of_orN (by omega)) (nm_r (nI_1 q) (ih (q + 1) (by omega) rs' c'))
  exact ⟨n + 1, key n 0 (by omega) rs c0⟩
theorem of_bitN {b v : Nat} (hv : v < 32) : (((nI b).toUInt32 >>> ((nI v).toUInt32 &&& Int32.toUInt32 31)).toInt32 &&& 1) = if b.testBit v = true then 1 else 0 := by
  rw [of_ubit _ hv, of_bn hv]
theorem of_xcount {post : Int32 → Prop} {f2 f3 : Int32} (hn : n ≤ 5) (hp : post (nI (of_cn b n))) : wpX_countOf post (nI n, f2, f3, T, g, rs, rm) (nI b) := by
  have key : ∀ d q, q + d = n → wX_countOf_4 post (nI b) (nI n) f2 f3 T g rs rm (d + 1) (nI (of_cn b q)) (nI q) := by
    intro d
    induction d with
    | zero =>
      intro q hq
      have e : q = n := by omega
      subst e
      exact br_t (of_le_refl q) hp
    | succ d ih =>
      intro q hq
      refine br_f (of_nle (by omega) (by omega)) (nm_r (e' := nI (of_cn b (q + 1))) ?_ (nm_r (nI_1 q) (ih (q + 1) (by omega))))
      rw [of_bitN (by omega)]
      simp only [of_cn]
      split
      · exact nI_1 _
      · exact Int32.add_zero _
  exact ⟨n + 1, key n 0 (by omega)⟩
theorem of_xsum {post : Int32 → SX → Prop} {q : Nat} (hn : n ≤ 5) (hb : b < 2 ^ n) (hv : v < n) (hq : rm (b ||| 2 ^ v) = nI q) (hp : ∀ rs' c', post (nI (of_w n T b v + q)) (nI n, nI (2 ^ n), c', T, g, rs', rm)) : wpX_sumThrough post (nI n, nI (2 ^ n), c0, T, g, rs, rm) (nI b) (nI v) := by
  have h32 := of_32 hn
  have hl := of_or_lt hb hv
  refine of_xw (c0 := c0) hn hb hv (fun rs' c' => ?_)
  dsimp only
  rw [of_orN (by omega), nI_clamp (by omega), hq, nI_add]
  exact ⟨vp_in_nI (by omega) (by decide), hp rs' c'⟩
theorem of_la_c {al : Nat → Nat → Bool} {w : Nat → Nat → Nat} {r r' : Nat → Nat} {b : Nat} : ∀ k, (∀ v, v < k → b.testBit v = false → r (b ||| 2 ^ v) = r' (b ||| 2 ^ v)) → of_la al w r b k = of_la al w r' b k := by
  intro k
  induction k with
  | zero => intro _; rfl
  | succ k ih =>
    intro h
    simp only [of_la]
    rw [ih (fun v hv => h v (by omega))]
    by_cases hb : b.testBit k = false
    · rw [h k (by omega) hb]
    · rw [if_neg (fun z => hb z.1), if_neg (fun z => hb z.1)]
theorem of_ga_c {w : Nat → Nat → Nat} {r r' : Nat → Nat} {b : Nat} : ∀ k, (∀ v, v < k → b.testBit v = false → r (b ||| 2 ^ v) = r' (b ||| 2 ^ v)) → of_ga w r b k = of_ga w r' b k := by
  intro k
  induction k with
  | zero => intro _; rfl
  | succ k ih =>
    intro h
    simp only [of_ga]
    rw [ih (fun v hv => h v (by omega))]
    by_cases hb : b.testBit k = false
    · rw [h k (by omega) hb]
    · rw [if_neg (fun z => hb z.1), if_neg (fun z => hb z.1)]
theorem of_xla43 {post : Int32 → SX → Prop} {J : Int32 → Int32 → Int32 → Int32 → Int32 → (Nat → Int32) → (Nat → Int32) → (Nat → Int32) → (Nat → Int32) → Prop} {al : Nat → Nat → Bool} {r : Nat → Nat} {x2 x4 z0 : Int32} (hn : n ≤ 5) (hb : b < 2 ^ n) (hv : v < n) (hz : z0 = x4 ↔ al b v = true) (hr : b.testBit v = false → rm (b ||| 2 ^ v) = nI (r (b ||| 2 ^ v)) ∧ r (b ||| 2 ^ v) ≤ 1000000) (hJ : ∀ rs' c', J (nI (of_la al (of_w n T) r b (v + 1))) (nI (v + 1)) (nI n) (nI (2 ^ n)) c' T g rs' rm) : wX_leastAfter_43 post J (nI b) x2 x4 (nI (of_la al (of_w n T) r b v)) (nI v) z0 (nI n) (nI (2 ^ n)) c0 T g rs rm := by
  have hla := of_la_le (al := al) (w := of_w n T) (r := r) (b := b) v
  have hw := of_w_le (T := T) hn b v
  unfold wX_leastAfter_43
  unfold wpX_bitOf
  dsimp only
  rw [of_bitN (by omega)]
  cases hb2 : b.testBit v with
  | true =>
    rw [if_pos rfl]
    refine br_f of_10 (nm_r (nI_1 v) ?_)
    have e : of_la al (of_w n T) r b (v + 1) = of_la al (of_w n T) r b v := by
      simp only [of_la]
      rw [if_neg (fun z => by rw [hb2] at z; exact Bool.noConfusion z.1)]
    rw [← e]
    exact hJ rs c0
  | false =>
    rw [if_neg Bool.false_ne_true]
    refine br_t rfl ?_
    obtain ⟨h1, h2⟩ := hr hb2
    by_cases hc : z0 = x4
    · refine br_t hc (of_xsum hn hb hv h1 (fun rs' c' => ?_))
      dsimp only
      refine pk_le (of_la al (of_w n T) r b v) (of_w n T b v + r (b ||| 2 ^ v)) (fun hl => ?_) (fun hl => ?_) rfl rfl (by omega) (by omega)
      · refine nm_r (nI_1 v) ?_
        have e : of_la al (of_w n T) r b (v + 1) = of_la al (of_w n T) r b v := by
          simp only [of_la]
          rw [if_neg (fun z => by omega)]
        rw [← e]
        exact hJ rs' c'
      · refine nm_r (nI_1 v) ?_
        have e : of_la al (of_w n T) r b (v + 1) = of_w n T b v + r (b ||| 2 ^ v) := by
          simp only [of_la]
          rw [if_pos ⟨hb2, hz.mp hc, hl⟩]
        rw [← e]
        exact hJ rs' c'
    · refine br_f hc (nm_r (nI_1 v) ?_)
      have e : of_la al (of_w n T) r b (v + 1) = of_la al (of_w n T) r b v := by
        simp only [of_la]
        rw [if_neg (fun z => hc (hz.mpr z.2.1))]
      rw [← e]
      exact hJ rs c0
theorem of_xla {post : Int32 → SX → Prop} {al : Nat → Nat → Bool} {r : Nat → Nat} {x1 x2 : Int32} (hn : n ≤ 5) (hb : b < 2 ^ n) (hal : ∀ v, v < n → (((if nI v = x1 then 1 else 0 : Int32) = if nI (of_cn b n) = x2 then 1 else 0) ↔ al b v = true)) (hr : ∀ v, v < n → b.testBit v = false → rm (b ||| 2 ^ v) = nI (r (b ||| 2 ^ v)) ∧ r (b ||| 2 ^ v) ≤ 1000000) (hp : ∀ rs' c', post (nI (of_la al (of_w n T) r b n)) (nI n, nI (2 ^ n), c', T, g, rs', rm)) : wpX_leastAfter post (nI n, nI (2 ^ n), c0, T, g, rs, rm) (nI b) x1 x2 := by
  have key : ∀ x4 : Int32, (∀ v, v < n → ((if nI v = x1 then 1 else 0 : Int32) = x4 ↔ al b v = true)) → ∀ d v, v + d = n → ∀ rs c, wX_leastAfter_23 post (nI b) x1 x4 (d + 1) (nI (of_la al (of_w n T) r b v)) (nI v) (nI n) (nI (2 ^ n)) c T g rs rm := by
    intro x4 hx d
    induction d with
    | zero =>
      intro v hv rs c
      have e : v = n := by omega
      subst e
      exact br_t (of_le_refl v) (hp rs c)
    | succ d ih =>
      intro v hv rs c
      have hv2 : v < n := by omega
      have h1 := hx v hv2
      refine br_f (of_nle (by omega) (by omega)) (br_c (fun e => ?_) (fun e => ?_))
      · rw [if_pos e] at h1
        exact of_xla43 hn hb hv2 h1 (hr v hv2) (fun rs' c' => ih (v + 1) (by omega) rs' c')
      · rw [if_neg e] at h1
        exact of_xla43 hn hb hv2 h1 (hr v hv2) (fun rs' c' => ih (v + 1) (by omega) rs' c')
  refine of_xcount hn (br_c (fun e => ?_) (fun e => ?_))
  · exact ⟨n + 1, key 1 (fun v hv => by have h := hal v hv; rw [if_pos e] at h; exact h) n 0 (by omega) rs c0⟩
  · exact ⟨n + 1, key 0 (fun v hv => by have h := hal v hv; rw [if_neg e] at h; exact h) n 0 (by omega) rs c0⟩
theorem of_m2 {n : Nat} (hn : 1 ≤ n) : nI (2 ^ n) - 2 = nI (2 ^ n - 1) + (-1) := by
  have h : 2 ≤ 2 ^ n := by
    have := Nat.pow_le_pow_right (n := 2) (by decide) hn
    omega
  obtain ⟨k, e⟩ : ∃ k, 2 ^ n = k + 2 := ⟨2 ^ n - 2, by omega⟩
  rw [e, show k + 2 - 1 = k + 1 from rfl, pk_m1]
  exact pk_sub (a := k + 2) (b := 2) (by omega)
theorem of_xfill {post : SX → Prop} {al : Nat → Nat → Bool} {x1 x2 : Int32} (hn1 : 1 ≤ n) (hn : n ≤ 5) (hal : ∀ b, b < 2 ^ n → ∀ v, v < n → (((if nI v = x1 then 1 else 0 : Int32) = if nI (of_cn b n) = x2 then 1 else 0) ↔ al b v = true)) (hp : ∀ rs' c' rm' r, (∀ b, b < 2 ^ n → rm' b = nI (r b) ∧ r b ≤ 1000000) → of_F n al (of_w n T) r → post (nI n, nI (2 ^ n), c', T, g, rs', rm')) : wpX_fillLeast post (nI n, nI (2 ^ n), c0, T, g, rs, rm) x1 x2 := by
  have h32 := of_32 hn
  have h0 := Nat.two_pow_pos n
  have key : ∀ k, k ≤ 2 ^ n - 1 → ∀ rs c rm (r : Nat → Nat), (∀ b, b < 2 ^ n → k ≤ b → rm b = nI (r b) ∧ r b ≤ 1000000) → r (2 ^ n - 1) = 0 → (∀ b, k ≤ b → b < 2 ^ n - 1 → r b = of_la al (of_w n T) r b n) → wX_fillLeast_19 post x1 x2 (k + 1) (nI k + (-1)) (nI n) (nI (2 ^ n)) c T g rs rm := by
    intro k
    induction k with
    | zero =>
      intro _ rs c rm r a1 a2 a3
      exact br_t of_m1 (hp rs c rm r (fun b hb => a1 b hb (by omega)) ⟨a2, fun b hb => a3 b (by omega) hb⟩)
    | succ k ih =>
      intro hk rs c rm r a1 a2 a3
      rw [pk_m1]
      refine br_f (nI_pos (by omega)) ?_
      refine of_xla (al := al) (r := r) hn (by omega) (hal k (by omega)) (fun v hv hb2 => a1 _ (of_or_lt (by omega) hv) (of_or_gt hb2)) (fun rs' c' => ?_)
      dsimp only
      refine ⟨vp_in_nI (by omega) (by decide), ?_⟩
      rw [nI_clamp (by omega)]
      refine nm_e ?_
      refine nm_e ?_
      have hc : ∀ b, k ≤ b → of_la al (of_w n T) (fun q => if q = k then of_la al (of_w n T) r k n else r q) b n = of_la al (of_w n T) r b n := by
        intro b hb
        apply of_la_c
        intro v hv hb2
        have := of_or_gt hb2
        show (if (b ||| 2 ^ v) = k then _ else r (b ||| 2 ^ v)) = _
        rw [if_neg (by omega)]
      refine ih (by omega) rs' c' _ (fun q => if q = k then of_la al (of_w n T) r k n else r q) ?_ ?_ ?_
      · intro b hb hkb
        show _ = nI (if b = k then _ else r b) ∧ (if b = k then _ else r b) ≤ 1000000
        by_cases e : b = k
        · rw [if_pos e, e]
          exact ⟨pk_us, of_la_le n⟩
        · rw [if_neg e, pk_un e]
          exact a1 b hb (by omega)
      · show (if 2 ^ n - 1 = k then _ else r (2 ^ n - 1)) = 0
        rw [if_neg (by omega)]
        exact a2
      · intro b hkb hb
        rw [hc b hkb]
        show (if b = k then _ else r b) = _
        by_cases e : b = k
        · rw [if_pos e, e]
        · rw [if_neg e]
          exact a3 b (by omega) hb
  have e1 : nI (2 ^ n) - 1 = nI (2 ^ n - 1) := pk_sub (a := 2 ^ n) (b := 1) (by omega)
  unfold wpX_fillLeast
  dsimp only
  rw [e1, nI_clamp (by omega)]
  refine ⟨vp_in_nI (by omega) (by decide), nm_e (nm_r (of_m2 hn1) ⟨2 ^ n - 1 + 1, ?_⟩)⟩
  refine key (2 ^ n - 1) (by omega) rs c0 _ (fun _ => 0) ?_ rfl ?_
  · intro b hb hkb
    have e : b = 2 ^ n - 1 := by omega
    rw [e]
    exact ⟨pk_us, by omega⟩
  · intro b hkb hb
    omega
theorem of_xba {post : Int32 → SX → Prop} {r : Nat → Nat} (hn1 : 1 ≤ n) (hn : n ≤ 5) (hb : b < 2 ^ n) (hr : ∀ b, b < 2 ^ n → rm b = nI (r b) ∧ r b ≤ 1000000) (hp : ∀ rs' c', post (nI (of_ba (of_w n T) r b n 0)) (nI n, nI (2 ^ n), c', T, g, rs', rm)) : wpX_bestAfter post (nI n, nI (2 ^ n), c0, T, g, rs, rm) (nI b) := by
  have h32 := of_32 hn
  have key : ∀ k, k ≤ n → ∀ f rs c, of_ba (of_w n T) r b k f = of_ba (of_w n T) r b n 0 → wX_bestAfter_9 post (nI b) (k + 1) (nI f) (nI k + (-1)) (nI n) (nI (2 ^ n)) c T g rs rm := by
    intro k
    induction k with
    | zero =>
      intro _ f rs c e
      refine br_t of_m1 ?_
      have e2 : f = of_ba (of_w n T) r b n 0 := e
      rw [e2]
      exact hp rs c
    | succ k ih =>
      intro hk f rs c e
      have hkn : k < n := by omega
      have hw := of_w_le (T := T) hn b k
      simp only [of_ba] at e
      rw [pk_m1]
      refine br_f (nI_pos (by omega)) ?_
      unfold wpX_bitOf
      dsimp only
      rw [of_bitN (by omega)]
      cases hb2 : b.testBit k with
      | true =>
        rw [if_pos rfl]
        rw [if_neg (fun z => by rw [hb2] at z; exact Bool.noConfusion z.1)] at e
        exact br_f of_10 (nm_e (ih (by omega) f rs c e))
      | false =>
        rw [if_neg Bool.false_ne_true]
        have h1 := hr _ (of_or_lt hb hkn)
        have h2 := hr b hb
        refine br_t rfl (of_xsum hn hb hkn h1.1 (fun rs' c' => ?_))
        dsimp only
        refine ⟨vp_in_nI (by omega) (by decide), ?_⟩
        rw [nI_clamp (by omega), h2.1]
        refine pk_eq (of_w n T b k + r (b ||| 2 ^ k)) (r b) (fun he => ?_) (fun he => ?_) rfl rfl (by omega) (by omega)
        · rw [if_pos ⟨hb2, he⟩] at e
          exact nm_e (ih (by omega) k rs' c' e)
        · rw [if_neg (fun z => he z.2)] at e
          exact nm_e (ih (by omega) f rs' c' e)
  have e1 : nI n - 1 = nI n + (-1) := by
    obtain ⟨m, rfl⟩ : ∃ m, n = m + 1 := ⟨n - 1, by omega⟩
    rw [pk_m1, nI_pred]
  exact nm_r e1 ⟨n + 1, key n (by omega) 0 rs c0 rfl⟩
theorem of_xbest {post : Int32 → SX → Prop} {r : Nat → Nat} {p : Nat} (hn1 : 1 ≤ n) (hn : n ≤ 5) (hpl : p < n) (hr : ∀ b, b < 2 ^ n → rm b = nI (r b) ∧ r b ≤ 1000000) (hp : ∀ rs' c', post (nI (of_ba (of_w n T) r (of_bp n (of_w n T) r p) n 0)) (nI n, nI (2 ^ n), c', T, g, rs', rm)) : ∃ k, wX_best_20 post (nI p) k 0 0 (nI n) (nI (2 ^ n)) c0 T g rs rm := by
  have key : ∀ d q, q + d = p → ∀ rs c, wX_best_20 post (nI p) (d + 1) (nI (of_bp n (of_w n T) r q)) (nI q) (nI n) (nI (2 ^ n)) c T g rs rm := by
    intro d
    induction d with
    | zero =>
      intro q hq rs c
      have e : q = p := by omega
      subst e
      exact br_t (of_le_refl q) (of_xba hn1 hn (of_bp_lt hn1 q) hr (fun rs' c' => hp rs' c'))
    | succ d ih =>
      intro q hq rs c
      have hl := of_ba_lt (w := of_w n T) (r := r) (b := of_bp n (of_w n T) r q) hn1
      refine br_f (of_nle (by omega) (by omega)) (of_xba hn1 hn (of_bp_lt hn1 q) hr (fun rs' c' => ?_))
      exact nm_r (of_orN (by omega)) (nm_r (nI_1 q) (ih (q + 1) (by omega) rs' c'))
  exact ⟨p + 1, key p 0 (by omega) rs c0⟩
theorem of_ga_le {w : Nat → Nat → Nat} {r : Nat → Nat} {b m : Nat} (h : ∀ v, b.testBit v = false → w b v + r (b ||| 2 ^ v) ≤ m) : ∀ k, of_ga w r b k ≤ m := by
  intro k
  induction k with
  | zero => exact Nat.zero_le _
  | succ k ih =>
    simp only [of_ga]
    split
    · rename_i z
      exact h k z.1
    · exact ih
theorem of_xga {post : Int32 → SX → Prop} {r : Nat → Nat} (hn : n ≤ 5) (hb : b < 2 ^ n) (hr : ∀ v, v < n → b.testBit v = false → rm (b ||| 2 ^ v) = nI (r (b ||| 2 ^ v)) ∧ r (b ||| 2 ^ v) ≤ 1000000) (hp : ∀ rs' c', post (nI (of_ga (of_w n T) r b n)) (nI n, nI (2 ^ n), c', T, g, rs', rm)) : wpX_greatestAfter post (nI n, nI (2 ^ n), c0, T, g, rs, rm) (nI b) := by
  have key : ∀ d v, v + d = n → ∀ rs c, of_ga (of_w n T) r b v ≤ 1000100 → wX_greatestAfter_4 post (nI b) (d + 1) (nI (of_ga (of_w n T) r b v)) (nI v) (nI n) (nI (2 ^ n)) c T g rs rm := by
    intro d
    induction d with
    | zero =>
      intro v hv rs c _
      have e : v = n := by omega
      subst e
      exact br_t (of_le_refl v) (hp rs c)
    | succ d ih =>
      intro v hv rs c hga
      have hv2 : v < n := by omega
      have hw := of_w_le (T := T) hn b v
      refine br_f (of_nle (by omega) (by omega)) ?_
      unfold wpX_bitOf
      dsimp only
      rw [of_bitN (by omega)]
      cases hb2 : b.testBit v with
      | true =>
        rw [if_pos rfl]
        refine br_f of_10 (nm_r (nI_1 v) ?_)
        have e : of_ga (of_w n T) r b (v + 1) = of_ga (of_w n T) r b v := by
          simp only [of_ga]
          rw [if_neg (fun z => by rw [hb2] at z; exact Bool.noConfusion z.1)]
        rw [← e]
        exact ih (v + 1) (by omega) rs c (by omega)
      | false =>
        rw [if_neg Bool.false_ne_true]
        obtain ⟨h1, h2⟩ := hr v hv2 hb2
        refine br_t rfl (of_xsum hn hb hv2 h1 (fun rs' c' => ?_))
        dsimp only
        refine pk_le (of_w n T b v + r (b ||| 2 ^ v)) (of_ga (of_w n T) r b v) (fun hl => ?_) (fun hl => ?_) rfl rfl (by omega) (by omega)
        · refine nm_r (nI_1 v) ?_
          have e : of_ga (of_w n T) r b (v + 1) = of_ga (of_w n T) r b v := by
            simp only [of_ga]
            rw [if_neg (fun z => by omega)]
          rw [← e]
          exact ih (v + 1) (by omega) rs' c' (by omega)
        · refine nm_r (nI_1 v) ?_
          have e : of_ga (of_w n T) r b (v + 1) = of_w n T b v + r (b ||| 2 ^ v) := by
            simp only [of_ga]
            rw [if_pos ⟨hb2, hl⟩]
          rw [← e]
          exact ih (v + 1) (by omega) rs' c' (by omega)
  exact ⟨n + 1, key n 0 (by omega) rs c0 (by simp only [of_ga]; omega)⟩
theorem of_xgreat {post : Int32 → SX → Prop} (hn1 : 1 ≤ n) (hn : n ≤ 5) (hp : ∀ rs' c' rm' r, of_G n (of_w n T) r → post (nI (r 0)) (nI n, nI (2 ^ n), c', T, g, rs', rm')) : wpX_greatest post (nI n, nI (2 ^ n), c0, T, g, rs, rm) := by
  have h32 := of_32 hn
  have h0 := Nat.two_pow_pos n
  have hw := of_w_le (T := T) hn
  have key : ∀ k, k ≤ 2 ^ n - 1 → ∀ rs c rm (r : Nat → Nat), (∀ b, b < 2 ^ n → k ≤ b → rm b = nI (r b) ∧ r b ≤ 96 * (2 ^ n - 1 - b)) → r (2 ^ n - 1) = 0 → (∀ b, k ≤ b → b < 2 ^ n - 1 → r b = of_ga (of_w n T) r b n) → wX_greatest_19 post (k + 1) (nI k + (-1)) (nI n) (nI (2 ^ n)) c T g rs rm := by
    intro k
    induction k with
    | zero =>
      intro _ rs c rm r a1 a2 a3
      refine br_t of_m1 ?_
      rw [(a1 0 h0 (by omega)).1]
      exact hp rs c rm r ⟨a2, fun b hb => a3 b (by omega) hb⟩
    | succ k ih =>
      intro hk rs c rm r a1 a2 a3
      rw [pk_m1]
      refine br_f (nI_pos (by omega)) ?_
      have hle : ∀ v, v < n → k.testBit v = false → of_w n T k v + r (k ||| 2 ^ v) ≤ 96 * (2 ^ n - 1 - k) := by
        intro v hv hb2
        have h1 := (a1 _ (of_or_lt (by omega : k < 2 ^ n) hv) (of_or_gt hb2)).2
        have h2 := of_or_gt hb2
        have h3 := of_or_lt (by omega : k < 2 ^ n) hv
        have h4 := hw k v
        have h5 : 96 * (2 ^ n - 1 - (k ||| 2 ^ v)) + 96 ≤ 96 * (2 ^ n - 1 - k) := by
          rw [← Nat.mul_succ]
          exact Nat.mul_le_mul_left _ (by omega)
        omega
      refine of_xga (r := r) hn (by omega) (fun v hv hb2 => ?_) (fun rs' c' => ?_)
      · have h1 := a1 _ (of_or_lt (by omega : k < 2 ^ n) hv) (of_or_gt hb2)
        exact ⟨h1.1, by omega⟩
      dsimp only
      refine ⟨vp_in_nI (by omega) (by decide), ?_⟩
      rw [nI_clamp (by omega)]
      refine nm_e ?_
      refine nm_e ?_
      have hc : ∀ b, k ≤ b → of_ga (of_w n T) (fun q => if q = k then of_ga (of_w n T) r k n else r q) b n = of_ga (of_w n T) r b n := by
        intro b hb
        apply of_ga_c
        intro v hv hb2
        have := of_or_gt hb2
        show (if (b ||| 2 ^ v) = k then _ else r (b ||| 2 ^ v)) = _
        rw [if_neg (by omega)]
      refine ih (by omega) rs' c' _ (fun q => if q = k then of_ga (of_w n T) r k n else r q) ?_ ?_ ?_
      · intro b hb hkb
        show _ = nI (if b = k then _ else r b) ∧ (if b = k then _ else r b) ≤ 96 * (2 ^ n - 1 - b)
        by_cases e : b = k
        · rw [if_pos e, e]
          refine ⟨pk_us, ?_⟩
          rcases of_ga_att (w := of_w n T) (r := r) (b := k) n with z | ⟨v, z1, z2, z3⟩
          · omega
          · have := hle v z1 z2
            omega
        · rw [if_neg e, pk_un e]
          exact a1 b hb (by omega)
      · show (if 2 ^ n - 1 = k then _ else r (2 ^ n - 1)) = 0
        rw [if_neg (by omega)]
        exact a2
      · intro b hkb hb
        rw [hc b hkb]
        show (if b = k then _ else r b) = _
        by_cases e : b = k
        · rw [if_pos e, e]
        · rw [if_neg e]
          exact a3 b (by omega) hb
  have e1 : nI (2 ^ n) - 1 = nI (2 ^ n - 1) := pk_sub (a := 2 ^ n) (b := 1) (by omega)
  unfold wpX_greatest
  dsimp only
  rw [e1, nI_clamp (by omega)]
  refine ⟨vp_in_nI (by omega) (by decide), nm_e (nm_r (of_m2 hn1) ⟨2 ^ n - 1 + 1, ?_⟩)⟩
  refine key (2 ^ n - 1) (by omega) rs c0 _ (fun _ => 0) ?_ rfl ?_
  · intro b hb hkb
    have e : b = 2 ^ n - 1 := by omega
    rw [e]
    exact ⟨pk_us, Nat.zero_le _⟩
  · intro b hkb hb
    omega
end XS
