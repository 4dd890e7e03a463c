/-! the relation and what is owed -/
/-- one table, one present order (of n variables, each on one place); what the searches leave behind is free -/
def i_Rel (_ : Nat) (u : SX) (v : SY) : Prop := ∃ (n : Nat) (h : Nat → Nat) (c c' : Int32) (T g rs rm o q : Nat → Int32), 1 ≤ n ∧ n ≤ 5 ∧ of_Pm n h ∧ (∀ p, p < n → g p = nI (h p)) ∧ u = (nI n, nI (2 ^ n), c, T, g, rs, rm) ∧ v = (nI n, c', T, g, o, q)
theorem i_up {k : Nat} {u : SX} {v : SY} (h : i_Rel k u v) : i_Rel (k + 3) u v := h
theorem of_rel {k n : Nat} {h : Nat → Nat} {c c' : Int32} {T g rs rm o q : Nat → Int32} (h1 : 1 ≤ n) (h5 : n ≤ 5) (P : of_Pm n h) (hg : ∀ p, p < n → g p = nI (h p)) : i_Rel k (nI n, nI (2 ^ n), c, T, g, rs, rm) (nI n, c', T, g, o, q) := ⟨n, h, c, c', T, g, rs, rm, o, q, h1, h5, P, hg, rfl, rfl⟩
def of_g0 : Nat → Nat → Int32
  | 0 => fun _ => 0
  | k + 1 => upd (of_g0 k) k (nI k)
theorem of_g0_at : ∀ k p, p < k → of_g0 k p = nI p := by
  intro k
  induction k with
  | zero => intro p hp; omega
  | succ k ih =>
    intro p hp
    simp only [of_g0]
    by_cases e : p = k
    · rw [e]; exact pk_us
    · rw [pk_un e]; exact ih p (by omega)
theorem of_xi {post : SX → Prop} {T rs rm : Nat → Int32} {f1 f2 f3 : Int32} (hp : post (f1, f2, f3, T, of_g0 5, rs, rm)) : ∃ k, wX_init_64 post f1 f2 f3 k 0 T (fun _ => 0) rs rm := by
  have key : ∀ d p, p + d = 5 → wX_init_64 post f1 f2 f3 (d + 1) (nI p) T (of_g0 p) rs rm := by
    intro d
    induction d with
    | zero =>
      intro p h5
      have e : p = 5 := by omega
      subst e
      exact br_t (of_le_refl 5) hp
    | succ d ih =>
      intro p h5
      refine br_f (of_nle (b := 5) (by omega) (by decide)) ⟨vp_in_nI (by omega) (by decide), ?_⟩
      rw [nI_clamp (by omega)]
      exact nm_e (nm_r (nI_1 p) (ih (p + 1) (by omega)))
  exact ⟨6, key 5 0 (by omega)⟩
theorem of_yi {post : SY → Prop} {T o q : Nat → Int32} {f1 f2 : Int32} (hp : post (f1, f2, T, of_g0 5, o, q)) : ∃ k, wY_init_58 post f1 f2 k 0 T (fun _ => 0) o q := by
  have key : ∀ d p, p + d = 5 → wY_init_58 post f1 f2 (d + 1) (nI p) T (of_g0 p) o q := by
    intro d
    induction d with
    | zero =>
      intro p h5
      have e : p = 5 := by omega
      subst e
      exact br_t (of_le_refl 5) hp
    | succ d ih =>
      intro p h5
      refine br_f (of_nle (b := 5) (by omega) (by decide)) ⟨vp_in_nI (by omega) (by decide), ?_⟩
      rw [nI_clamp (by omega)]
      exact nm_e (nm_r (nI_1 p) (ih (p + 1) (by omega)))
  exact ⟨6, key 5 0 (by omega)⟩
theorem of_id (n : Nat) : of_Pm n (fun p => p) := ⟨fun _ hp => hp, fun _ _ _ _ e => e, fun v hv => ⟨v, hv, rfl⟩⟩
theorem of_rel0 {n : Nat} {c c' : Int32} {T rs rm o q : Nat → Int32} (h1 : 1 ≤ n) (h5 : n ≤ 5) : i_Rel 1 (nI n, nI (2 ^ n), c, T, of_g0 5, rs, rm) (nI n, c', T, of_g0 5, o, q) := of_rel h1 h5 (of_id n) (fun p hp => of_g0_at 5 p (by omega))
theorem i_vc0 (k0 : Int32) : wpX_init (fun u => wpY_init (fun v => i_Rel 1 u v) k0) k0 := by
  by_cases a1 : 1 ≤ k0
  · by_cases a5 : k0 ≤ 5
    · have h0 : ¬ k0 < 0 := by
        intro z
        rw [Int32.le_iff_toInt_le] at a1
        rw [Int32.lt_iff_toInt_lt] at z
        have e1 : (1 : Int32).toInt = 1 := by decide
        have e0 : (0 : Int32).toInt = 0 := by decide
        omega
      obtain ⟨n, hn, rfl⟩ := nI_of2 (M := 5) (n := 5) (by decide) h0 a5
      have h1 : 1 ≤ n := (nI_leI (a := 1) (by decide) (by omega)).mp a1
      refine br_t a1 (br_t a5 (nm_r (of_shl n (by omega)) (of_xi ?_)))
      exact br_t a1 (br_t a5 (of_yi (of_rel0 h1 hn)))
    · refine br_t a1 (br_f a5 (nm_r (of_shl 5 (by decide)) (of_xi ?_)))
      exact br_t a1 (br_f a5 (of_yi (of_rel0 (n := 5) (by decide) (by decide))))
  · refine br_f a1 (br_t (by decide) (nm_r (of_shl 1 (by decide)) (of_xi ?_)))
    exact br_f a1 (of_yi (of_rel0 (n := 1) (by decide) (by decide)))
theorem of_n2 {x : Int32} (h : nI 3 ≤ x) : ¬ x ≤ 2 := by
  intro z
  rw [Int32.le_iff_toInt_le] at h z
  have e3 : (nI 3).toInt = 3 := by decide
  have e2 : (2 : Int32).toInt = 2 := by decide
  omega
theorem of_xf0 {post : Int32 → Prop} {u : SX} {x : Int32} (hz : x < 0 ∨ nI 3 ≤ x) (hp : post 0) : wpX_isFunction post u x := by
  by_cases h0 : x < 0
  · exact br_t h0 hp
  · rcases hz with z | z
    · exact absurd z h0
    · exact br_f h0 (br_t z hp)
theorem of_xf1 {post : Int32 → Prop} {u : SX} {j : Nat} (hj : j < 3) (hp : post 1) : wpX_isFunction post u (nI j) := br_f (nI_pos (by omega)) (br_f (of_nle (b := 3) hj (by decide)) hp)
theorem of_yf1 {post : Int32 → Prop} {x : Int32} (hz : x < 0 ∨ nI 3 ≤ x) (hp : post 1) : wpY_badFunction post x := by
  by_cases h0 : x < 0
  · exact br_t h0 hp
  · rcases hz with z | z
    · exact absurd z h0
    · exact br_f h0 (br_f (of_n2 z) hp)
theorem of_yf0 {post : Int32 → Prop} {j : Nat} (hj : j < 3) (hp : post 0) : wpY_badFunction post (nI j) := br_f (nI_pos (by omega)) (br_t (nI_le (b := 2) (by omega) (by decide)) hp)
theorem i_vc_load {k : Nat} {u : SX} {v : SY} (I : i_Rel k u v) (hk : k + 3 ≤ 1537) (v1 : Int32) (v2 : Int32) : wpX_load (fun r u' => wpY_load (fun r' v' => r' = r ∧ i_Rel (k + 3) u' v') v v1 v2) u v1 v2 := by
  obtain ⟨n, h, c, c', T, g, rs, rm, o, q, h1, h5, P, hg, rfl, rfl⟩ := I
  unfold wpX_load wpY_load
  dsimp only
  rcases of_rg v1 (n := 3) (by decide) with z | ⟨j, hj, rfl⟩
  · refine of_xf0 z (br_t rfl ?_)
    exact of_yf1 z (br_f of_10 ⟨rfl, of_rel h1 h5 P hg⟩)
  · refine of_xf1 hj (br_f of_10 ⟨vp_in_nI hj (by decide), nm_e ?_⟩)
    exact of_yf0 hj (br_t rfl ⟨vp_in_nI hj (by decide), nm_e ⟨rfl, of_rel h1 h5 P hg⟩⟩)
theorem of_xa0 {post : Int32 → Prop} {n : Nat} {f1 f3 x : Int32} {T g rs rm : Nat → Int32} (hz : x < 0 ∨ nI (2 ^ n) ≤ x) (hp : post 0) : wpX_isAssignment post (f1, nI (2 ^ n), f3, T, g, rs, rm) x := by
  by_cases h0 : x < 0
  · exact br_t h0 hp
  · rcases hz with z | z
    · exact absurd z h0
    · exact br_f h0 (br_t z hp)
theorem of_xa1 {post : Int32 → Prop} {n j : Nat} {f1 f3 : Int32} {T g rs rm : Nat → Int32} (h5 : n ≤ 5) (hj : j < 2 ^ n) (hp : post 1) : wpX_isAssignment post (f1, nI (2 ^ n), f3, T, g, rs, rm) (nI j) := by
  have h32 := of_32 h5
  exact br_f (nI_pos (by omega)) (br_f (of_nle hj (by omega)) hp)
theorem of_ya0 {n : Nat} {A B C : Prop} {x : Int32} (h5 : n ≤ 5) (hz : x < 0 ∨ nI (2 ^ n) ≤ x) (ha : A) (hc : C) : (x < 0 → A) ∧ (¬ x < 0 → ((x < ((1 : Int32) <<< (nI n &&& 31)) → B) ∧ (¬ x < ((1 : Int32) <<< (nI n &&& 31)) → C))) := by
  by_cases h0 : x < 0
  · exact br_t h0 ha
  · rcases hz with z | z
    · exact absurd z h0
    · refine br_f h0 (br_f ?_ hc)
      rw [of_shl n (by omega)]
      exact Int32.not_lt.mpr z
theorem of_ya1 {n j : Nat} {A B C : Prop} (h5 : n ≤ 5) (hj : j < 2 ^ n) (hb : B) : (nI j < 0 → A) ∧ (¬ nI j < 0 → ((nI j < ((1 : Int32) <<< (nI n &&& 31)) → B) ∧ (¬ nI j < ((1 : Int32) <<< (nI n &&& 31)) → C))) := by
  have h32 := of_32 h5
  refine br_f (nI_pos (by omega)) (br_t ?_ hb)
  rw [of_shl n (by omega)]
  exact nI_lt hj (by omega)
theorem i_vc_flip {k : Nat} {u : SX} {v : SY} (I : i_Rel k u v) (hk : k + 3 ≤ 1537) (v1 : Int32) (v2 : Int32) : wpX_flip (fun r u' => wpY_flip (fun r' v' => r' = r ∧ i_Rel (k + 3) u' v') v v1 v2) u v1 v2 := by
  obtain ⟨n, h, c, c', T, g, rs, rm, o, q, h1, h5, P, hg, rfl, rfl⟩ := I
  have h32 := of_32 h5
  unfold wpX_flip wpY_flip
  dsimp only
  rcases of_rg v1 (n := 3) (by decide) with z | ⟨j, hj, rfl⟩
  · refine of_xf0 z (br_t rfl ?_)
    exact of_yf1 z (br_f of_10 ⟨rfl, of_rel h1 h5 P hg⟩)
  · refine of_xf1 hj (br_f of_10 ?_)
    rcases of_rg v2 (n := 2 ^ n) (by omega) with z | ⟨a, ha, rfl⟩
    · refine of_xa0 z (br_t rfl ?_)
      exact of_yf0 hj (br_t rfl (of_ya0 h5 z ⟨rfl, of_rel h1 h5 P hg⟩ ⟨rfl, of_rel h1 h5 P hg⟩))
    · refine of_xa1 h5 ha (br_f of_10 ⟨vp_in_nI hj (by decide), vp_in_nI hj (by decide), nm_e ⟨vp_in_nI hj (by decide), ?_⟩⟩)
      unfold wpX_bitOf
      dsimp only
      rw [nI_clamp (by omega : j < 2 ^ 31), of_ubit _ (by omega)]
      refine of_yf0 hj (br_t rfl (of_ya1 h5 ha ⟨vp_in_nI hj (by decide), vp_in_nI hj (by decide), nm_e ?_⟩))
      exact of_yval h5 hj ha ⟨rfl, of_rel h1 h5 P hg⟩
theorem i_vc_value {k : Nat} {u : SX} {v : SY} (I : i_Rel k u v) (hk : k + 3 ≤ 1537) (v1 : Int32) (v2 : Int32) : wpX_value (fun r => wpY_value (fun r' => r' = r ∧ i_Rel (k + 3) u v) v v1 v2) u v1 v2 := by
  have I0 : i_Rel (k + 3) u v := I
  obtain ⟨n, h, c, c', T, g, rs, rm, o, q, h1, h5, P, hg, rfl, rfl⟩ := I
  have h32 := of_32 h5
  rcases of_rg v1 (n := 3) (by decide) with z | ⟨j, hj, rfl⟩
  · unfold wpX_value wpY_value
    dsimp only
    refine of_xf0 z (br_t rfl ?_)
    exact of_yf1 z (br_f of_10 ⟨rfl, I0⟩)
  · rcases of_rg v2 (n := 2 ^ n) (by omega) with z | ⟨a, ha, rfl⟩
    · unfold wpX_value wpY_value
      dsimp only
      refine of_xf1 hj (br_f of_10 (of_xa0 z (br_t rfl ?_)))
      exact of_yf0 hj (br_t rfl (of_ya0 h5 z ⟨rfl, I0⟩ ⟨rfl, I0⟩))
    · unfold wpX_value
      dsimp only
      refine of_xf1 hj (br_f of_10 (of_xa1 h5 ha (br_f of_10 ⟨vp_in_nI hj (by decide), ?_⟩)))
      unfold wpX_bitOf
      dsimp only
      rw [nI_clamp (by omega : j < 2 ^ 31), of_ubit _ (by omega)]
      exact of_yval h5 hj ha ⟨rfl, I0⟩
def of_hs (h : Nat → Nat) (i j p : Nat) : Nat := if p = j then h i else if p = i then h j else h p
theorem of_hs_pm {n i j : Nat} {h : Nat → Nat} (P : of_Pm n h) (hi : i < n) (hj : j < n) : of_Pm n (of_hs h i j) := by
  obtain ⟨P1, P2, P3⟩ := P
  refine ⟨fun p hp => ?_, fun p p' hp hp' e => ?_, fun v hv => ?_⟩
  · unfold of_hs
    split
    · exact P1 i hi
    · split
      · exact P1 j hj
      · exact P1 p hp
  · unfold of_hs at e
    split at e <;> split at e <;> (try split at e) <;> (try split at e) <;> first | omega | (have := P2 _ _ (by assumption) (by assumption) e; omega)
  · obtain ⟨p, hp, e⟩ := P3 v hv
    by_cases e1 : p = i
    · refine ⟨j, hj, ?_⟩
      unfold of_hs
      rw [if_pos rfl, ← e1]
      exact e
    · by_cases e2 : p = j
      · refine ⟨i, hi, ?_⟩
        unfold of_hs
        rw [if_neg (by omega), if_pos rfl, ← e2]
        exact e
      · refine ⟨p, hp, ?_⟩
        unfold of_hs
        rw [if_neg e2, if_neg e1]
        exact e
theorem of_hs_at {n i j : Nat} {h : Nat → Nat} {g : Nat → Int32} (hg : ∀ p, p < n → g p = nI (h p)) (hi : i < n) (hj : j < n) : ∀ p, p < n → upd (upd g i (g j)) j (g i) p = nI (of_hs h i j p) := by
  intro p hp
  unfold of_hs
  by_cases e : p = j
  · rw [if_pos e, e, pk_us]; exact hg i hi
  · rw [if_neg e, pk_un e]
    by_cases e2 : p = i
    · rw [if_pos e2, e2, pk_us]; exact hg j hj
    · rw [if_neg e2, pk_un e2]; exact hg p hp
theorem i_vc_swap {k : Nat} {u : SX} {v : SY} (I : i_Rel k u v) (hk : k + 3 ≤ 1537) (v1 : Int32) (v2 : Int32) : wpX_swap (fun r u' => wpY_swap (fun r' v' => r' = r ∧ i_Rel (k + 3) u' v') v v1 v2) u v1 v2 := by
  obtain ⟨n, h, c, c', T, g, rs, rm, o, q, h1, h5, P, hg, rfl, rfl⟩ := I
  unfold wpX_swap wpY_swap
  dsimp only
  rcases of_rg v1 (n := n) (by omega) with z | ⟨i, hi, rfl⟩
  · refine of_xno z (br_t rfl ?_)
    exact of_yno z (br_f of_10 ⟨rfl, of_rel h1 h5 P hg⟩)
  · refine of_xyes hi h5 (br_f of_10 ?_)
    rcases of_rg v2 (n := n) (by omega) with z | ⟨j, hj, rfl⟩
    · refine of_xno z (br_t rfl ?_)
      exact of_yyes hi h5 (br_t rfl (of_yno z (br_f of_10 ⟨rfl, of_rel h1 h5 P hg⟩)))
    · rw [nI_clamp (by omega : i < 2 ^ 31), nI_clamp (by omega : j < 2 ^ 31)]
      have b1 : vp_in (nI i) 5 := vp_in_nI (by omega) (by decide)
      have b2 : vp_in (nI j) 5 := vp_in_nI (by omega) (by decide)
      refine of_xyes hj h5 (br_f of_10 ⟨b1, nm_e ⟨b2, b1, nm_e ⟨b2, nm_e ?_⟩⟩⟩)
      refine of_yyes hi h5 (br_t rfl (of_yyes hj h5 (br_t rfl ⟨b1, nm_e ⟨b2, b1, nm_e ⟨b2, nm_e ?_⟩⟩⟩)))
      exact ⟨rfl, of_rel h1 h5 (of_hs_pm P hi hj) (of_hs_at hg hi hj)⟩
theorem i_vc_at {k : Nat} {u : SX} {v : SY} (I : i_Rel k u v) (hk : k + 3 ≤ 1537) (v1 : Int32) : wpX_at (fun r => wpY_at (fun r' => r' = r ∧ i_Rel (k + 3) u v) v v1) u v1 := by
  have I0 : i_Rel (k + 3) u v := I
  obtain ⟨n, h, c, c', T, g, rs, rm, o, q, h1, h5, P, hg, rfl, rfl⟩ := I
  unfold wpX_at wpY_at
  dsimp only
  rcases of_rg v1 (n := n) (by omega) with z | ⟨i, hi, rfl⟩
  · refine of_xno z (br_t rfl ?_)
    exact of_yno z (br_f of_10 ⟨rfl, I0⟩)
  · refine of_xyes hi h5 (br_f of_10 ⟨vp_in_nI (by omega) (by decide), ?_⟩)
    exact of_yyes hi h5 (br_t rfl ⟨vp_in_nI (by omega) (by decide), rfl, I0⟩)
theorem i_vc_width {k : Nat} {u : SX} {v : SY} (I : i_Rel k u v) (hk : k + 3 ≤ 1537) (v1 : Int32) : wpX_width (fun r u' => wpY_width (fun r' v' => r' = r ∧ i_Rel (k + 3) u' v') v v1) u v1 := by
  obtain ⟨n, h, c, c', T, g, rs, rm, o, q, h1, h5, P, hg, rfl, rfl⟩ := I
  unfold wpX_width wpY_width
  dsimp only
  rcases of_rg v1 (n := n) (by omega) with z | ⟨i, hi, rfl⟩
  · refine of_xno z (br_t rfl ?_)
    exact of_yno z (br_f of_10 ⟨rfl, of_rel h1 h5 P hg⟩)
  · refine of_xyes hi h5 (br_f of_10 (of_xwidth h5 P hg hi (fun rs' c' => ?_)))
    refine of_yyes hi h5 (br_t rfl (of_ylay (fun o' ho' => ?_)))
    have ho2 : ∀ p, p < n → o' p = nI (h p) := fun p hp => (ho' p (by omega)).trans (hg p hp)
    exact of_yw h5 P hi ho2 (fun q' c' => ⟨rfl, of_rel h1 h5 P hg⟩)
theorem i_vc_size {k : Nat} {u : SX} {v : SY} (I : i_Rel k u v) (hk : k + 3 ≤ 1537) : wpX_size (fun r u' => wpY_size (fun r' v' => r' = r ∧ i_Rel (k + 3) u' v') v) u := by
  obtain ⟨n, h, c, c', T, g, rs, rm, o, q, h1, h5, P, hg, rfl, rfl⟩ := I
  unfold wpY_size
  refine of_xsize h5 P hg (fun rs' c' => ?_)
  dsimp only
  refine of_ylay (fun o' ho' => ?_)
  have ho2 : ∀ p, p < n → o' p = nI (h p) := fun p hp => (ho' p (by omega)).trans (hg p hp)
  exact of_ysize h5 P ho2 (fun q' c' => ⟨rfl, of_rel h1 h5 P hg⟩)
theorem of_free {n : Nat} (h5 : n ≤ 5) : ∀ b, b < 2 ^ n → ∀ v, v < n → (((if nI v = -1 then 1 else 0 : Int32) = if nI (of_cn b n) = -1 then 1 else 0) ↔ (fun _ _ => true : Nat → Nat → Bool) b v = true) := by
  intro b _ v hv
  have h := of_cn_le b n
  rw [if_neg (of_neg1 (by omega)), if_neg (of_neg1 (by omega))]
  exact ⟨fun _ => rfl, fun _ => rfl⟩
theorem of_pinned {n pv pp : Nat} (h5 : n ≤ 5) (hv : pv < n) (hp : pp < n) : ∀ b, b < 2 ^ n → ∀ v, v < n → (((if nI v = nI pv then 1 else 0 : Int32) = if nI (of_cn b n) = nI pp then 1 else 0) ↔ of_pin n pv pp b v = true) := by
  intro b _ v hv2
  have h := of_cn_le b n
  unfold of_pin
  rw [beq_iff_eq]
  have e1 : nI v = nI pv ↔ v = pv := nI_eq (by omega) (by omega)
  have e2 : nI (of_cn b n) = nI pp ↔ of_cn b n = pp := nI_eq (by omega) (by omega)
  by_cases a1 : v = pv
  · by_cases a2 : of_cn b n = pp
    · rw [if_pos (e1.mpr a1), if_pos (e2.mpr a2), decide_eq_true a1, decide_eq_true a2]
      simp
    · rw [if_pos (e1.mpr a1), if_neg (fun z => a2 (e2.mp z)), decide_eq_true a1, decide_eq_false a2]
      simp
  · by_cases a2 : of_cn b n = pp
    · rw [if_neg (fun z => a1 (e1.mp z)), if_pos (e2.mpr a2), decide_eq_false a1, decide_eq_true a2]
      simp
    · rw [if_neg (fun z => a1 (e1.mp z)), if_neg (fun z => a2 (e2.mp z)), decide_eq_false a1, decide_eq_false a2]
      simp
theorem of_leastF {n : Nat} {T : Nat → Int32} {r : Nat → Nat} (h1 : 1 ≤ n) (h5 : n ≤ 5) (F : of_F n (fun _ _ => true) (of_w n T) r) : of_mn (of_cost (of_w n T) 0) (fun _ => true) (of_en n n 0) 1000 = r 0 ∧ r 0 < 1000 := by
  refine of_least F h5 (fun b v => of_w_le h5 b v) (fun l hl => ?_) ?_
  · exact (of_ok_of_en n 0 l (Nat.two_pow_pos n) (by rw [of_cn_0]; omega) hl).symm
  · obtain ⟨L, a1, _, _⟩ := of_all h1 h5
    exact ⟨List.range n, by rw [a1]; exact List.mem_cons_self, rfl⟩
theorem of_leastP {n pv pp : Nat} {T : Nat → Int32} {r : Nat → Nat} (h1 : 1 ≤ n) (h5 : n ≤ 5) (hv : pv < n) (hp : pp < n) (F : of_F n (of_pin n pv pp) (of_w n T) r) : of_mn (of_cost (of_w n T) 0) (fun l => decide (l.getD pp 0 = pv)) (of_en n n 0) 1000 = r 0 ∧ r 0 < 1000 :=
  of_least F h5 (fun b v => of_w_le h5 b v) (fun _ hl => of_pinE h1 h5 hl hv hp) (of_exE h1 h5 hv hp)
theorem i_vc_least {k : Nat} {u : SX} {v : SY} (I : i_Rel k u v) (hk : k + 3 ≤ 1537) : wpX_least (fun r u' => wpY_least (fun r' v' => r' = r ∧ i_Rel (k + 3) u' v') v) u := by
  obtain ⟨n, h, c, c', T, g, rs, rm, o, q, h1, h5, P, hg, rfl, rfl⟩ := I
  unfold wpX_least wpY_least
  dsimp only
  refine of_xfill (al := fun _ _ => true) h1 h5 (of_free h5) (fun rs' c' rm' r hr F => ?_)
  dsimp only
  refine of_ylowest (p := fun _ => true) h1 h5 (Or.inl ⟨by decide, fun _ => rfl⟩) (fun o' q' c' => ?_)
  dsimp only
  rw [(of_leastF h1 h5 F).1, (hr 0 (Nat.two_pow_pos n)).1]
  exact ⟨rfl, of_rel h1 h5 P hg⟩
theorem i_vc_best {k : Nat} {u : SX} {v : SY} (I : i_Rel k u v) (hk : k + 3 ≤ 1537) (v1 : Int32) : wpX_best (fun r u' => wpY_best (fun r' v' => r' = r ∧ i_Rel (k + 3) u' v') v v1) u v1 := by
  obtain ⟨n, h, c, c', T, g, rs, rm, o, q, h1, h5, P, hg, rfl, rfl⟩ := I
  unfold wpX_best wpY_best
  dsimp only
  rcases of_rg v1 (n := n) (by omega) with z | ⟨i, hi, rfl⟩
  · refine of_xno z (br_t rfl ?_)
    exact of_yno z (br_f of_10 ⟨rfl, of_rel h1 h5 P hg⟩)
  · refine of_xyes hi h5 (br_f of_10 (of_xfill (al := fun _ _ => true) h1 h5 (of_free h5) (fun rs' c' rm' r hr F => ?_)))
    obtain ⟨e1, e2⟩ := of_leastF h1 h5 F
    obtain ⟨lf, f1, f2⟩ := of_best F (by omega)
    refine of_xbest h1 h5 hi hr (fun rs' c' => ?_)
    refine of_yyes hi h5 (br_t rfl (of_ylowest (p := fun _ => true) h1 h5 (Or.inl ⟨by decide, fun _ => rfl⟩) (fun o' q' c' => ?_)))
    rw [e1]
    refine of_ystart (fun o' ho' => ?_)
    refine of_ybest h1 h5 hi (by omega) f1 ho' (fun o' q' c' => ?_)
    rw [f2 i hi]
    exact ⟨rfl, of_rel h1 h5 P hg⟩
theorem i_vc_greatest {k : Nat} {u : SX} {v : SY} (I : i_Rel k u v) (hk : k + 3 ≤ 1537) : wpX_greatest (fun r u' => wpY_greatest (fun r' v' => r' = r ∧ i_Rel (k + 3) u' v') v) u := by
  obtain ⟨n, h, c, c', T, g, rs, rm, o, q, h1, h5, P, hg, rfl, rfl⟩ := I
  refine of_xgreat h1 h5 (fun rs' c' rm' r F => ?_)
  refine of_ygreatest h1 h5 (fun o' q' c' => ?_)
  rw [of_greatest F]
  exact ⟨rfl, of_rel h1 h5 P hg⟩
theorem i_vc_leastWith {k : Nat} {u : SX} {v : SY} (I : i_Rel k u v) (hk : k + 3 ≤ 1537) (v1 : Int32) (v2 : Int32) : wpX_leastWith (fun r u' => wpY_leastWith (fun r' v' => r' = r ∧ i_Rel (k + 3) u' v') v v1 v2) u v1 v2 := by
  obtain ⟨n, h, c, c', T, g, rs, rm, o, q, h1, h5, P, hg, rfl, rfl⟩ := I
  unfold wpX_leastWith wpY_leastWith
  dsimp only
  rcases of_rg v1 (n := n) (by omega) with z | ⟨i, hi, rfl⟩
  · refine of_xno z (br_t rfl ?_)
    exact of_yno z (br_f of_10 ⟨rfl, of_rel h1 h5 P hg⟩)
  · refine of_xyes hi h5 (br_f of_10 ?_)
    rcases of_rg v2 (n := n) (by omega) with z | ⟨j, hj, rfl⟩
    · refine of_xno z (br_t rfl ?_)
      exact of_yyes hi h5 (br_t rfl (of_yno z (br_f of_10 ⟨rfl, of_rel h1 h5 P hg⟩)))
    · refine of_xyes hj h5 (br_f of_10 (of_xfill (al := of_pin n i j) h1 h5 (of_pinned h5 hi hj) (fun rs' c' rm' r hr F => ?_)))
      refine of_yyes hi h5 (br_t rfl (of_yyes hj h5 (br_t rfl (of_ylowest (p := fun l => decide (l.getD j 0 = i)) h1 h5 (Or.inr ⟨i, j, hi, hj, rfl, rfl, fun _ => rfl⟩) (fun o' q' c' => ?_)))))
      dsimp only
      rw [(of_leastP h1 h5 hi hj F).1, (hr 0 (Nat.two_pow_pos n)).1]
      exact ⟨rfl, of_rel h1 h5 P hg⟩
