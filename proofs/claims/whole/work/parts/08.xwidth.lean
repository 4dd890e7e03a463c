/-! the component's walks up to the width -/
section XW
variable {n b v : Nat} {T g rs rm : Nat → Int32} {f1 f3 : Int32}
theorem of_xrest {post : Int32 → Prop} {t : Int32} {N a : Nat} (hN : N ≤ 32) (hb : b < 32) (ha : a < 32) (hp : post (of_kx t b N a)) : wpX_restOf post (f1, nI N, f3, T, g, rs, rm) t (nI b) (nI a) := by
  have key : ∀ d s, s + d = N → wX_restOf_6 post t (nI b) (nI a) f1 (nI N) f3 T g rs rm (d + 1) (of_mk (fun s => bt t (of_cl s b ||| a)) s) (nI s) := by
    intro d
    induction d with
    | zero =>
      intro s hs
      have e : s = N := by omega
      subst e
      exact br_t (of_le_refl s) hp
    | succ d ih =>
      intro s hs
      have h1 : (nI s &&& (nI b ^^^ (-1))) ||| nI a = nI (of_cl s b ||| a) := by rw [of_src s (by omega) b hb, of_nor]
      have hc : of_cl s b ||| a < 32 := of_or32 (Nat.lt_of_le_of_lt of_cl_le (by omega)) ha
      refine br_f (of_nle (by omega) (by omega)) (nm_r h1 (nm_r (e' := of_mk (fun s => bt t (of_cl s b ||| a)) (s + 1)) ?_ (nm_r (nI_1 s) (ih (s + 1) (by omega)))))
      rw [of_ubit t hc]
      exact of_mk_step (fun s => bt t (of_cl s b ||| a)) s (by omega)
  exact ⟨N + 1, key N 0 (by omega)⟩
theorem of_xdep {post : Int32 → Prop} {r : Int32} {N : Nat} (hN : N ≤ 32) (hv : v < 5) (h1 : of_dx N v r = true → post 1) (h0 : of_dx N v r = false → post 0) : wpX_dependsOn post (f1, nI N, f3, T, g, rs, rm) r (nI v) := by
  have key : ∀ d s, s + d = N → (∀ i, i < s → bt r i = bt r (i ^^^ 2 ^ v)) → wX_dependsOn_2 post r (nI v) f1 (nI N) f3 T g rs rm (d + 1) (nI s) := by
    intro d
    induction d with
    | zero =>
      intro s hs hi
      have e : s = N := by omega
      subst e
      refine br_t (of_le_refl s) (h0 ?_)
      cases h : of_dx s v r with
      | false => rfl
      | true =>
        rw [of_dx_t] at h
        obtain ⟨i, a1, a2⟩ := h
        exact absurd (hi i a1) a2
    | succ d ih =>
      intro s hs hi
      have e : nI s ^^^ ((1 : Int32) <<< (nI v &&& 31)) = nI (s ^^^ 2 ^ v) := by rw [of_shl v (by omega), nx_xor]
      have hx : s ^^^ 2 ^ v < 32 := of_xor32 (by omega) (of_p32 hv)
      refine br_f (of_nle (by omega) (by omega)) (nm_r e ?_)
      by_cases hb : bt r s = bt r (s ^^^ 2 ^ v)
      · refine br_t (by rw [of_ubit r (by omega), of_ubit r hx, hb]) (nm_r (nI_1 s) (ih (s + 1) (by omega) (lt_s hi hb)))
      · refine br_f (by rw [of_ubit r (by omega), of_ubit r hx, of_if]; exact hb) (h1 ?_)
        rw [of_dx_t]
        exact ⟨s, by omega, hb⟩
  exact ⟨N + 1, key N 0 (by omega) lt_0⟩
theorem of_xnote {post : SX → Prop} {f2 x : Int32} {c : Nat} (hc : c < 96) (hp : ∀ rs' c', of_ls rs' c' = of_in (of_ls rs c) (some x) → post (f1, f2, nI c', T, g, rs', rm)) : wpX_noteRest post (f1, f2, nI c, T, g, rs, rm) x := by
  have key : ∀ d i, i + d = c → (∀ j, j < i → ¬ rs j = x) → wX_noteRest_2 post x f1 f2 (nI c) T g rs rm (d + 1) (nI i) := by
    intro d
    induction d with
    | zero =>
      intro i hi hj
      have e : i = c := by omega
      subst e
      refine br_t (of_le_refl i) (br_f (of_nle (b := 96) hc (by decide)) ⟨vp_in_nI hc (by decide), nm_r (e' := upd rs i x) (by rw [nI_clamp (by omega)]) (nm_r (nI_1 i) (hp (upd rs i x) (i + 1) ?_))⟩)
      rw [of_ls_u]
      simp only [of_in]
      rw [if_neg]
      intro z
      rw [of_ls_m] at z
      obtain ⟨j, a1, a2⟩ := z
      exact hj j a1 a2
    | succ d ih =>
      intro i hi hj
      refine br_f (of_nle (by omega) (by omega)) ⟨vp_in_nI (by omega) (by decide), ?_⟩
      rw [nI_clamp (by omega)]
      by_cases h : rs i = x
      · refine br_t h (hp rs c ?_)
        simp only [of_in]
        rw [if_pos]
        rw [of_ls_m]
        exact ⟨i, by omega, h⟩
      · exact br_f h (nm_r (nI_1 i) (ih (i + 1) (by omega) (lt_s hj h)))
  exact ⟨c + 1, key c 0 (by omega) lt_0⟩
theorem of_xwi {post : Int32 → SX → Prop} {J : Int32 → Int32 → Int32 → Int32 → (Nat → Int32) → (Nat → Int32) → (Nat → Int32) → (Nat → Int32) → Prop} {f : Nat} {L0 : List Int32} (hn : n ≤ 5) (hb : b < 2 ^ n) (hv : v < n) (hf : f < 3) (hL : L0.length ≤ f * 2 ^ n) (hJ : ∀ rs' c', of_ls rs' c' = of_fi (of_KX n T b v) f L0 (2 ^ n) → J (nI (f + 1)) (nI n) (nI (2 ^ n)) (nI c') T g rs' rm) : ∀ d j, j + d = 2 ^ n → ∀ rs c, of_ls rs c = of_fi (of_KX n T b v) f L0 j → wX_widthAfter_15 post J (nI b) (nI v) (nI f) (d + 1) (nI j) (nI n) (nI (2 ^ n)) (nI c) T g rs rm := by
  have h32 := of_32 hn
  intro d
  induction d with
  | zero =>
    intro j hj rs c h
    have e : j = 2 ^ n := by omega
    subst e
    exact br_t (of_le_refl _) (nm_r (nI_1 f) (hJ rs c h))
  | succ d ih =>
    intro j hj rs c h
    have hc : c < 96 := by
      have h1 := of_fi_l (K := of_KX n T b v) (f := f) (L := L0) j
      rw [← h, of_ls_len] at h1
      have h2 : f * 2 ^ n ≤ 2 * 2 ^ n := Nat.mul_le_mul_right _ (by omega)
      omega
    refine br_f (of_nle (by omega) (by omega)) ?_
    rw [of_src j (by omega) b (by omega)]
    have h0 : nI (of_cl j b) = 0 ↔ of_cl j b = 0 := by
      have hl := of_cl_le (s := j) (b := b)
      rw [← nI_0, nI_eq (by omega) (by omega)]
    by_cases hz : of_cl j b = 0
    · refine br_t (h0.mpr hz) ⟨vp_in_nI hf (by decide), ?_⟩
      rw [nI_clamp (by omega : f < 2 ^ 31)]
      refine of_xrest h32 (by omega) (by omega) ?_
      refine of_xdep h32 (by omega) (fun hd => ?_) (fun hd => ?_)
      · refine br_f of_10 (of_xnote hc (fun rs' c' h' => ?_))
        intro y ey
        obtain rfl := ey.trans (nI_1 j)
        refine ih (j + 1) (by omega) rs' c' ?_
        rw [h', h]
        simp only [of_fi]
        have e : of_KX n T b v f j = some (of_kx (T f) b (2 ^ n) j) := by
          unfold of_KX
          rw [if_pos ⟨hz, hd⟩]
        rw [e]
      · refine br_t rfl ?_
        intro y ey
        obtain rfl := ey.trans (nI_1 j)
        refine ih (j + 1) (by omega) rs c ?_
        rw [h]
        simp only [of_fi]
        have e : of_KX n T b v f j = none := by
          unfold of_KX
          rw [if_neg (fun z => by rw [hd] at z; exact Bool.false_ne_true z.2)]
        rw [e]
        rfl
    · refine br_f (fun z => hz (h0.mp z)) ?_
      intro y ey
      obtain rfl := ey.trans (nI_1 j)
      refine ih (j + 1) (by omega) rs c ?_
      rw [h]
      simp only [of_fi]
      have e : of_KX n T b v f j = none := by
        unfold of_KX
        rw [if_neg (fun z => hz z.1)]
      rw [e]
      rfl
theorem of_xw {post : Int32 → SX → Prop} {c0 : Int32} (hn : n ≤ 5) (hb : b < 2 ^ n) (hv : v < n) (hp : ∀ rs' c', post (nI (of_w n T b v)) (nI n, nI (2 ^ n), c', T, g, rs', rm)) : wpX_widthAfter post (nI n, nI (2 ^ n), c0, T, g, rs, rm) (nI b) (nI v) := by
  have key : ∀ d f, f + d = 3 → ∀ rs c, of_ls rs c = of_fo (of_KX n T b v) (2 ^ n) f → wX_widthAfter_7 post (nI b) (nI v) (d + 1) (nI f) (nI n) (nI (2 ^ n)) (nI c) T g rs rm := by
    intro d
    induction d with
    | zero =>
      intro f hf rs c h
      have e : f = 3 := by omega
      subst e
      have e2 : c = of_w n T b v := by
        have h2 : (of_ls rs c).length = of_w n T b v := by rw [h]; rfl
        rw [of_ls_len] at h2
        exact h2
      refine br_t (of_le_refl 3) ?_
      rw [e2]
      exact hp rs _
    | succ d ih =>
      intro f hf rs c h
      refine br_f (of_nle (b := 3) (by omega) (by decide)) ⟨2 ^ n + 1, ?_⟩
      exact of_xwi hn hb hv (by omega) (of_fo_l f) (fun rs' c' h' => ih (f + 1) (by omega) rs' c' h') (2 ^ n) 0 (by omega) rs c h
  exact ⟨4, key 3 0 (by omega) rs 0 rfl⟩
end XW
