theorem td_7 (a b : Nat) : nI a * 7 + nI b = nI (a * 7 + b) := by
  show nI a * nI 7 + nI b = _
  rw [pk_mul, nI_add]
theorem td_m1 {n : Nat} (h : 1 ≤ n) : nI n - 1 = nI (n - 1) := pk_sub (b := 1) h
/-! the component's small methods -/
theorem xs_slot {post : Int32 → Prop} {a b : Nat} (ha : a < 7) (hb : b < 7) (h : post (nI (td_s a b))) : wpX_slotOf post (nI a) (nI b) := by
  unfold wpX_slotOf
  rw [td_7, td_7]
  refine pk_le b a (fun h1 => ?_) (fun h1 => ?_)
  · rw [td_s, if_neg (by omega)] at h; exact h
  · rw [td_s, if_pos h1] at h; exact h
section
variable {n : Nat} {q b : Int64} {la ta fa : Nat → Int32}
theorem xs_city1 {post : Int32 → Prop} {a : Nat} (h7 : n ≤ 7) (ha : a < n) (h : post 1) : wpX_isCity post (nI n, q, b, la, ta, fa) (nI a) :=
  br_f (nI_pos (by omega)) (br_f (nI_ge ha (by omega)) h)
theorem xs_city0 {post : Int32 → Prop} {x : Int32} (h7 : n ≤ 7) (hx : ¬ ∃ a, a < n ∧ x = nI a) (h : post 0) : wpX_isCity post (nI n, q, b, la, ta, fa) x := by
  rcases pk_ix x (n := n) (by omega) with h1 | h1 | h1
  · exact br_t h1 h
  · by_cases h0 : x < 0
    · exact br_t h0 h
    · exact br_f h0 (br_t h1 h)
  · exact absurd h1 hx
theorem xs_link1 {post : Int32 → Prop} {x y : Nat} (h7 : n ≤ 7) (hx : x < n) (hy : y < n) (hd : x ≠ y) (h : post 1) : wpX_isLink post (nI n, q, b, la, ta, fa) (nI x) (nI y) := by
  have hne : ¬ nI x = nI y := by rw [nI_eq (by omega) (by omega)]; exact hd
  exact br_f hne (xs_city1 h7 hx (br_f (by decide) (xs_city1 h7 hy (br_f (by decide) h))))
theorem xs_link0 {post : Int32 → Prop} {x y : Int32} (h7 : n ≤ 7) (hx : ¬ ∃ a c, a < n ∧ c < n ∧ a ≠ c ∧ x = nI a ∧ y = nI c) (h : post 0) : wpX_isLink post (nI n, q, b, la, ta, fa) x y := by
  by_cases e : x = y
  · exact br_t e h
  · refine br_f e ?_
    by_cases h1 : ∃ a, a < n ∧ x = nI a
    · obtain ⟨a, ha, rfl⟩ := h1
      refine xs_city1 h7 ha (br_f (by decide) ?_)
      refine xs_city0 h7 (fun ⟨c, hc, e2⟩ => hx ⟨a, c, ha, hc, ?_, rfl, e2⟩) (br_t rfl h)
      intro e3; exact e (by rw [e2, e3])
    · exact xs_city0 h7 h1 (br_t rfl h)
theorem xs_len1 {post : Int32 → Prop} {d : Nat} (hd : d ≤ 99) (h : post 1) : wpX_isLength post (nI d) :=
  br_f (nI_pos (by omega)) (br_f (nI_nlt (b := d) (a := 99) hd (by decide)) h)
theorem xs_len0 {post : Int32 → Prop} {x : Int32} (hx : ¬ ∃ d, d ≤ 99 ∧ x = nI d) (h : post 0) : wpX_isLength post x := by
  by_cases h0 : x < 0
  · exact br_t h0 h
  · refine br_f h0 (br_c (fun _ => h) (fun h1 => ?_))
    obtain ⟨j, hj, rfl⟩ := nI_of h0
    refine absurd ⟨j, ?_, rfl⟩ hx
    have h2 : ¬ nI 99 < nI j := h1
    rw [nI_ltI (by decide) hj] at h2
    omega
/-! the tour's cost and links -/
theorem xs_cost_l {f D : Nat → Nat} {post : Int32 → Prop} (h7 : n ≤ 7) (hf : ∀ k, k < n → f k < 7) (hT : ∀ k, k < n → ta k = nI (f k)) (hD : ∀ k, k < n → la (td_s (td_xf f n k) (f k)) = nI (D (td_s (td_xf f n k) (f k))))
    (h : post (nI (td_sm (fun k => D (td_s (td_xf f n k) (f k))) n))) : ∀ d i, i + d = n → wX_tourCost_16 post (nI n) q b la ta fa (d + 1) (nI (td_sm (fun k => D (td_s (td_xf f n k) (f k))) i)) (nI (td_xf f n i)) (nI i) := by
  intro d
  induction d with
  | zero =>
    intro i hi
    have e : i = n := by omega
    subst e
    exact br_t (Int32.le_refl _) h
  | succ d ih =>
    intro i hi
    have hx : td_xf f n i < 7 := by
      cases i with
      | zero => exact hf _ (by omega)
      | succ i => exact hf _ (by omega)
    have hs := td_slt hx (hf i (by omega))
    refine br_f (nI_ge (by omega) (by omega)) ⟨vp_in_nI (by omega) (by omega), nm_r (e' := nI (f i)) (by rw [nI_clamp (by omega), hT i (by omega)]) ?_⟩
    refine xs_slot hx (hf i (by omega)) ⟨vp_in_nI hs (by omega), nm_r (e' := nI (td_sm (fun k => D (td_s (td_xf f n k) (f k))) (i + 1))) ?_ (nm_r (nI_1 i) (ih (i + 1) (by omega)))⟩
    rw [nI_clamp (by omega), hD i (by omega), nI_add]
    rfl
theorem xs_cost {f D : Nat → Nat} {post : Int32 → Prop} (h3 : 3 ≤ n) (h7 : n ≤ 7) (hf : ∀ k, k < n → f k < 7) (hT : ∀ k, k < n → ta k = nI (f k)) (hD : ∀ k, k < n → la (td_s (td_xf f n k) (f k)) = nI (D (td_s (td_xf f n k) (f k))))
    (h : post (nI (td_sm (fun k => D (td_s (td_xf f n k) (f k))) n))) : wpX_tourCost post (nI n, q, b, la, ta, fa) := by
  unfold wpX_tourCost
  dsimp only
  rw [td_m1 (by omega)]
  refine ⟨vp_in_nI (by omega) (by omega), nm_r (e' := nI (f (n - 1))) (by rw [nI_clamp (by omega), hT _ (by omega)]) ⟨n + 1, ?_⟩⟩
  exact xs_cost_l h7 hf hT hD h n 0 (by omega)
theorem xs_links_l {f : Nat → Nat} {post : Int64 → Prop} (h7 : n ≤ 7) (hf : ∀ k, k < n → f k < 7) (hT : ∀ k, k < n → ta k = nI (f k))
    (h : ∀ L, (∀ s, s < 64 → lb_t L s = td_lx (fun k => td_s (td_xf f n k) (f k)) n s) → post L) : ∀ d i L, i + d = n → (∀ s, s < 64 → lb_t L s = td_lx (fun k => td_s (td_xf f n k) (f k)) i s) → wX_tourLinks_17 post (nI n) q b la ta fa (d + 1) L (nI (td_xf f n i)) (nI i) := by
  intro d
  induction d with
  | zero =>
    intro i L hi hL
    have e : i = n := by omega
    subst e
    exact br_t (Int32.le_refl _) (h L hL)
  | succ d ih =>
    intro i L hi hL
    have hx : td_xf f n i < 7 := by
      cases i with
      | zero => exact hf _ (by omega)
      | succ i => exact hf _ (by omega)
    have hs := td_slt hx (hf i (by omega))
    refine br_f (nI_ge (by omega) (by omega)) ⟨vp_in_nI (by omega) (by omega), nm_r (e' := nI (f i)) (by rw [nI_clamp (by omega), hT i (by omega)]) ?_⟩
    refine xs_slot hx (hf i (by omega)) (nm_e (nm_r (nI_1 i) (ih (i + 1) _ (by omega) fun s hs2 => ?_)))
    rw [lb_or, lb_sh (by omega) hs2, hL s hs2, td_lx]
theorem xs_links {f : Nat → Nat} {post : Int64 → Prop} (h3 : 3 ≤ n) (h7 : n ≤ 7) (hf : ∀ k, k < n → f k < 7) (hT : ∀ k, k < n → ta k = nI (f k))
    (h : ∀ L, (∀ s, s < 64 → lb_t L s = td_lx (fun k => td_s (td_xf f n k) (f k)) n s) → post L) : wpX_tourLinks post (nI n, q, b, la, ta, fa) := by
  unfold wpX_tourLinks
  dsimp only
  rw [td_m1 (by omega)]
  refine ⟨vp_in_nI (by omega) (by omega), nm_r (e' := nI (f (n - 1))) (by rw [nI_clamp (by omega), hT _ (by omega)]) ⟨n + 1, ?_⟩⟩
  exact xs_links_l h7 hf hT h n 0 0 (by omega) (fun s _ => by rw [lb_0, td_lx])
/-! start and keep -/
theorem xs_start {post : SX → Prop} (h7 : n ≤ 7) (h : ∀ ta', (∀ k, k < n → ta' k = nI k) → post (nI n, q, b, la, ta', fa)) : wpX_startTours post (nI n, q, b, la, ta, fa) := by
  have key : ∀ d i (ta : Nat → Int32), i + d = n → (∀ k, k < i → ta k = nI k) → wX_startTours_2 post (nI n) q b (d + 1) (nI i) la ta fa := by
    intro d
    induction d with
    | zero =>
      intro i ta hi hk
      have e : i = n := by omega
      subst e
      exact br_t (Int32.le_refl _) (h ta hk)
    | succ d ih =>
      intro i ta hi hk
      refine br_f (nI_ge (by omega) (by omega)) ⟨vp_in_nI (by omega) (by omega), nm_e (nm_r (nI_1 i) (ih (i + 1) _ (by omega) fun k hk2 => ?_))⟩
      rw [nI_clamp (by omega)]
      by_cases e : k = i
      · rw [e, pk_us]
      · rw [pk_un e, hk k (by omega)]
  exact ⟨n + 1, key n 0 ta (by omega) (fun k hk => absurd hk (Nat.not_lt_zero k))⟩
theorem xs_keep {post : SX → Prop} (h7 : n ≤ 7) (h : ∀ fa', (∀ k, k < n → fa' k = ta k) → post (nI n, q, b, la, ta, fa')) : wpX_keepTour post (nI n, q, b, la, ta, fa) := by
  have key : ∀ d i (fa : Nat → Int32), i + d = n → (∀ k, k < i → fa k = ta k) → wX_keepTour_2 post (nI n) q b (d + 1) (nI i) la ta fa := by
    intro d
    induction d with
    | zero =>
      intro i fa hi hk
      have e : i = n := by omega
      subst e
      exact br_t (Int32.le_refl _) (h fa hk)
    | succ d ih =>
      intro i fa hi hk
      refine br_f (nI_ge (by omega) (by omega)) ⟨vp_in_nI (by omega) (by omega), vp_in_nI (by omega) (by omega), nm_e (nm_r (nI_1 i) (ih (i + 1) _ (by omega) fun k hk2 => ?_))⟩
      rw [nI_clamp (by omega)]
      by_cases e : k = i
      · rw [e, pk_us]
      · rw [pk_un e, hk k (by omega)]
  exact ⟨n + 1, key n 0 fa (by omega) (fun k hk => absurd hk (Nat.not_lt_zero k))⟩
/-! the next tour -/
theorem xs_swap {f : Nat → Nat} {post : SX → Prop} {i j : Nat} (h7 : n ≤ 7) (hi : i < n) (hj : j < n) (hT : ∀ k, k < n → ta k = nI (f k)) (h : ∀ ta', (∀ k, k < n → ta' k = nI (td_sw f i j k)) → post (nI n, q, b, la, ta', fa)) : wpX_swapPlaces post (nI n, q, b, la, ta, fa) (nI i) (nI j) := by
  refine ⟨vp_in_nI (by omega) (by omega), nm_e ⟨vp_in_nI (by omega) (by omega), vp_in_nI (by omega) (by omega), nm_e ⟨vp_in_nI (by omega) (by omega), nm_e (h _ fun k hk => ?_)⟩⟩⟩
  rw [nI_clamp (by omega), nI_clamp (by omega), td_sw]
  by_cases e1 : k = j
  · rw [e1, pk_us, if_pos rfl, hT i hi]
  · rw [pk_un e1, if_neg e1]
    by_cases e2 : k = i
    · rw [e2, pk_us, if_pos rfl, hT j hj]
    · rw [pk_un e2, if_neg e2, hT k hk]
theorem xs_rev {f : Nat → Nat} {post : Int32 → SX → Prop} {r w : Nat} (h7 : n ≤ 7) (hr : r + 1 < n) (hw : w = (n - 1 - r) / 2)
    (h : ∀ ta', (∀ k, k < n → ta' k = nI (td_rv n f r w k)) → post 1 (nI n, q, b, la, ta', fa)) : ∀ d i (ta : Nat → Int32), i + d = w → (∀ k, k < n → ta k = nI (td_rv n f r i k)) → wX_nextTour_104 post (nI r) (nI w) (d + 1) (nI i) (nI n) q b la ta fa := by
  intro d
  induction d with
  | zero =>
    intro i ta hi hk
    have e : i = w := by omega
    subst e
    exact br_t (Int32.le_refl _) (h ta hk)
  | succ d ih =>
    intro i ta hi hk
    refine br_f (nI_ge (by omega) (by omega)) ?_
    rw [nI_1 r, nI_add (r + 1) i, td_m1 (by omega), pk_sub (by omega)]
    exact xs_swap h7 (by omega) (by omega) hk fun ta' hT' => nm_r (nI_1 i) (ih (i + 1) ta' (by omega) hT')
theorem td_rsl (f : Nat → Nat) : ∀ i, 1 ≤ i → td_rs f i < i := by
  intro i
  induction i with
  | zero => intro h; omega
  | succ i ih =>
    intro _
    rw [td_rs]
    split
    · omega
    · split
      · have := ih (by omega); omega
      · omega
theorem td_hgl (f : Nat → Nat) (r : Nat) : ∀ j, r < td_hg f r j ∧ (td_hg f r j ≤ r + j ∨ td_hg f r j = r + 1) := by
  intro j
  induction j with
  | zero => rw [td_hg]; omega
  | succ j ih =>
    rw [td_hg]
    split
    · omega
    · omega
theorem xs_high {f : Nat → Nat} {post : Int32 → SX → Prop} {r : Nat} (h7 : n ≤ 7) (hr : r + 1 < n) (hf : ∀ k, k < n → f k < 7) (hT : ∀ k, k < n → ta k = nI (f k))
    (h : ∀ ta', (∀ k, k < n → ta' k = nI (td_rv n (td_sw f r (td_hg f r (n - 1 - r))) r ((n - 1 - r) / 2) k)) → post 1 (nI n, q, b, la, ta', fa)) : ∀ d j, r + 1 + j + d = n → wX_nextTour_53 post (nI r) (nI n) q b la ta fa (d + 1) (nI (td_hg f r j)) (nI (r + 1 + j)) := by
  intro d
  induction d with
  | zero =>
    intro j hj
    have e : j = n - 1 - r := by omega
    subst e
    have hh := td_hgl f r (n - 1 - r)
    refine br_t (by rw [show r + 1 + (n - 1 - r) = n by omega]; exact Int32.le_refl _) (xs_swap h7 (by omega) (by omega) hT fun ta' hT' => ⟨by decide, ?_⟩)
    refine nm_r (e' := nI ((n - 1 - r) / 2)) ?_ ⟨(n - 1 - r) / 2 + 1, xs_rev h7 hr rfl h _ 0 ta' (by omega) hT'⟩
    rw [td_m1 (by omega), pk_sub (by omega)]
    exact pk_div (d := 2) (by omega) (by decide) (by decide)
  | succ d ih =>
    intro j hj
    refine br_f (nI_ge (by omega) (by omega)) ⟨vp_in_nI (by omega) (by omega), vp_in_nI (by omega) (by omega), ?_⟩
    rw [nI_clamp (by omega), nI_clamp (by omega), hT _ (by omega), hT r (by omega)]
    have h1 := hf r (by omega)
    have h2 := hf (r + 1 + j) (by omega)
    refine pk_le _ _ (fun h3 => nm_r (nI_1 _) ?_) (fun h3 => nm_r (nI_1 _) ?_)
    · have := ih (j + 1) (by omega)
      rw [td_hg, if_pos h3] at this
      exact this
    · have := ih (j + 1) (by omega)
      rw [td_hg, if_neg (by omega)] at this
      exact this
theorem xs_rise {f : Nat → Nat} {post : Int32 → SX → Prop} (h3 : 3 ≤ n) (h7 : n ≤ 7) (hf : ∀ k, k < n → f k < 7) (hT : ∀ k, k < n → ta k = nI (f k))
    (h0 : td_rs f (n - 1) = 0 → post 0 (nI n, q, b, la, ta, fa))
    (h : 0 < td_rs f (n - 1) → ∀ ta', (∀ k, k < n → ta' k = nI (td_nx n f k)) → post 1 (nI n, q, b, la, ta', fa)) : ∀ d i, 1 ≤ i → i + d = n - 1 → wX_nextTour_4 post (nI n) q b la ta fa (d + 1) (nI (td_rs f i)) (nI i) := by
  intro d
  induction d with
  | zero =>
    intro i h1 hi
    have e : i = n - 1 := by omega
    subst e
    have hl := td_rsl f (n - 1) h1
    refine br_t (by rw [td_m1 (by omega)]; exact Int32.le_refl _) (pk_eq (td_rs f (n - 1)) 0 h0 fun hp => ?_)
    refine nm_r (nI_1 _) (nm_r (nI_1 _) ⟨n - (td_rs f (n - 1) + 1) + 1, ?_⟩)
    have := xs_high (q := q) (b := b) (la := la) (fa := fa) (post := post) h7 (by omega) hf hT (h (by omega)) (n - (td_rs f (n - 1) + 1)) 0 (by omega)
    exact this
  | succ d ih =>
    intro i h1 hi
    refine br_f (by rw [td_m1 (by omega)]; exact nI_ge (by omega) (by omega)) ⟨vp_in_nI (by omega) (by omega), ?_⟩
    rw [nI_1 i]
    refine ⟨vp_in_nI (by omega) (by omega), ?_⟩
    rw [nI_clamp (by omega), nI_clamp (by omega), hT _ (by omega), hT i (by omega)]
    have h2 := hf i (by omega)
    have h4 := hf (i + 1) (by omega)
    have := ih (i + 1) (by omega) (by omega)
    rw [td_rs, if_neg (by omega)] at this
    refine pk_le _ _ (fun h3 => nm_e ?_) (fun h3 => nm_e ?_)
    · rw [if_pos h3] at this
      exact this
    · rw [if_neg (by omega)] at this
      exact this
theorem xs_next {f : Nat → Nat} {post : Int32 → SX → Prop} (h3 : 3 ≤ n) (h7 : n ≤ 7) (hf : ∀ k, k < n → f k < 7) (hT : ∀ k, k < n → ta k = nI (f k))
    (h0 : td_rs f (n - 1) = 0 → post 0 (nI n, q, b, la, ta, fa))
    (h : 0 < td_rs f (n - 1) → ∀ ta', (∀ k, k < n → ta' k = nI (td_nx n f k)) → post 1 (nI n, q, b, la, ta', fa)) : wpX_nextTour post (nI n, q, b, la, ta, fa) :=
  ⟨n - 1 - 1 + 1, xs_rise h3 h7 hf hT h0 h (n - 1 - 1) 1 (Nat.le_refl 1) (by omega)⟩
end
