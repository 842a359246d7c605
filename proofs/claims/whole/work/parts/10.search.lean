theorem rl_sub {L nd : Int64} : L &&& nd = nd ↔ ∀ s, s < 64 → lb_t nd s = true → lb_t L s = true := by
  rw [lb_eq]
  constructor
  · intro h s hs e
    have := h s hs
    rw [lb_and, e, Bool.and_true] at this
    exact this
  · intro h s hs
    rw [lb_and]
    cases e : lb_t nd s with
    | false => rw [Bool.and_false]
    | true => rw [Bool.and_true]; exact h s hs e
theorem rl_dsj {L fb : Int64} : L &&& fb = 0 ↔ ∀ s, s < 64 → lb_t L s = true → lb_t fb s = false := by
  rw [lb_eq]
  constructor
  · intro h s hs e
    have := h s hs
    rw [lb_and, e, Bool.true_and, lb_0] at this
    exact this
  · intro h s hs
    rw [lb_and, lb_0]
    cases e : lb_t L s with
    | false => rw [Bool.false_and]
    | true => rw [Bool.true_and]; exact h s hs e
def td_pw (n : Nat) (R : Nat → Nat) (s t : Nat) : Bool := td_ok n R t && td_lk n t s
def td_po (n : Nat) (R : Nat → Nat) (s t : Nat) : Bool := td_ok n R t && !td_lk n t s
section
variable {n : Nat} {q b : Int64} {la ta fa far law lst : Nat → Int32} {R D : Nat → Nat}
theorem rl_hP (h : td_W n q b la far law R D) {t : Nat} (ht : t < td_N n) {L : Int64} (hL : ∀ s, s < 64 → lb_t L s = td_lk n t s) : td_ok n R t = true ↔ (L &&& q = q ∧ L &&& b = 0) := by
  obtain ⟨h3, h7, _, _, _, hV, hQ, hB⟩ := h
  rw [td_oki h3 h7 ht hV, rl_sub, rl_dsj]
  constructor
  · intro ⟨h1, h2⟩
    refine ⟨fun s hs e => ?_, fun s hs e => ?_⟩
    · rw [hQ s hs, decide_eq_true_eq] at e
      rw [hL s hs]; exact h1 s hs e
    · rw [hL s hs] at e
      rw [hB s hs, decide_eq_false (h2 s hs e)]
  · intro ⟨h1, h2⟩
    refine ⟨fun s hs e => ?_, fun s hs e => ?_⟩
    · rw [← hL s hs]; exact h1 s hs (by rw [hQ s hs, decide_eq_true e])
    · have := h2 s hs (by rw [hL s hs]; exact e)
      rw [hB s hs, decide_eq_false_iff_not] at this
      exact this
theorem xm_least {post : Int32 → SX → Prop} (h : td_W n q b la far law R D)
    (hp : ∀ ta' fa', (td_mn (td_ok n R) (td_co n D) (td_N n) ≠ 0 → ∀ k, k < n → fa' k = nI (td_T n (td_ar (td_ok n R) (td_co n D) (td_N n)) k)) → post (td_md (td_mn (td_ok n R) (td_co n D) (td_N n))) (nI n, q, b, la, ta', fa')) : wpX_leastCost post (nI n, q, b, la, ta, fa) q b :=
  xs_least h.1 h.2.1 h.2.2.1 (fun _ ht _ hL => rl_hP h ht hL) hp
theorem xm_with {post : Int32 → SX → Prop} {a c : Nat} (h : td_W n q b la far law R D) (ha : a < n) (hc : c < n)
    (hp : ∀ ta' fa', post (td_md (td_mn (td_pw n R (td_s a c)) (td_co n D) (td_N n))) (nI n, q, b, la, ta', fa')) : wpX_leastCostWith post (nI n, q, b, la, ta, fa) (nI a) (nI c) := by
  have h7 := h.2.1
  have hs : td_s a c < 49 := td_slt (by omega) (by omega)
  unfold wpX_leastCostWith
  dsimp only
  refine xs_slot (by omega) (by omega) ?_
  refine nm_e ?_
  refine xs_least (P := td_pw n R (td_s a c)) (D := D) h.1 h7 h.2.2.1 (fun t ht L hL => ?_) (fun ta' fa' _ => hp ta' fa')
  rw [td_pw, Bool.and_eq_true, rl_hP h ht hL, rl_sub, rl_sub]
  constructor
  · intro ⟨⟨h1, h2⟩, h3⟩
    refine ⟨fun s hs2 e => ?_, h2⟩
    rw [lb_or, lb_sh (by omega) hs2, Bool.or_eq_true, decide_eq_true_eq] at e
    rcases e with e | e
    · exact h1 s hs2 e
    · rw [hL s hs2, e]; exact h3
  · intro ⟨h1, h2⟩
    refine ⟨⟨fun s hs2 e => h1 s hs2 ?_, h2⟩, ?_⟩
    · rw [lb_or, e, Bool.true_or]
    · rw [← hL _ (by omega)]
      refine h1 _ (by omega) ?_
      rw [lb_or, lb_sh (by omega) (by omega), decide_eq_true rfl, Bool.or_true]
theorem xm_wo {post : Int32 → SX → Prop} {a c : Nat} (h : td_W n q b la far law R D) (ha : a < n) (hc : c < n)
    (hp : ∀ ta' fa', post (td_md (td_mn (td_po n R (td_s a c)) (td_co n D) (td_N n))) (nI n, q, b, la, ta', fa')) : wpX_leastCostWithout post (nI n, q, b, la, ta, fa) (nI a) (nI c) := by
  have h7 := h.2.1
  have hs : td_s a c < 49 := td_slt (by omega) (by omega)
  unfold wpX_leastCostWithout
  dsimp only
  refine xs_slot (by omega) (by omega) ?_
  refine nm_e ?_
  refine xs_least (P := td_po n R (td_s a c)) (D := D) h.1 h7 h.2.2.1 (fun t ht L hL => ?_) (fun ta' fa' _ => hp ta' fa')
  rw [td_po, Bool.and_eq_true, rl_hP h ht hL, rl_dsj, rl_dsj]
  constructor
  · intro ⟨⟨h1, h2⟩, h3⟩
    refine ⟨h1, fun s hs2 e => ?_⟩
    rw [lb_or, lb_sh (by omega) hs2, h2 s hs2 e, Bool.false_or, decide_eq_false_iff_not]
    intro z
    rw [hL s hs2, z] at e
    rw [e] at h3
    exact Bool.noConfusion h3
  · intro ⟨h1, h2⟩
    refine ⟨⟨h1, fun s hs2 e => ?_⟩, ?_⟩
    · have := h2 s hs2 e
      rw [lb_or, Bool.or_eq_false_iff] at this
      exact this.1
    · cases e : td_lk n t (td_s a c) with
      | false => rfl
      | true =>
        have := h2 (td_s a c) (by omega) (by rw [hL _ (by omega)]; exact e)
        rw [lb_or, lb_sh (by omega) (by omega), decide_eq_true rfl, Bool.or_true] at this
        exact Bool.noConfusion this
theorem ym_best {post : Int32 → SY → Prop} (h : td_W n q b la far law R D) (hp : ∀ lst', post (td_md (td_mn (td_ok n R) (td_co n D) (td_N n))) (nI n, nI (td_N n), far, law, lst')) : wpY_best post (nI n, nI (td_N n), far, law, lst) := by
  obtain ⟨h3, h7, hL, hF, hR, _, _, _⟩ := h
  unfold wpY_best
  dsimp only
  exact ys_least (P := td_ok n R) (D := D) (a := 0) (c := 0) (w := 2) h3 h7 (by omega) (by omega) (by omega) hR hF (fun a c ha hc hd => (hL a c ha hc hd).2) (fun t _ => ⟨fun z => ⟨Or.inl rfl, z⟩, fun z => z.2⟩) hp
theorem ym_with {post : Int32 → SY → Prop} {a c : Nat} (h : td_W n q b la far law R D) (ha : a < n) (hc : c < n) (hd : a ≠ c) (hp : ∀ lst', post (td_md (td_mn (td_pw n R (td_s a c)) (td_co n D) (td_N n))) (nI n, nI (td_N n), far, law, lst')) : wpY_bestWith post (nI n, nI (td_N n), far, law, lst) (nI a) (nI c) := by
  obtain ⟨h3, h7, hL, hF, hR, _, _, _⟩ := h
  unfold wpY_bestWith
  dsimp only
  refine ys_link1 h7 ha hc hd ?_
  refine br_f (by decide) ?_
  refine ys_least (P := td_pw n R (td_s a c)) (D := D) (w := 1) h3 h7 ha hc (by omega) hR hF (fun a c ha hc hd => (hL a c ha hc hd).2) (fun t _ => ?_) hp
  rw [td_pw, Bool.and_eq_true]
  constructor
  · intro ⟨z1, z2⟩; exact ⟨Or.inr ⟨fun _ => rfl, fun _ => ⟨hd, z2⟩⟩, z1⟩
  · rintro ⟨z1 | z1, z2⟩
    · exact absurd z1 (by decide)
    · exact ⟨z2, (z1.mpr rfl).2⟩
theorem ym_wo {post : Int32 → SY → Prop} {a c : Nat} (h : td_W n q b la far law R D) (ha : a < n) (hc : c < n) (hd : a ≠ c) (hp : ∀ lst', post (td_md (td_mn (td_po n R (td_s a c)) (td_co n D) (td_N n))) (nI n, nI (td_N n), far, law, lst')) : wpY_bestWithout post (nI n, nI (td_N n), far, law, lst) (nI a) (nI c) := by
  obtain ⟨h3, h7, hL, hF, hR, _, _, _⟩ := h
  unfold wpY_bestWithout
  dsimp only
  refine ys_link1 h7 ha hc hd ?_
  refine br_f (by decide) ?_
  refine ys_least (P := td_po n R (td_s a c)) (D := D) (w := 0) h3 h7 ha hc (by omega) hR hF (fun a c ha hc hd => (hL a c ha hc hd).2) (fun t _ => ?_) hp
  rw [td_po, Bool.and_eq_true, Bool.not_eq_true']
  constructor
  · intro ⟨z1, z2⟩
    refine ⟨Or.inr ⟨fun z => ?_, fun z => absurd z (by decide)⟩, z1⟩
    rw [z2] at z
    exact Bool.noConfusion z.2
  · rintro ⟨z1 | z1, z2⟩
    · exact absurd z1 (by decide)
    · refine ⟨z2, ?_⟩
      cases e : td_lk n t (td_s a c) with
      | false => rfl
      | true => exact absurd (z1.mp ⟨hd, e⟩) (by decide)
theorem ym_with0 {post : Int32 → SY → Prop} {T x y : Int32} (h7 : n ≤ 7) (hx : ¬ ∃ a c, a < n ∧ c < n ∧ a ≠ c ∧ x = nI a ∧ y = nI c) (hp : post (-1) (nI n, T, far, law, lst)) : wpY_bestWith post (nI n, T, far, law, lst) x y := by
  unfold wpY_bestWith
  dsimp only
  refine ys_link0 h7 hx ?_
  exact br_t rfl hp
theorem ym_wo0 {post : Int32 → SY → Prop} {T x y : Int32} (h7 : n ≤ 7) (hx : ¬ ∃ a c, a < n ∧ c < n ∧ a ≠ c ∧ x = nI a ∧ y = nI c) (hp : post (-1) (nI n, T, far, law, lst)) : wpY_bestWithout post (nI n, T, far, law, lst) x y := by
  unfold wpY_bestWithout
  dsimp only
  refine ys_link0 h7 hx ?_
  exact br_t rfl hp
end
theorem i_vc_best {k : Nat} {u : SX} {v : SY} (I : i_Rel k u v) (hk : k + 4 ≤ 2050) : wpX_best (fun r u' => wpY_best (fun r' v' => r' = r ∧ i_Rel (k + 4) u' v') v) u := by
  obtain ⟨n, q, b, la, ta, fa, far, law, lst, R, D, rfl, rfl, h⟩ := I
  unfold wpX_best
  dsimp only
  refine xm_least h fun ta' fa' _ => ?_
  refine ym_best h fun lst' => ?_
  exact ⟨rfl, rl_mk h⟩
theorem i_vc_bestWith {k : Nat} {u : SX} {v : SY} (I : i_Rel k u v) (hk : k + 4 ≤ 2050) (v1 : Int32) (v2 : Int32) : wpX_bestWith (fun r u' => wpY_bestWith (fun r' v' => r' = r ∧ i_Rel (k + 4) u' v') v v1 v2) u v1 v2 := by
  obtain ⟨n, q, b, la, ta, fa, far, law, lst, R, D, rfl, rfl, h⟩ := I
  have h7 := h.2.1
  unfold wpX_bestWith
  dsimp only
  by_cases hl : ∃ a c, a < n ∧ c < n ∧ a ≠ c ∧ v1 = nI a ∧ v2 = nI c
  · obtain ⟨a, c, ha, hc, hd, rfl, rfl⟩ := hl
    refine xs_link1 h7 ha hc hd ?_
    refine br_f (by decide) ?_
    refine xm_with h ha hc fun ta' fa' => ?_
    refine ym_with h ha hc hd fun lst' => ?_
    exact ⟨rfl, rl_mk h⟩
  · refine xs_link0 h7 hl ?_
    refine br_t rfl ?_
    refine ym_with0 h7 hl ?_
    exact ⟨rfl, rl_mk h⟩
theorem i_vc_bestWithout {k : Nat} {u : SX} {v : SY} (I : i_Rel k u v) (hk : k + 4 ≤ 2050) (v1 : Int32) (v2 : Int32) : wpX_bestWithout (fun r u' => wpY_bestWithout (fun r' v' => r' = r ∧ i_Rel (k + 4) u' v') v v1 v2) u v1 v2 := by
  obtain ⟨n, q, b, la, ta, fa, far, law, lst, R, D, rfl, rfl, h⟩ := I
  have h7 := h.2.1
  unfold wpX_bestWithout
  dsimp only
  by_cases hl : ∃ a c, a < n ∧ c < n ∧ a ≠ c ∧ v1 = nI a ∧ v2 = nI c
  · obtain ⟨a, c, ha, hc, hd, rfl, rfl⟩ := hl
    refine xs_link1 h7 ha hc hd ?_
    refine br_f (by decide) ?_
    refine xm_wo h ha hc fun ta' fa' => ?_
    refine ym_wo h ha hc hd fun lst' => ?_
    exact ⟨rfl, rl_mk h⟩
  · refine xs_link0 h7 hl ?_
    refine br_t rfl ?_
    refine ym_wo0 h7 hl ?_
    exact ⟨rfl, rl_mk h⟩
theorem rl_city {n k c : Nat} {q b : Int64} {la far law : Nat → Int32} {R D : Nat → Nat} {post : Int32 → SY → Prop} (h : td_W n q b la far law R D) (hk : k < n) (hm : td_mn (td_ok n R) (td_co n D) (td_N n) = c + 1)
    (hp : ∀ lst', post (nI (td_T n (td_ar (td_ok n R) (td_co n D) (td_N n)) k)) (nI n, nI (td_N n), far, law, lst')) : ∀ d t (lst : Nat → Int32), t + d = td_N n → t ≤ td_ar (td_ok n R) (td_co n D) (td_N n) → wY_cityAt_25 post (nI k) (nI c) (d + 1) (nI t) (nI n) (nI (td_N n)) far law lst := by
  obtain ⟨h3, h7, hL, hF, hR, _, _, _⟩ := h
  have hD : ∀ a c, a < n → c < n → a ≠ c → D (td_s a c) ≤ 99 := fun a c ha hc hd => (hL a c ha hc hd).2
  have hN := td_Nle h3 h7
  have hmb := td_mnL (P := td_ok n R) (t := td_N n) h3 h7 (Nat.le_refl _) hD
  obtain ⟨a1, a2, a3, a4⟩ := td_mna (P := td_ok n R) (C := td_co n D) (N := td_N n) (by omega)
  intro d
  induction d with
  | zero => intro t lst ht hle; omega
  | succ d ih =>
    intro t lst ht hle
    have htN : t < td_N n := by omega
    have hcb := td_coL h3 h7 htN hD
    refine br_f (nI_ge htN (by omega)) (br_f (nI_ge (b := 720) (by omega) (by decide)) ?_)
    refine ys_spell h3 h7 htN fun lst' hl => ?_
    refine ys_cost h3 h7 htN hl hF ?_
    by_cases e : t = td_ar (td_ok n R) (td_co n D) (td_N n)
    · rw [← e] at a2 a3
      refine br_t (by rw [nI_eq (by omega) (by omega)]; omega) ?_
      refine ys_allowed h3 h7 htN hl hR ?_
      rw [if_pos a2]
      refine br_f (by decide) ⟨vp_in_nI (by omega) (by omega), ?_⟩
      rw [nI_clamp (by omega), hl k hk, e]
      exact hp lst'
    · have hi := ih (t + 1) lst' (by omega) (by omega)
      refine pk_eq _ _ (fun e1 => ?_) (fun e1 => nm_r (nI_1 t) hi)
      refine ys_allowed h3 h7 htN hl hR ?_
      have hno : ¬ td_ok n R t = true := fun z => a4 t (by omega) z (by omega)
      rw [if_neg hno]
      exact br_t rfl (nm_r (nI_1 t) hi)
theorem i_vc_cityAt {k : Nat} {u : SX} {v : SY} (I : i_Rel k u v) (hk : k + 4 ≤ 2050) (v1 : Int32) : wpX_cityAt (fun r u' => wpY_cityAt (fun r' v' => r' = r ∧ i_Rel (k + 4) u' v') v v1) u v1 := by
  obtain ⟨n, q, b, la, ta, fa, far, law, lst, R, D, rfl, rfl, h⟩ := I
  have h3 := h.1
  have h7 := h.2.1
  have hN := td_Nle h3 h7
  have hmb := td_mnL (P := td_ok n R) (t := td_N n) h3 h7 (Nat.le_refl _) (fun a c ha hc hd => (h.2.2.1 a c ha hc hd).2)
  unfold wpX_cityAt wpY_cityAt
  dsimp only
  refine br_c (fun e0 => ?_) (fun e0 => br_c (fun e1 => ?_) (fun e1 => ?_))
  · refine ym_best h fun lst' => ?_
    exact br_c (fun _ => ⟨rfl, rl_mk h⟩) (fun _ => br_t e0 ⟨rfl, rl_mk h⟩)
  · refine xm_least h fun ta' fa' hfa => ?_
    rcases pk_ix v1 (n := n) (by omega) with e | e | ⟨j, hj, rfl⟩
    · exact absurd e e0
    · exact absurd e1 (Int32.not_lt.mpr e)
    · cases hm : td_mn (td_ok n R) (td_co n D) (td_N n) with
      | zero =>
        refine br_t (by rw [td_md0]) ?_
        refine ym_best h fun lst' => ?_
        rw [hm]
        exact br_t (by rw [td_md0]; decide) ⟨rfl, rl_mk h⟩
      | succ c =>
        rw [td_mds]
        refine br_f (td_nm1 (by omega)) ⟨vp_in_nI (by omega) (by omega), ?_⟩
        refine ym_best h fun lst' => ?_
        rw [hm, td_mds]
        refine br_f (nI_pos (by omega)) (br_f e0 (br_t e1 ⟨td_N n + 1, ?_⟩))
        refine rl_city h hj hm (fun lst'' => ?_) (td_N n) 0 lst' (by omega) (Nat.zero_le _)
        refine ⟨?_, rl_mk h⟩
        rw [nI_clamp (by omega)]
        exact (hfa (by omega) j hj).symm
  · refine ym_best h fun lst' => ?_
    exact br_c (fun _ => ⟨rfl, rl_mk h⟩) (fun _ => br_f e0 (br_f e1 ⟨rfl, rl_mk h⟩))
