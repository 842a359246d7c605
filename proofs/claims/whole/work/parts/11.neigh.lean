theorem xm_neigh {n a m : Nat} {q b : Int64} {la far law : Nat → Int32} {R D : Nat → Nat} {post : Int32 → SX → Prop} (h : td_W n q b la far law R D) (ha : a < n) (hm : m ≤ 694)
    (hp : ∀ S ta' fa', (∀ j, j < 32 → (ib_t S j = true ↔ j < n ∧ j ≠ a ∧ td_mn (td_pw n R (td_s a j)) (td_co n D) (td_N n) = m)) → post S (nI n, q, b, la, ta', fa')) :
    ∀ d i (S : Int32) (ta fa : Nat → Int32), i + d = n → (∀ j, j < 32 → (ib_t S j = true ↔ j < i ∧ j ≠ a ∧ td_mn (td_pw n R (td_s a j)) (td_co n D) (td_N n) = m)) → wX_neighbours_35 post (nI a) (td_md m) (d + 1) S (nI i) (nI n) q b la ta fa := by
  have h3 := h.1
  have h7 := h.2.1
  intro d
  induction d with
  | zero =>
    intro i S ta fa hi hS
    have e : i = n := by omega
    subst e
    exact br_t (Int32.le_refl _) (hp S ta fa hS)
  | succ d ih =>
    intro i S ta fa hi hS
    refine br_f (nI_ge (by omega) (by omega)) ?_
    refine pk_eq i a (fun e => nm_r (nI_1 i) (ih (i + 1) S ta fa (by omega) fun j hj => ?_)) (fun e => ?_)
    · rw [hS j hj]
      constructor
      · intro ⟨z1, z2, z3⟩; exact ⟨by omega, z2, z3⟩
      · intro ⟨z1, z2, z3⟩; exact ⟨by omega, z2, z3⟩
    · refine xm_with h ha (by omega) fun ta' fa' => ?_
      have hb := td_mnL (P := td_pw n R (td_s a i)) (t := td_N n) h3 h7 (Nat.le_refl _) (fun a c ha hc hd => (h.2.2.1 a c ha hc hd).2)
      refine br_c (fun e2 => ?_) (fun e2 => ?_)
      · rw [td_mde (by omega) (by omega)] at e2
        refine nm_e (nm_r (nI_1 i) (ih (i + 1) _ ta' fa' (by omega) fun j hj => ?_))
        rw [ib_or, ib_sh (by omega) hj, Bool.or_eq_true, hS j hj, decide_eq_true_eq]
        constructor
        · rintro (⟨z1, z2, z3⟩ | z)
          · exact ⟨by omega, z2, z3⟩
          · subst z; exact ⟨by omega, e, e2⟩
        · intro ⟨z1, z2, z3⟩
          rcases Nat.lt_succ_iff_lt_or_eq.mp z1 with z | z
          · exact Or.inl ⟨z, z2, z3⟩
          · exact Or.inr z
      · rw [td_mde (by omega) (by omega)] at e2
        refine nm_r (nI_1 i) (ih (i + 1) _ ta' fa' (by omega) fun j hj => ?_)
        rw [hS j hj]
        constructor
        · intro ⟨z1, z2, z3⟩; exact ⟨by omega, z2, z3⟩
        · intro ⟨z1, z2, z3⟩
          rcases Nat.lt_succ_iff_lt_or_eq.mp z1 with z | z
          · exact ⟨z, z2, z3⟩
          · subst z; exact absurd z3 e2
theorem ym_nin {n a t : Nat} {T x2 : Int32} {far law lst : Nat → Int32} {post : Int32 → SY → Prop} {J : Int32 → Int32 → Int32 → Int32 → (Nat → Int32) → (Nat → Int32) → (Nat → Int32) → Prop} {S0 : Int32} (h3 : 3 ≤ n) (h7 : n ≤ 7) (ht : t < td_N n) (ha : a < n) (hl : ∀ k, k < n → lst k = nI (td_T n t k))
    (hJ : ∀ S, (∀ j, j < 32 → (ib_t S j = true ↔ ib_t S0 j = true ∨ (j < n ∧ a ≠ j ∧ td_lk n t (td_s a j) = true))) → J S (nI (t + 1)) (nI n) T far law lst) :
    ∀ d i (S : Int32), i + d = n → (∀ j, j < 32 → (ib_t S j = true ↔ ib_t S0 j = true ∨ (j < i ∧ a ≠ j ∧ td_lk n t (td_s a j) = true))) → wY_neighbours_69 post J (nI a) x2 (nI t) (nI n) T far law lst (d + 1) S (nI i) := by
  intro d
  induction d with
  | zero =>
    intro i S hi hS
    have e : i = n := by omega
    subst e
    exact br_t (Int32.le_refl _) (nm_r (nI_1 t) (hJ S hS))
  | succ d ih =>
    intro i S hi hS
    refine br_f (nI_ge (by omega) (by omega)) ?_
    refine ys_has h3 h7 ht hl ha (by omega) ?_
    by_cases e : a ≠ i ∧ td_lk n t (td_s a i) = true
    · rw [if_pos e]
      refine br_f (by decide) (nm_e (nm_r (nI_1 i) (ih (i + 1) _ (by omega) fun j hj => ?_)))
      rw [ib_or, ib_sh (by omega) hj, Bool.or_eq_true, hS j hj, decide_eq_true_eq]
      constructor
      · rintro ((z | ⟨z1, z2⟩) | z)
        · exact Or.inl z
        · exact Or.inr ⟨by omega, z2⟩
        · subst z; exact Or.inr ⟨by omega, e⟩
      · rintro (z | ⟨z1, z2⟩)
        · exact Or.inl (Or.inl z)
        · rcases Nat.lt_succ_iff_lt_or_eq.mp z1 with z | z
          · exact Or.inl (Or.inr ⟨z, z2⟩)
          · exact Or.inr z
    · rw [if_neg e]
      refine br_t rfl (nm_r (nI_1 i) (ih (i + 1) _ (by omega) fun j hj => ?_))
      rw [hS j hj]
      constructor
      · rintro (z | ⟨z1, z2⟩)
        · exact Or.inl z
        · exact Or.inr ⟨by omega, z2⟩
      · rintro (z | ⟨z1, z2⟩)
        · exact Or.inl z
        · rcases Nat.lt_succ_iff_lt_or_eq.mp z1 with z | z
          · exact Or.inr ⟨z, z2⟩
          · subst z; exact absurd z2 e
theorem ym_neigh {n a c : Nat} {q b : Int64} {la far law : Nat → Int32} {R D : Nat → Nat} {post : Int32 → SY → Prop} (h : td_W n q b la far law R D) (ha : a < n) (hc : c ≤ 693)
    (hp : ∀ S lst', (∀ j, j < 32 → (ib_t S j = true ↔ j < n ∧ a ≠ j ∧ ∃ t, t < td_N n ∧ td_pw n R (td_s a j) t = true ∧ td_co n D t + 1 = c + 1)) → post S (nI n, nI (td_N n), far, law, lst')) :
    ∀ d t (S : Int32) (lst : Nat → Int32), t + d = td_N n → (∀ j, j < 32 → (ib_t S j = true ↔ j < n ∧ a ≠ j ∧ ∃ t', t' < t ∧ td_pw n R (td_s a j) t' = true ∧ td_co n D t' + 1 = c + 1)) → wY_neighbours_28 post (nI a) (nI c) (d + 1) S (nI t) (nI n) (nI (td_N n)) far law lst := by
  obtain ⟨h3, h7, hL, hF, hR, _, _, _⟩ := h
  have hD : ∀ a c, a < n → c < n → a ≠ c → D (td_s a c) ≤ 99 := fun a c ha hc hd => (hL a c ha hc hd).2
  have hN := td_Nle h3 h7
  intro d
  induction d with
  | zero =>
    intro t S lst ht hS
    have e : t = td_N n := by omega
    subst e
    exact br_t (Int32.le_refl _) (hp S lst hS)
  | succ d ih =>
    intro t S lst ht hS
    have htN : t < td_N n := by omega
    have hcb := td_coL h3 h7 htN hD
    refine br_f (nI_ge htN (by omega)) (br_f (nI_ge (b := 720) (by omega) (by decide)) ?_)
    refine ys_spell h3 h7 htN fun lst' hl => ?_
    refine ys_cost h3 h7 htN hl hF ?_
    have skip : ¬ (td_ok n R t = true ∧ td_co n D t = c) → wY_neighbours_28 post (nI a) (nI c) (d + 1) S (nI (t + 1)) (nI n) (nI (td_N n)) far law lst' := by
      intro hno
      refine ih (t + 1) S lst' (by omega) fun j hj => ?_
      rw [hS j hj]
      constructor
      · intro ⟨z1, z2, t', z3, z4⟩; exact ⟨z1, z2, t', by omega, z4⟩
      · intro ⟨z1, z2, t', z3, z4, z5⟩
        refine ⟨z1, z2, t', ?_, z4, z5⟩
        rcases Nat.lt_succ_iff_lt_or_eq.mp z3 with z | z
        · exact z
        · subst z
          rw [td_pw, Bool.and_eq_true] at z4
          exact absurd ⟨z4.1, by omega⟩ hno
    refine pk_eq _ _ (fun e1 => ?_) (fun e1 => nm_r (nI_1 t) (skip (fun z => e1 z.2)))
    refine ys_allowed h3 h7 htN hl hR ?_
    by_cases e2 : td_ok n R t = true
    · rw [if_pos e2]
      refine br_f (by decide) ⟨n + 1, ?_⟩
      refine ym_nin (S0 := S) h3 h7 htN ha hl (fun S' hS' => ih (t + 1) S' lst' (by omega) fun j hj => ?_) n 0 S (by omega) (fun j hj => ⟨Or.inl, fun z => ?_⟩)
      · rw [hS' j hj, hS j hj]
        constructor
        · rintro (⟨z1, z2, t', z3, z4⟩ | ⟨z1, z2, z3⟩)
          · exact ⟨z1, z2, t', by omega, z4⟩
          · exact ⟨z1, z2, t, by omega, by rw [td_pw, e2, z3]; rfl, by omega⟩
        · intro ⟨z1, z2, t', z3, z4, z5⟩
          rcases Nat.lt_succ_iff_lt_or_eq.mp z3 with z | z
          · exact Or.inl ⟨z1, z2, t', z, z4, z5⟩
          · subst z
            rw [td_pw, Bool.and_eq_true] at z4
            exact Or.inr ⟨z1, z2, z4.2⟩
      · rcases z with z | z
        · exact z
        · exact absurd z.1 (Nat.not_lt_zero j)
    · rw [if_neg e2]
      exact br_t rfl (nm_r (nI_1 t) (skip (fun z => e2 z.1)))
theorem i_vc_neighbours {k : Nat} {u : SX} {v : SY} (I : i_Rel k u v) (hk : k + 4 ≤ 2050) (v1 : Int32) : wpX_neighbours (fun r u' => wpY_neighbours (fun r' v' => r' = r ∧ i_Rel (k + 4) u' v') v v1) u v1 := by
  obtain ⟨n, q, b, la, ta, fa, far, law, lst, R, D, rfl, rfl, h⟩ := I
  have h3 := h.1
  have h7 := h.2.1
  have hmb := td_mnL (P := td_ok n R) (t := td_N n) h3 h7 (Nat.le_refl _) (fun a c ha hc hd => (h.2.2.1 a c ha hc hd).2)
  unfold wpX_neighbours wpY_neighbours
  dsimp only
  by_cases hc : ∃ a, a < n ∧ v1 = nI a
  · obtain ⟨a, ha, rfl⟩ := hc
    refine xs_city1 h7 ha ?_
    refine br_f (by decide) ?_
    refine xm_least h fun ta' fa' _ => ?_
    cases hm : td_mn (td_ok n R) (td_co n D) (td_N n) with
    | zero =>
      refine br_t (by rw [td_md0]) ?_
      refine ym_best h fun lst' => ?_
      rw [hm]
      exact br_t (by rw [td_md0]; decide) ⟨rfl, rl_mk h⟩
    | succ c =>
      refine br_f (by rw [td_mds]; exact td_nm1 (by omega)) ⟨n + 1, ?_⟩
      refine xm_neigh h ha (by omega) (fun S ta' fa' hS => ?_) n 0 0 ta' fa' (by omega) (fun j hj => ⟨fun z => ?_, fun z => absurd z.1 (Nat.not_lt_zero j)⟩)
      · refine ym_best h fun lst' => ?_
        rw [hm, td_mds]
        refine br_f (nI_pos (by omega)) (br_f (nI_pos (by omega)) (br_t (nI_lt ha (by omega)) ⟨td_N n + 1, ?_⟩))
        refine ym_neigh h ha (by omega) (fun S' lst'' hS' => ?_) (td_N n) 0 0 lst' (by omega) (fun j hj => ⟨fun z => ?_, fun z => ?_⟩)
        · refine ⟨ib_ext fun j hj => ?_, rl_mk h⟩
          rw [Bool.eq_iff_iff, hS' j hj, hS j hj]
          have key := td_mni (P := td_ok n R) (Q := td_pw n R (td_s a j)) (C := td_co n D) (N := td_N n) (fun t _ z => by rw [td_pw, Bool.and_eq_true] at z; exact z.1) (by omega)
          rw [hm] at key
          rw [key]
          constructor
          · intro ⟨z1, z2, z3⟩; exact ⟨z1, Ne.symm z2, z3⟩
          · intro ⟨z1, z2, z3⟩; exact ⟨z1, Ne.symm z2, z3⟩
        · rw [ib_0] at z; exact Bool.noConfusion z
        · obtain ⟨_, _, t', z3, _⟩ := z
          exact absurd z3 (Nat.not_lt_zero t')
      · rw [ib_0] at z; exact Bool.noConfusion z
  · refine xs_city0 h7 hc ?_
    refine br_t rfl ?_
    refine ym_best h fun lst' => ?_
    refine br_c (fun _ => ⟨rfl, rl_mk h⟩) (fun _ => br_c (fun _ => ⟨rfl, rl_mk h⟩) (fun e0 => br_c (fun e1 => ?_) (fun _ => ⟨rfl, rl_mk h⟩)))
    rcases pk_ix v1 (n := n) (by omega) with e | e | e
    · exact absurd e e0
    · exact absurd e1 (Int32.not_lt.mpr e)
    · exact absurd e hc
