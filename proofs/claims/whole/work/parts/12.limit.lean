theorem rl_tsub {x y : Int32} (hx : -100000 ≤ x.toInt ∧ x.toInt ≤ 100000) (hy : -100000 ≤ y.toInt ∧ y.toInt ≤ 100000) : (x - y).toInt = x.toInt - y.toInt := by
  rw [Int32.toInt_sub]
  exact Int.bmod_eq_of_le (by omega) (by omega)
theorem rl_tadd {x y : Int32} (hx : -100000 ≤ x.toInt ∧ x.toInt ≤ 100000) (hy : -100000 ≤ y.toInt ∧ y.toInt ≤ 100000) : (x + y).toInt = x.toInt + y.toInt := by
  rw [Int32.toInt_add]
  exact Int.bmod_eq_of_le (by omega) (by omega)
theorem rl_tn {c : Nat} (h : c ≤ 100000) : (nI c).toInt = (c : Int) := nI_toInt (by omega)
theorem ym_lim {a c n cw co len : Nat} {T : Int32} {far law lst : Nat → Int32} {post : Int32 → SY → Prop} {res : Int32} (h7 : n ≤ 7) (ha : a < n) (hc : c < n) (hF : far (a * 7 + c) = nI len) (hw : cw ≤ 1000) (ho : co ≤ 1000) (hl : len ≤ 99)
    (h1 : ∀ d : Nat, d ≤ 99 → (d : Int) ≤ co - (cw - len) → (d = 99 ∨ (co : Int) - (cw - len) ≤ d) → res = nI d) (h2 : (co : Int) - (cw - len) < 0 → res = -1)
    (hp : post res (nI n, T, far, law, lst)) : ∀ d : Nat, d ≤ 99 → (d = 99 ∨ (co : Int) - (cw - len) ≤ d) → wY_limit_25 post (nI a) (nI c) (nI cw) (nI co) (nI n) T far law lst (d + 2) (nI d) := by
  have tw := rl_tn (c := cw) (by omega)
  have to := rl_tn (c := co) (by omega)
  have tl := rl_tn (c := len) (by omega)
  have cmp : ∀ d : Nat, d ≤ 99 → (nI co < nI cw - nI len + nI d ↔ (co : Int) - (cw - len) < d) := by
    intro d hd
    have td := rl_tn (c := d) (by omega)
    have e1 : (nI cw - nI len).toInt = cw - len := by rw [rl_tsub (by omega) (by omega), tw, tl]
    rw [Int32.lt_iff_toInt_lt, rl_tadd (by omega) (by omega), e1, to, td]
    omega
  intro d
  induction d with
  | zero =>
    intro hd hg
    refine br_f (nI_pos (by omega)) ?_
    rw [td_7]
    refine ⟨vp_in_nI (by omega) (by omega), nm_e (br_f (nI_pos (by omega)) ?_)⟩
    rw [nI_clamp (by omega), hF, cmp 0 (by omega)]
    refine br_c (fun e => nm_r (e' := (-1 : Int32)) (by decide) ?_) (fun e => ?_)
    · refine br_t (by decide) ?_
      rw [h2 (by omega)] at hp
      exact hp
    · rw [h1 0 (by omega) (by omega) hg] at hp
      exact hp
  | succ d ih =>
    intro hd hg
    refine br_f (nI_pos (by omega)) ?_
    rw [td_7]
    refine ⟨vp_in_nI (by omega) (by omega), nm_e (br_f (nI_pos (by omega)) ?_)⟩
    rw [nI_clamp (by omega), hF, cmp (d + 1) (by omega)]
    refine br_c (fun e => nm_r (pk_m1 d) (ih (by omega) (Or.inr (by omega)))) (fun e => ?_)
    rw [h1 (d + 1) hd (by omega) hg] at hp
    exact hp
theorem i_vc_limit {k : Nat} {u : SX} {v : SY} (I : i_Rel k u v) (hk : k + 4 ≤ 2050) (v1 : Int32) (v2 : Int32) : wpX_limit (fun r u' => wpY_limit (fun r' v' => r' = r ∧ i_Rel (k + 4) u' v') v v1 v2) u v1 v2 := by
  obtain ⟨n, q, b, la, ta, fa, far, law, lst, R, D, rfl, rfl, h⟩ := I
  have h3 := h.1
  have h7 := h.2.1
  have hD : ∀ a c, a < n → c < n → a ≠ c → D (td_s a c) ≤ 99 := fun a c ha hc hd => (h.2.2.1 a c ha hc hd).2
  unfold wpX_limit wpY_limit
  dsimp only
  by_cases hl : ∃ a c, a < n ∧ c < n ∧ a ≠ c ∧ v1 = nI a ∧ v2 = nI c
  · obtain ⟨a, c, ha, hc, hd, rfl, rfl⟩ := hl
    have hs : td_s a c < 49 := td_slt (by omega) (by omega)
    have bw := td_mnL (P := td_pw n R (td_s a c)) (t := td_N n) h3 h7 (Nat.le_refl _) hD
    have bo := td_mnL (P := td_po n R (td_s a c)) (t := td_N n) h3 h7 (Nat.le_refl _) hD
    have hlen := hD a c ha hc hd
    have hLa := (h.2.2.1 a c ha hc hd).1
    have hFa := h.2.2.2.1 a c ha hc hd
    refine xs_link1 h7 ha hc hd ?_
    refine br_f (by decide) ?_
    refine xm_with h ha hc fun ta1 fa1 => ?_
    cases hw : td_mn (td_pw n R (td_s a c)) (td_co n D) (td_N n) with
    | zero =>
      refine br_t (by rw [td_md0]) ?_
      refine ym_with h ha hc hd fun lst1 => ?_
      refine ym_wo h ha hc hd fun lst2 => ?_
      rw [hw]
      exact br_f (by rw [td_md0]; decide) ⟨rfl, rl_mk h⟩
    | succ cw =>
      rw [td_mds]
      refine br_f (td_nm1 (by omega)) ?_
      refine xm_wo h ha hc fun ta2 fa2 => ?_
      cases ho : td_mn (td_po n R (td_s a c)) (td_co n D) (td_N n) with
      | zero =>
        refine br_t (by rw [td_md0]) ?_
        refine ym_with h ha hc hd fun lst1 => ?_
        refine ym_wo h ha hc hd fun lst2 => ?_
        rw [hw, ho, td_mds]
        refine br_t (nI_pos' (by omega)) ⟨1, ?_⟩
        refine br_f (by decide) ?_
        rw [td_7]
        exact ⟨vp_in_nI (by omega) (by omega), nm_e (br_t (by rw [td_md0]; decide) ⟨rfl, rl_mk h⟩)⟩
      | succ co =>
        rw [td_mds]
        refine br_f (td_nm1 (by omega)) ?_
        refine xs_slot (by omega) (by omega) ?_
        refine ⟨vp_in_nI hs (by omega), ?_⟩
        have eL : nI cw - la (nI (td_s a c)).toNatClampNeg = nI cw - nI (D (td_s a c)) := by rw [nI_clamp (by omega), hLa]
        refine nm_r eL (nm_e ?_)
        have tw := rl_tn (c := cw) (by omega)
        have to := rl_tn (c := co) (by omega)
        have tl := rl_tn (c := D (td_s a c)) (by omega)
        have e1 : (nI cw - nI (D (td_s a c))).toInt = cw - D (td_s a c) := by rw [rl_tsub (by omega) (by omega), tw, tl]
        have e2 : (nI co - (nI cw - nI (D (td_s a c)))).toInt = co - (cw - D (td_s a c)) := by rw [rl_tsub (by omega) (by omega), to, e1]
        have t0 : (0 : Int32).toInt = 0 := by decide
        have t99 : (99 : Int32).toInt = 99 := by decide
        have fin : ∀ (res : Int32) (ta3 fa3 : Nat → Int32), (∀ d : Nat, d ≤ 99 → (d : Int) ≤ co - (cw - D (td_s a c)) → (d = 99 ∨ (co : Int) - (cw - D (td_s a c)) ≤ d) → res = nI d) → ((co : Int) - (cw - D (td_s a c)) < 0 → res = -1) → wpY_bestWith (fun r_1 u => match u with | (f_n_2, f_tours_3, a_far_4, a_law_5, a_list_6) => wpY_bestWithout (fun r_7 u => match u with | (f_n_8, f_tours_9, a_far_10, a_law_11, a_list_12) => (0 ≤ r_1 → ∃ n25, wY_limit_25 (fun r' v' => r' = res ∧ i_Rel (k + 4) (nI n, q, b, la, ta3, fa3) v') (nI a) (nI c) r_1 r_7 f_n_8 f_tours_9 a_far_10 a_law_11 a_list_12 n25 99) ∧ (¬ 0 ≤ r_1 → -1 = res ∧ i_Rel (k + 4) (nI n, q, b, la, ta3, fa3) (f_n_8, f_tours_9, a_far_10, a_law_11, a_list_12))) (f_n_2, f_tours_3, a_far_4, a_law_5, a_list_6) (nI a) (nI c)) (nI n, nI (td_N n), far, law, lst) (nI a) (nI c) := by
          intro res ta3 fa3 g1 g2
          refine ym_with h ha hc hd fun lst1 => ?_
          refine ym_wo h ha hc hd fun lst2 => ?_
          rw [hw, ho, td_mds, td_mds]
          refine br_t (nI_pos' (by omega)) ⟨101, ?_⟩
          exact ym_lim h7 ha hc hFa (by omega) (by omega) hlen g1 g2 ⟨rfl, rl_mk h⟩ 99 (Nat.le_refl _) (Or.inl rfl)
        refine br_c (fun p0 => br_c (fun p1 => ?_) (fun p1 => ?_)) (fun p0 => ?_)
        · rw [Int32.le_iff_toInt_le, t0, e2] at p0
          rw [Int32.le_iff_toInt_le, t99, e2] at p1
          refine fin _ ta2 fa2 (fun d hd1 hd2 hd3 => ?_) (fun z => by omega)
          apply Int32.toInt_inj.mp
          rw [e2, rl_tn (by omega)]
          omega
        · rw [Int32.le_iff_toInt_le, t0, e2] at p0
          rw [Int32.le_iff_toInt_le, t99, e2] at p1
          refine fin _ ta2 fa2 (fun d hd1 hd2 hd3 => ?_) (fun z => by omega)
          have : d = 99 := by omega
          subst this
          rfl
        · rw [Int32.le_iff_toInt_le, t0, e2] at p0
          exact fin _ ta2 fa2 (fun d hd1 hd2 hd3 => by omega) (fun _ => rfl)
  · refine xs_link0 h7 hl ?_
    refine br_t rfl ?_
    refine ym_with0 h7 hl ?_
    refine ym_wo0 h7 hl ?_
    exact br_f (by decide) ⟨rfl, rl_mk h⟩
