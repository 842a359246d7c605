theorem i_vc_length {k : Nat} {u : SX} {v : SY} (I : i_Rel k u v) (hk : k + 4 ≤ 2050) (v1 : Int32) (v2 : Int32) : wpX_length (fun r => wpY_length (fun r' => r' = r ∧ i_Rel (k + 4) u v) v v1 v2) u v1 v2 := by
  have I2 : i_Rel (k + 4) u v := I
  obtain ⟨n, q, b, la, ta, fa, far, law, lst, R, D, rfl, rfl, h⟩ := I
  have h7 := h.2.1
  unfold wpX_length wpY_length
  dsimp only
  by_cases hl : ∃ a c, a < n ∧ c < n ∧ a ≠ c ∧ v1 = nI a ∧ v2 = nI c
  · obtain ⟨a, c, ha, hc, hd, rfl, rfl⟩ := hl
    have hs : td_s a c < 49 := td_slt (by omega) (by omega)
    refine xs_link1 h7 ha hc hd ?_
    refine br_f (by decide) ?_
    refine xs_slot (by omega) (by omega) ?_
    refine ⟨vp_in_nI hs (by omega), ?_⟩
    refine ys_link1 h7 ha hc hd ?_
    refine br_f (by decide) ?_
    rw [td_7]
    refine ⟨vp_in_nI (by omega) (by omega), ?_, I2⟩
    rw [nI_clamp (by omega), nI_clamp (by omega), (h.2.2.1 a c ha hc hd).1, h.2.2.2.1 a c ha hc hd]
  · refine xs_link0 h7 hl ?_
    refine br_t rfl ?_
    refine ys_link0 h7 hl ?_
    exact br_t rfl ⟨rfl, I2⟩
theorem rl_andz {q : Int64} {s : Nat} (hs : s < 64) : q &&& ((1 : Int64) <<< ((nI s).toInt64 &&& 63)) = 0 ↔ lb_t q s = false := by
  rw [lb_eq]
  constructor
  · intro h
    have := h s hs
    rw [lb_and, lb_sh hs hs, decide_eq_true rfl, Bool.and_true, lb_0] at this
    exact this
  · intro h i hi
    rw [lb_and, lb_sh hs hi, lb_0]
    by_cases e : i = s
    · rw [e, h, Bool.false_and]
    · rw [decide_eq_false e, Bool.and_false]
theorem i_vc_rule {k : Nat} {u : SX} {v : SY} (I : i_Rel k u v) (hk : k + 4 ≤ 2050) (v1 : Int32) (v2 : Int32) : wpX_rule (fun r => wpY_rule (fun r' => r' = r ∧ i_Rel (k + 4) u v) v v1 v2) u v1 v2 := by
  have I2 : i_Rel (k + 4) u v := I
  obtain ⟨n, q, b, la, ta, fa, far, law, lst, R, D, rfl, rfl, h⟩ := I
  have h7 := h.2.1
  unfold wpX_rule wpY_rule
  dsimp only
  by_cases hl : ∃ a c, a < n ∧ c < n ∧ a ≠ c ∧ v1 = nI a ∧ v2 = nI c
  · obtain ⟨a, c, ha, hc, hd, rfl, rfl⟩ := hl
    have hs : td_s a c < 49 := td_slt (by omega) (by omega)
    obtain ⟨_, _, _, _, hR, _, hQ, hB⟩ := h
    have hr := hR a c ha hc hd
    have fin : ∀ r : Nat, R (td_s a c) = r → wpY_link (fun r_1 => (r_1 = 0 → -1 = nI r ∧ i_Rel (k + 4) (nI n, q, b, la, ta, fa) (nI n, nI (td_N n), far, law, lst)) ∧ (¬r_1 = 0 → vp_in (nI a * 7 + nI c) 49 ∧ law (nI a * 7 + nI c).toNatClampNeg = nI r ∧ i_Rel (k + 4) (nI n, q, b, la, ta, fa) (nI n, nI (td_N n), far, law, lst))) (nI n, nI (td_N n), far, law, lst) (nI a) (nI c) := by
      intro r e
      refine ys_link1 h7 ha hc hd ?_
      refine br_f (by decide) ?_
      rw [td_7]
      refine ⟨vp_in_nI (by omega) (by omega), ?_, I2⟩
      rw [nI_clamp (by omega), hr.1, e]
    refine xs_link1 h7 ha hc hd ?_
    refine br_f (by decide) ?_
    refine xs_slot (by omega) (by omega) ?_
    refine nm_e ?_
    rw [rl_andz (by omega), rl_andz (by omega), hQ _ (by omega), hB _ (by omega), decide_eq_false_iff_not, decide_eq_false_iff_not]
    refine br_c (fun h1 => br_c (fun h2 => ?_) (fun h2 => ?_)) (fun h1 => ?_)
    · exact fin 0 (by omega)
    · exact fin 2 (by omega)
    · exact fin 1 (by omega)
  · refine xs_link0 h7 hl ?_
    refine br_t rfl ?_
    refine ys_link0 h7 hl ?_
    exact br_t rfl ⟨rfl, I2⟩
theorem rl_shift {n a : Nat} {q b : Int64} {law lst ta fa : Nat → Int32} {R : Nat → Nat} {T x2 : Int32} (ha : a < n) : ∀ d i cnt (la far : Nat → Int32) (D : Nat → Nat), i + d = n → td_W n q b la far law R D →
    ∃ (r : Int32) (la' far' : Nat → Int32) (D' : Nat → Nat), td_W n q b la' far' law R D' ∧ (∀ post : Int32 → SX → Prop, post r (nI n, q, b, la', ta, fa) → wX_shift_27 post (nI a) x2 (nI n) q b (d + 1) (nI cnt) (nI i) la ta fa) ∧ (∀ post : Int32 → SY → Prop, post r (nI n, T, far', law, lst) → wY_shift_31 post (nI a) x2 (d + 1) (nI cnt) (nI i) (nI n) T far law lst) := by
  intro d
  induction d with
  | zero =>
    intro i cnt la far D hi h
    have e : i = n := by omega
    subst e
    exact ⟨nI cnt, la, far, D, h, fun post hp => br_t (Int32.le_refl _) hp, fun post hp => br_t (Int32.le_refl _) hp⟩
  | succ d ih =>
    intro i cnt la far D hi h
    have h7 := h.2.1
    have hge : ¬ nI n ≤ nI i := nI_ge (by omega) (by omega)
    by_cases e : i = a
    · obtain ⟨r, la', far', D', h', hX, hY⟩ := ih (i + 1) cnt la far D (by omega) h
      exact ⟨r, la', far', D', h', fun post hp => br_f hge (br_t (by rw [e]) (nm_r (nI_1 i) (hX post hp))), fun post hp => br_f hge (br_t (by rw [e]) (nm_r (nI_1 i) (hY post hp)))⟩
    · have hne : ¬ nI i = nI a := by rw [nI_eq (by omega) (by omega)]; exact e
      have hs : td_s a i < 49 := td_slt (by omega) (by omega)
      have hL := h.2.2.1 a i ha (by omega) (Ne.symm e)
      have hF := h.2.2.2.1 a i ha (by omega) (Ne.symm e)
      by_cases hx : ∃ g, g ≤ 99 ∧ nI (D (td_s a i)) + x2 = nI g
      · obtain ⟨g, hg, eg⟩ := hx
        obtain ⟨r, la', far', D', h', hX, hY⟩ := ih (i + 1) (cnt + 1) _ _ _ (by omega) (rl_setL h ha (by omega : i < n) (Ne.symm e) hg)
        refine ⟨r, la', far', D', h', fun post hp => br_f hge (br_f hne ?_), fun post hp => br_f hge (br_f hne ?_)⟩
        · refine xs_slot (by omega) (by omega) ?_
          refine ⟨vp_in_nI hs (by omega), ?_⟩
          rw [nI_clamp (by omega), hL.1, eg]
          refine nm_e ?_
          refine xs_len1 hg ?_
          refine br_f (by decide) ?_
          exact ⟨vp_in_nI hs (by omega), nm_e (nm_r (nI_1 cnt) (nm_r (nI_1 i) (hX post hp)))⟩
        · rw [td_7]
          refine ⟨vp_in_nI (by omega) (by omega), ?_⟩
          rw [nI_clamp (by omega), hF, eg]
          refine ym_setL1 h7 ha (by omega) (Ne.symm e) hg ?_
          exact br_f (by decide) (nm_r (nI_1 cnt) (nm_r (nI_1 i) (hY post hp)))
      · obtain ⟨r, la', far', D', h', hX, hY⟩ := ih (i + 1) cnt la far D (by omega) h
        refine ⟨r, la', far', D', h', fun post hp => br_f hge (br_f hne ?_), fun post hp => br_f hge (br_f hne ?_)⟩
        · refine xs_slot (by omega) (by omega) ?_
          refine ⟨vp_in_nI hs (by omega), ?_⟩
          rw [nI_clamp (by omega), hL.1]
          refine nm_e ?_
          refine xs_len0 hx ?_
          exact br_t rfl (nm_r (nI_1 i) (hX post hp))
        · rw [td_7]
          refine ⟨vp_in_nI (by omega) (by omega), ?_⟩
          rw [nI_clamp (by omega), hF]
          refine ym_setL0 h7 (Or.inr hx) ?_
          exact br_t rfl (nm_r (nI_1 i) (hY post hp))
theorem i_vc_shift {k : Nat} {u : SX} {v : SY} (I : i_Rel k u v) (hk : k + 4 ≤ 2050) (v1 : Int32) (v2 : Int32) : wpX_shift (fun r u' => wpY_shift (fun r' v' => r' = r ∧ i_Rel (k + 4) u' v') v v1 v2) u v1 v2 := by
  obtain ⟨n, q, b, la, ta, fa, far, law, lst, R, D, rfl, rfl, h⟩ := I
  have h7 := h.2.1
  unfold wpX_shift wpY_shift
  dsimp only
  by_cases hc : ∃ a, a < n ∧ v1 = nI a
  · obtain ⟨a, ha, rfl⟩ := hc
    have g0 : ¬ nI a < 0 := nI_pos (by omega)
    have g1 : ¬ nI n ≤ nI a := nI_ge ha (by omega)
    obtain ⟨r, la', far', D', h', hX, hY⟩ := rl_shift (q := q) (b := b) (law := law) (lst := lst) (ta := ta) (fa := fa) (T := nI (td_N n)) (x2 := v2) ha n 0 0 la far D (by omega) h
    refine xs_city1 h7 ha ?_
    refine br_f (by decide) ?_
    by_cases e1 : v2 < -99
    · exact br_t e1 (br_f g0 (br_f g1 (br_t e1 ⟨rfl, rl_mk h⟩)))
    · by_cases e2 : v2 ≤ 99
      · refine br_f e1 (br_t e2 ⟨n + 1, hX _ ?_⟩)
        refine br_f g0 (br_f g1 (br_f e1 (br_t e2 ⟨n + 1, hY _ ?_⟩)))
        exact ⟨rfl, rl_mk h'⟩
      · exact br_f e1 (br_f e2 (br_f g0 (br_f g1 (br_f e1 (br_f e2 ⟨rfl, rl_mk h⟩)))))
  · refine xs_city0 h7 hc ?_
    refine br_t rfl ?_
    refine br_c (fun _ => ⟨rfl, rl_mk h⟩) (fun g0 => br_c (fun _ => ⟨rfl, rl_mk h⟩) (fun g1 => ?_))
    rcases pk_ix v1 (n := n) (by omega) with e | e | e
    · exact absurd e g0
    · exact absurd e g1
    · exact absurd e hc
