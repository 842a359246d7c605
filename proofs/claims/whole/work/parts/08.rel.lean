/-- what the fields and arrays of both sides say of one desk: lengths D and rules R by slots -/
def td_W (n : Nat) (q b : Int64) (la far law : Nat → Int32) (R D : Nat → Nat) : Prop :=
  3 ≤ n ∧ n ≤ 7 ∧
  (∀ a c, a < n → c < n → a ≠ c → la (td_s a c) = nI (D (td_s a c)) ∧ D (td_s a c) ≤ 99) ∧
  (∀ a c, a < n → c < n → a ≠ c → far (a * 7 + c) = nI (D (td_s a c))) ∧
  (∀ a c, a < n → c < n → a ≠ c → law (a * 7 + c) = nI (R (td_s a c)) ∧ R (td_s a c) ≤ 2) ∧
  (∀ s, R s ≠ 0 → s / 7 < s % 7 ∧ s % 7 < n) ∧
  (∀ s, s < 64 → lb_t q s = decide (R s = 1)) ∧
  (∀ s, s < 64 → lb_t b s = decide (R s = 2))
def i_Rel (_ : Nat) (u : SX) (v : SY) : Prop := ∃ (n : Nat) (q b : Int64) (la ta fa far law lst : Nat → Int32) (R D : Nat → Nat), u = (nI n, q, b, la, ta, fa) ∧ v = (nI n, nI (td_N n), far, law, lst) ∧ td_W n q b la far law R D
theorem i_up {k : Nat} {u : SX} {v : SY} (h : i_Rel k u v) : i_Rel (k + 4) u v := h
theorem rl_mk {k n : Nat} {q b : Int64} {la ta fa far law lst : Nat → Int32} {R D : Nat → Nat} (h : td_W n q b la far law R D) : i_Rel k (nI n, q, b, la, ta, fa) (nI n, nI (td_N n), far, law, lst) := ⟨n, q, b, la, ta, fa, far, law, lst, R, D, rfl, rfl, h⟩
/-! the constructors -/
theorem rl_cl (x : Int32) (lo hi : Nat) (h : lo ≤ hi) (hh : hi < 2 ^ 31) : ∃ m, lo ≤ m ∧ m ≤ hi ∧ ∀ post : Int32 → Prop, post (nI m) → wpX_clamp post x (nI lo) (nI hi) := by
  by_cases h1 : nI lo ≤ x
  · by_cases h2 : x ≤ nI hi
    · have h0 : ¬ x < 0 := Int32.not_lt.mpr (Int32.le_trans (nI_pos' (by omega)) h1)
      obtain ⟨m, hm, rfl⟩ := nI_of h0
      rw [nI_leI (by omega) hm] at h1
      rw [nI_leI hm (by omega)] at h2
      exact ⟨m, h1, h2, fun post hp => br_t (nI_le h1 (by omega)) (br_t (nI_le h2 (by omega)) hp)⟩
    · exact ⟨hi, h, Nat.le_refl _, fun post hp => br_t h1 (br_f h2 hp)⟩
  · exact ⟨lo, Nat.le_refl _, h, fun post hp => br_f h1 hp⟩
theorem rl_x60 {post : SX → Prop} {d : Int32} {n : Int32} {q b : Int64} {ta fa : Nat → Int32} (h : ∀ la, (∀ s, s < 49 → la s = d) → post (n, q, b, la, ta, fa)) : ∀ e i (la : Nat → Int32), i + e = 49 → (∀ s, s < i → la s = d) → wX_init_60 post d n q b (e + 1) (nI i) la ta fa := by
  intro e
  induction e with
  | zero =>
    intro i la hi hl
    have e : i = 49 := by omega
    subst e
    exact br_t (Int32.le_refl _) (h la hl)
  | succ e ih =>
    intro i la hi hl
    refine br_f (nI_ge (b := 49) (by omega) (by decide)) ⟨vp_in_nI (by omega) (by omega), nm_e (nm_r (nI_1 i) (ih (i + 1) _ (by omega) fun s hs => ?_))⟩
    rw [nI_clamp (by omega)]
    by_cases e : s = i
    · rw [e, pk_us]
    · rw [pk_un e, hl s (by omega)]
theorem rl_y106 {post : SY → Prop} {n : Nat} {far law lst : Nat → Int32} (h7 : n ≤ 7) (h : post (nI n, nI (td_N n), far, law, lst)) : ∀ e i, i + e = n → 1 ≤ i → wY_init_106 post (nI n) far law lst (e + 1) (nI i) (nI (td_f (i - 1))) := by
  intro e
  induction e with
  | zero =>
    intro i hi _
    have e : i = n := by omega
    subst e
    exact br_t (Int32.le_refl _) h
  | succ e ih =>
    intro i hi h1
    refine br_f (nI_ge (by omega) (by omega)) (nm_r (e' := nI (td_f (i + 1 - 1))) ?_ (nm_r (nI_1 i) (ih (i + 1) (by omega) (by omega))))
    obtain ⟨j, rfl⟩ : ∃ j, i = j + 1 := ⟨i - 1, by omega⟩
    rw [pk_mul]
    exact congrArg nI (Nat.mul_comm _ _)
theorem rl_y77 {post : SY → Prop} {d : Int32} {n : Nat} {T : Int32} {law lst : Nat → Int32} (h3 : 3 ≤ n) (h7 : n ≤ 7) (h : ∀ far, (∀ s, s < 49 → far s = d) → post (nI n, nI (td_N n), far, law, lst)) : ∀ e i (far : Nat → Int32), i + e = 49 → (∀ s, s < i → far s = d) → wY_init_77 post d (nI n) T (e + 1) (nI i) far law lst := by
  intro e
  induction e with
  | zero =>
    intro i far hi hl
    have e : i = 49 := by omega
    subst e
    exact br_t (Int32.le_refl _) ⟨n - 2 + 1, rl_y106 h7 (h far hl) (n - 2) 2 (by omega) (by omega)⟩
  | succ e ih =>
    intro i far hi hl
    refine br_f (nI_ge (b := 49) (by omega) (by decide)) ⟨vp_in_nI (by omega) (by omega), nm_e (nm_r (nI_1 i) (ih (i + 1) _ (by omega) fun s hs => ?_))⟩
    rw [nI_clamp (by omega)]
    by_cases e : s = i
    · rw [e, pk_us]
    · rw [pk_un e, hl s (by omega)]
theorem i_vc0 (k0 : Int32) (k1 : Int32) : wpX_init (fun u => wpY_init (fun v => i_Rel 2 u v) k0 k1) k0 k1 := by
  obtain ⟨n, h3, h7, hn⟩ := rl_cl k0 3 7 (by decide) (by decide)
  obtain ⟨d, _, h99, hd⟩ := rl_cl k1 0 99 (by decide) (by decide)
  unfold wpX_init
  refine hn _ (hd _ ⟨50, rl_x60 (fun la hla => ?_) 49 0 _ (by omega) (fun s hs => absurd hs (Nat.not_lt_zero s))⟩)
  refine hn (fun m => wY_init_50 _ k1 m 0 0 (fun _ => 0) (fun _ => 0) (fun _ => 0)) ?_
  refine hd (fun m => ∃ n77, wY_init_77 _ m (nI n) 0 n77 0 (fun _ => 0) (fun _ => 0) (fun _ => 0)) ⟨50, rl_y77 h3 h7 (fun far hfa => ?_) 49 0 _ (by omega) (fun s hs => absurd hs (Nat.not_lt_zero s))⟩
  refine rl_mk (R := fun _ => 0) (D := fun _ => d) ⟨h3, h7, fun a c ha hc _ => ⟨hla _ (td_slt (by omega) (by omega)), h99⟩, fun a c ha hc _ => hfa _ (by omega), fun a c ha hc _ => ⟨rfl, Nat.zero_le 2⟩, fun s z => absurd rfl z, fun s _ => ?_, fun s _ => ?_⟩
  · rw [lb_0]; rfl
  · rw [lb_0]; rfl
/-! what a change of one link does -/
theorem rl_val {n a c : Nat} (h7 : n ≤ 7) (ha : a < n) (hc : c < n) (hd : a ≠ c) : td_s a c / 7 < td_s a c % 7 ∧ td_s a c % 7 < n := by
  rw [td_s]
  split <;> omega
theorem rl_up2 {f : Nat → Int32} {x : Int32} {a c a' c' : Nat} (ha : a < 7) (hc : c < 7) (ha' : a' < 7) (hc' : c' < 7) : upd (upd f (a * 7 + c) x) (c * 7 + a) x (a' * 7 + c') = if td_s a' c' = td_s a c then x else f (a' * 7 + c') := by
  by_cases e : td_s a' c' = td_s a c
  · rw [if_pos e]
    rcases td_sinj ha' hc' ha hc e with ⟨z1, z2⟩ | ⟨z1, z2⟩
    · subst z1 z2
      by_cases e2 : a' * 7 + c' = c' * 7 + a'
      · rw [e2, pk_us]
      · rw [pk_un e2, pk_us]
    · subst z1 z2
      rw [pk_us]
  · rw [if_neg e]
    have e1 : a' * 7 + c' ≠ c * 7 + a := by
      intro z
      have z1 : a' = c := by omega
      have z2 : c' = a := by omega
      exact e (by rw [z1, z2, td_ssy])
    have e2 : a' * 7 + c' ≠ a * 7 + c := by
      intro z
      have z1 : a' = a := by omega
      have z2 : c' = c := by omega
      exact e (by rw [z1, z2])
    rw [pk_un e1, pk_un e2]
def td_st (D : Nat → Nat) (s d : Nat) : Nat → Nat := fun j => if j = s then d else D j
theorem rl_setL {n : Nat} {q b : Int64} {la far law : Nat → Int32} {R D : Nat → Nat} (h : td_W n q b la far law R D) {a c d : Nat} (ha : a < n) (hc : c < n) (hd : a ≠ c) (h99 : d ≤ 99) : td_W n q b (upd la (td_s a c) (nI d)) (upd (upd far (a * 7 + c) (nI d)) (c * 7 + a) (nI d)) law R (td_st D (td_s a c) d) := by
  obtain ⟨h3, h7, hL, hF, hR, hV, hQ, hB⟩ := h
  refine ⟨h3, h7, fun x y hx hy hxy => ?_, fun x y hx hy hxy => ?_, hR, hV, hQ, hB⟩
  · rw [td_st]
    by_cases e : td_s x y = td_s a c
    · rw [e, pk_us, if_pos rfl]; exact ⟨rfl, h99⟩
    · rw [pk_un e, if_neg e]; exact hL x y hx hy hxy
  · rw [rl_up2 (by omega) (by omega) (by omega) (by omega), td_st]
    by_cases e : td_s x y = td_s a c
    · rw [if_pos e, if_pos e]
    · rw [if_neg e, if_neg e]; exact hF x y hx hy hxy
section
variable {n : Nat} {q b : Int64} {la ta fa far law lst : Nat → Int32} {T : Int32}
theorem xm_setL1 {post : Int32 → SX → Prop} {a c d : Nat} (h7 : n ≤ 7) (ha : a < n) (hc : c < n) (hd : a ≠ c) (h99 : d ≤ 99) (h : post 1 (nI n, q, b, upd la (td_s a c) (nI d), ta, fa)) : wpX_setLength post (nI n, q, b, la, ta, fa) (nI a) (nI c) (nI d) := by
  have hs : td_s a c < 49 := td_slt (by omega) (by omega)
  unfold wpX_setLength
  dsimp only
  refine xs_link1 h7 ha hc hd ?_
  refine br_f (by decide) ?_
  refine xs_len1 h99 ?_
  refine br_f (by decide) ?_
  refine xs_slot (by omega) (by omega) ?_
  refine ⟨vp_in_nI hs (by omega), nm_e ?_⟩
  rw [nI_clamp (by omega)]
  exact h
theorem xm_setL0 {post : Int32 → SX → Prop} {x y z : Int32} (h7 : n ≤ 7) (hx : (¬ ∃ a c, a < n ∧ c < n ∧ a ≠ c ∧ x = nI a ∧ y = nI c) ∨ ¬ ∃ d, d ≤ 99 ∧ z = nI d) (h : post 0 (nI n, q, b, la, ta, fa)) : wpX_setLength post (nI n, q, b, la, ta, fa) x y z := by
  unfold wpX_setLength
  dsimp only
  by_cases hl : ∃ a c, a < n ∧ c < n ∧ a ≠ c ∧ x = nI a ∧ y = nI c
  · rcases hx with hx | hx
    · exact absurd hl hx
    · obtain ⟨a, c, ha, hc, hd, rfl, rfl⟩ := hl
      refine xs_link1 h7 ha hc hd ?_
      refine br_f (by decide) ?_
      refine xs_len0 hx ?_
      exact br_t rfl h
  · refine xs_link0 h7 hl ?_
    exact br_t rfl h
theorem ym_setL1 {post : Int32 → SY → Prop} {a c d : Nat} (h7 : n ≤ 7) (ha : a < n) (hc : c < n) (hd : a ≠ c) (h99 : d ≤ 99) (h : post 1 (nI n, T, upd (upd far (a * 7 + c) (nI d)) (c * 7 + a) (nI d), law, lst)) : wpY_setLength post (nI n, T, far, law, lst) (nI a) (nI c) (nI d) := by
  unfold wpY_setLength
  dsimp only
  refine ys_link1 h7 ha hc hd ?_
  refine br_f (by decide) (br_f (nI_pos (by omega)) (br_t (nI_le (b := 99) h99 (by decide)) ?_))
  rw [td_7, td_7]
  refine ⟨vp_in_nI (by omega) (by omega), nm_e ⟨vp_in_nI (by omega) (by omega), nm_e ?_⟩⟩
  rw [nI_clamp (by omega), nI_clamp (by omega)]
  exact h
theorem ym_setL0 {post : Int32 → SY → Prop} {x y z : Int32} (h7 : n ≤ 7) (hx : (¬ ∃ a c, a < n ∧ c < n ∧ a ≠ c ∧ x = nI a ∧ y = nI c) ∨ ¬ ∃ d, d ≤ 99 ∧ z = nI d) (h : post 0 (nI n, T, far, law, lst)) : wpY_setLength post (nI n, T, far, law, lst) x y z := by
  unfold wpY_setLength
  dsimp only
  by_cases hl : ∃ a c, a < n ∧ c < n ∧ a ≠ c ∧ x = nI a ∧ y = nI c
  · rcases hx with hx | hx
    · exact absurd hl hx
    · obtain ⟨a, c, ha, hc, hd, rfl, rfl⟩ := hl
      refine ys_link1 h7 ha hc hd ?_
      refine br_f (by decide) (br_c (fun _ => h) (fun h0 => br_c (fun h1 => ?_) (fun _ => h)))
      obtain ⟨d, hd2, e⟩ := nI_of2 (M := 99) (n := 99) (by decide) h0 h1
      exact absurd ⟨d, hd2, e⟩ hx
  · refine ys_link0 h7 hl ?_
    exact br_t rfl h
end
theorem i_vc_setLength {k : Nat} {u : SX} {v : SY} (I : i_Rel k u v) (hk : k + 4 ≤ 2050) (v1 : Int32) (v2 : Int32) (v3 : Int32) : wpX_setLength (fun r u' => wpY_setLength (fun r' v' => r' = r ∧ i_Rel (k + 4) u' v') v v1 v2 v3) u v1 v2 v3 := by
  obtain ⟨n, q, b, la, ta, fa, far, law, lst, R, D, rfl, rfl, h⟩ := I
  have h7 := h.2.1
  by_cases hl : (∃ a c, a < n ∧ c < n ∧ a ≠ c ∧ v1 = nI a ∧ v2 = nI c) ∧ ∃ d, d ≤ 99 ∧ v3 = nI d
  · obtain ⟨⟨a, c, ha, hc, hd, rfl, rfl⟩, d, h99, rfl⟩ := hl
    refine xm_setL1 h7 ha hc hd h99 ?_
    refine ym_setL1 h7 ha hc hd h99 ?_
    exact ⟨rfl, rl_mk (rl_setL h ha hc hd h99)⟩
  · have hx : (¬ ∃ a c, a < n ∧ c < n ∧ a ≠ c ∧ v1 = nI a ∧ v2 = nI c) ∨ ¬ ∃ d, d ≤ 99 ∧ v3 = nI d := Classical.not_and_iff_not_or_not.mp hl
    refine xm_setL0 h7 hx ?_
    refine ym_setL0 h7 hx ?_
    exact ⟨rfl, rl_mk h⟩
theorem rl_setR {n : Nat} {q b q' b' : Int64} {la far law : Nat → Int32} {R D : Nat → Nat} (h : td_W n q b la far law R D) {a c r : Nat} (ha : a < n) (hc : c < n) (hd : a ≠ c) (h2 : r ≤ 2)
    (hq : ∀ s, s < 64 → lb_t q' s = if s = td_s a c then decide (r = 1) else lb_t q s) (hb : ∀ s, s < 64 → lb_t b' s = if s = td_s a c then decide (r = 2) else lb_t b s) : td_W n q' b' la far (upd (upd law (a * 7 + c) (nI r)) (c * 7 + a) (nI r)) (td_st R (td_s a c) r) D := by
  obtain ⟨h3, h7, hL, hF, hR, hV, hQ, hB⟩ := h
  refine ⟨h3, h7, hL, hF, fun x y hx hy hxy => ?_, fun s hs => ?_, fun s hs => ?_, fun s hs => ?_⟩
  · rw [rl_up2 (by omega) (by omega) (by omega) (by omega), td_st]
    by_cases e : td_s x y = td_s a c
    · rw [if_pos e, if_pos e]; exact ⟨rfl, h2⟩
    · rw [if_neg e, if_neg e]; exact hR x y hx hy hxy
  · rw [td_st] at hs
    by_cases e : s = td_s a c
    · rw [e]; exact rl_val h7 ha hc hd
    · rw [if_neg e] at hs; exact hV s hs
  · rw [hq s hs, td_st]
    by_cases e : s = td_s a c
    · rw [if_pos e, if_pos e]
    · rw [if_neg e, if_neg e, hQ s hs]
  · rw [hb s hs, td_st]
    by_cases e : s = td_s a c
    · rw [if_pos e, if_pos e]
    · rw [if_neg e, if_neg e, hB s hs]
theorem rl_clr {q : Int64} {k s : Nat} (hk : k < 64) (hs : s < 64) : lb_t (q &&& (((1 : Int64) <<< ((nI k).toInt64 &&& 63)) ^^^ (-1))) s = if s = k then false else lb_t q s := by
  rw [lb_and, lb_xor, lb_sh hk hs, lb_m1 s hs]
  by_cases e : s = k
  · rw [if_pos e, decide_eq_true e]; exact Bool.and_false _
  · rw [if_neg e, decide_eq_false e]; exact Bool.and_true _
theorem rl_set {q : Int64} {k s : Nat} (hk : k < 64) (hs : s < 64) : lb_t ((q &&& (((1 : Int64) <<< ((nI k).toInt64 &&& 63)) ^^^ (-1))) ||| ((1 : Int64) <<< ((nI k).toInt64 &&& 63))) s = if s = k then true else lb_t q s := by
  rw [lb_or, rl_clr hk hs, lb_sh hk hs]
  by_cases e : s = k
  · rw [if_pos e, if_pos e, decide_eq_true e]; rfl
  · rw [if_neg e, if_neg e, decide_eq_false e, Bool.or_false]
section
variable {n : Nat} {q b : Int64} {la ta fa far law lst : Nat → Int32} {T : Int32}
theorem xm_setR1 {post : Int32 → SX → Prop} {a c r : Nat} (h7 : n ≤ 7) (ha : a < n) (hc : c < n) (hd : a ≠ c) (hr : r ≤ 2) (h : ∀ q' b' : Int64, (∀ s, s < 64 → lb_t q' s = if s = td_s a c then decide (r = 1) else lb_t q s) → (∀ s, s < 64 → lb_t b' s = if s = td_s a c then decide (r = 2) else lb_t b s) → post 1 (nI n, q', b', la, ta, fa)) : wpX_setRule post (nI n, q, b, la, ta, fa) (nI a) (nI c) (nI r) := by
  have hs : td_s a c < 49 := td_slt (by omega) (by omega)
  unfold wpX_setRule
  dsimp only
  refine xs_link1 h7 ha hc hd ?_
  refine br_f (by decide) (br_f (nI_pos (by omega)) (br_t (nI_le (b := 2) hr (by decide)) ?_))
  refine xs_slot (by omega) (by omega) ?_
  refine nm_e (nm_e (nm_e ?_))
  refine pk_eq r 1 (fun e1 => nm_e ?_) (fun e1 => pk_eq r 2 (fun e2 => nm_e ?_) (fun e2 => ?_))
  · refine h _ _ (fun s hs2 => ?_) (fun s hs2 => ?_)
    · rw [rl_set (by omega) hs2, decide_eq_true e1]
    · rw [rl_clr (by omega) hs2, decide_eq_false (by omega)]
  · refine h _ _ (fun s hs2 => ?_) (fun s hs2 => ?_)
    · rw [rl_clr (by omega) hs2, decide_eq_false (by omega)]
    · rw [rl_set (by omega) hs2, decide_eq_true e2]
  · refine h _ _ (fun s hs2 => ?_) (fun s hs2 => ?_)
    · rw [rl_clr (by omega) hs2, decide_eq_false (by omega)]
    · rw [rl_clr (by omega) hs2, decide_eq_false (by omega)]
theorem xm_setR0 {post : Int32 → SX → Prop} {x y z : Int32} (h7 : n ≤ 7) (hx : (¬ ∃ a c, a < n ∧ c < n ∧ a ≠ c ∧ x = nI a ∧ y = nI c) ∨ ¬ ∃ d, d ≤ 2 ∧ z = nI d) (h : post 0 (nI n, q, b, la, ta, fa)) : wpX_setRule post (nI n, q, b, la, ta, fa) x y z := by
  unfold wpX_setRule
  dsimp only
  by_cases hl : ∃ a c, a < n ∧ c < n ∧ a ≠ c ∧ x = nI a ∧ y = nI c
  · rcases hx with hx | hx
    · exact absurd hl hx
    · obtain ⟨a, c, ha, hc, hd, rfl, rfl⟩ := hl
      refine xs_link1 h7 ha hc hd ?_
      refine br_f (by decide) (br_c (fun _ => h) (fun h0 => br_c (fun h1 => ?_) (fun _ => h)))
      obtain ⟨d, hd2, e⟩ := nI_of2 (M := 2) (n := 2) (by decide) h0 h1
      exact absurd ⟨d, hd2, e⟩ hx
  · refine xs_link0 h7 hl ?_
    exact br_t rfl h
theorem ym_setR1 {post : Int32 → SY → Prop} {a c d : Nat} (h7 : n ≤ 7) (ha : a < n) (hc : c < n) (hd : a ≠ c) (h99 : d ≤ 2) (h : post 1 (nI n, T, far, upd (upd law (a * 7 + c) (nI d)) (c * 7 + a) (nI d), lst)) : wpY_setRule post (nI n, T, far, law, lst) (nI a) (nI c) (nI d) := by
  unfold wpY_setRule
  dsimp only
  refine ys_link1 h7 ha hc hd ?_
  refine br_f (by decide) (br_f (nI_pos (by omega)) (br_t (nI_le (b := 2) h99 (by decide)) ?_))
  rw [td_7, td_7]
  refine ⟨vp_in_nI (by omega) (by omega), nm_e ⟨vp_in_nI (by omega) (by omega), nm_e ?_⟩⟩
  rw [nI_clamp (by omega), nI_clamp (by omega)]
  exact h
theorem ym_setR0 {post : Int32 → SY → Prop} {x y z : Int32} (h7 : n ≤ 7) (hx : (¬ ∃ a c, a < n ∧ c < n ∧ a ≠ c ∧ x = nI a ∧ y = nI c) ∨ ¬ ∃ d, d ≤ 2 ∧ z = nI d) (h : post 0 (nI n, T, far, law, lst)) : wpY_setRule post (nI n, T, far, law, lst) x y z := by
  unfold wpY_setRule
  dsimp only
  by_cases hl : ∃ a c, a < n ∧ c < n ∧ a ≠ c ∧ x = nI a ∧ y = nI c
  · rcases hx with hx | hx
    · exact absurd hl hx
    · obtain ⟨a, c, ha, hc, hd, rfl, rfl⟩ := hl
      refine ys_link1 h7 ha hc hd ?_
      refine br_f (by decide) (br_c (fun _ => h) (fun h0 => br_c (fun h1 => ?_) (fun _ => h)))
      obtain ⟨d, hd2, e⟩ := nI_of2 (M := 2) (n := 2) (by decide) h0 h1
      exact absurd ⟨d, hd2, e⟩ hx
  · refine ys_link0 h7 hl ?_
    exact br_t rfl h
end
theorem i_vc_setRule {k : Nat} {u : SX} {v : SY} (I : i_Rel k u v) (hk : k + 4 ≤ 2050) (v1 : Int32) (v2 : Int32) (v3 : Int32) : wpX_setRule (fun r u' => wpY_setRule (fun r' v' => r' = r ∧ i_Rel (k + 4) u' v') v v1 v2 v3) u v1 v2 v3 := by
  obtain ⟨n, q, b, la, ta, fa, far, law, lst, R, D, rfl, rfl, h⟩ := I
  have h7 := h.2.1
  by_cases hl : (∃ a c, a < n ∧ c < n ∧ a ≠ c ∧ v1 = nI a ∧ v2 = nI c) ∧ ∃ d, d ≤ 2 ∧ v3 = nI d
  · obtain ⟨⟨a, c, ha, hc, hd, rfl, rfl⟩, d, h99, rfl⟩ := hl
    refine xm_setR1 h7 ha hc hd h99 fun q' b' hq hb => ?_
    refine ym_setR1 h7 ha hc hd h99 ?_
    exact ⟨rfl, rl_mk (rl_setR h ha hc hd h99 hq hb)⟩
  · have hx : (¬ ∃ a c, a < n ∧ c < n ∧ a ≠ c ∧ v1 = nI a ∧ v2 = nI c) ∨ ¬ ∃ d, d ≤ 2 ∧ v3 = nI d := Classical.not_and_iff_not_or_not.mp hl
    refine xm_setR0 h7 hx ?_
    refine ym_setR0 h7 hx ?_
    exact ⟨rfl, rl_mk h⟩
