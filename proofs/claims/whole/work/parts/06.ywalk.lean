section
variable {n : Nat} {T : Int32} {far law lst : Nat → Int32}
theorem ys_link1 {post : Int32 → Prop} {x y : Nat} (h7 : n ≤ 7) (hx : x < n) (hy : y < n) (hd : x ≠ y) (h : post 1) : wpY_link post (nI n, T, far, law, lst) (nI x) (nI y) := by
  have hne : ¬ nI x = nI y := by rw [nI_eq (by omega) (by omega)]; exact hd
  exact br_f (nI_pos (by omega)) (br_f (nI_ge hx (by omega)) (br_f (nI_pos (by omega)) (br_f (nI_ge hy (by omega)) (br_f hne h))))
theorem ys_link0 {post : Int32 → Prop} {x y : Int32} (h7 : n ≤ 7) (hx : ¬ ∃ a c, a < n ∧ c < n ∧ a ≠ c ∧ x = nI a ∧ y = nI c) (h : post 0) : wpY_link post (nI n, T, far, law, lst) x y := by
  refine br_c (fun _ => h) (fun h1 => br_c (fun _ => h) (fun h2 => br_c (fun _ => h) (fun h3 => br_c (fun _ => h) (fun h4 => br_c (fun _ => h) (fun h5 => ?_)))))
  rcases pk_ix x (n := n) (by omega) with e | e | ⟨a, ha, rfl⟩
  · exact absurd e h1
  · exact absurd e h2
  · rcases pk_ix y (n := n) (by omega) with e | e | ⟨c, hc, rfl⟩
    · exact absurd e h3
    · exact absurd e h4
    · exact absurd ⟨a, c, ha, hc, fun e => h5 (by rw [e]), rfl, rfl⟩ hx
/-! spelling a tour out -/
theorem ys_bit : ∀ l, l < 128 → ∀ c, c < 7 → (nI l >>> (nI c &&& 31)) &&& 1 = nI (l / 2 ^ c % 2) := by decide +kernel
theorem ys_clr : ∀ l, l < 128 → ∀ c, c < 7 → nI l &&& (((1 : Int32) <<< (nI c &&& 31)) ^^^ (-1)) = nI (l &&& (127 - 2 ^ c)) := by decide +kernel
theorem ys_nth {post : Int32 → Prop} {l s : Nat} (hl : l < 128) (hs : s < 2 ^ 30) (h : post (nI (td_np l s 7 0))) : wpY_nth post (nI n, T, far, law, lst) (nI l) (nI s) := by
  have key : ∀ d less, d ≤ 7 → less + d ≤ 7 → post (nI (td_np l s d less)) → wY_nth_5 post (nI l) (nI s) (nI n) T far law lst (d + 1) (nI less) (nI (7 - d)) := by
    intro d
    induction d with
    | zero =>
      intro less _ _ hp
      exact br_t (Int32.le_refl _) hp
    | succ d ih =>
      intro less hd hle hp
      refine br_f (nI_ge (b := 7) (by omega) (by decide)) ?_
      rw [ys_bit l hl (7 - (d + 1)) (by omega)]
      have e : 7 - (d + 1) = 6 - d := by omega
      have e2 : 6 - d + 1 = 7 - d := by omega
      rw [td_np] at hp
      rw [e]
      refine pk_eq (l / 2 ^ (6 - d) % 2) 1 (fun h1 => ?_) (fun h1 => ?_)
      · rw [if_pos h1] at hp
        refine pk_eq less s (fun h2 => ?_) (fun h2 => ?_)
        · rw [if_pos h2] at hp; exact hp
        · rw [if_neg h2] at hp
          exact nm_r (nI_1 less) (nm_r ((nI_1 _).trans (congrArg nI e2)) (ih (less + 1) (by omega) (by omega) hp))
      · rw [if_neg h1] at hp
        exact nm_r ((nI_1 _).trans (congrArg nI e2)) (ih less (by omega) (by omega) hp)
  exact ⟨8, key 7 0 (by omega) (by omega) h⟩
theorem ys_pw : ∀ m, m < 8 → ((1 : Int32) <<< (nI m &&& 31)) = nI (2 ^ m) := by decide +kernel
theorem ys_spell {post : SY → Prop} {t : Nat} (h3 : 3 ≤ n) (h7 : n ≤ 7) (ht : t < td_N n) (h : ∀ lst', (∀ k, k < n → lst' k = nI (td_T n t k)) → post (nI n, nI (td_N n), far, law, lst')) : wpY_spell post (nI n, nI (td_N n), far, law, lst) (nI t) := by
  have hN := td_Nle h3 h7
  have key : ∀ d k (lst : Nat → Int32), k + d = n → 1 ≤ k → (∀ j, j < k → lst j = nI (td_T n t j)) → wY_spell_27 post (nI n) (nI (td_N n)) (d + 1) (nI (t % td_f (n - k))) (nI (td_f (n - k))) (nI (td_lf n t k)) (nI k) far law lst := by
    intro d
    induction d with
    | zero =>
      intro k lst hk h1 hl
      have e : k = n := by omega
      subst e
      exact br_t (Int32.le_refl _) (h lst hl)
    | succ d ih =>
      intro k lst hk h1 hl
      obtain ⟨s1, s2, s3, s4⟩ := td_spell h3 h7 ht h1 (by omega : k < n)
      have hT := td_Tlt h3 h7 ht (by omega : k < n)
      have hf1 := td_f7 (n - k) (by omega)
      have hf2 := td_f7 (n - 1 - k) (by omega)
      have hp1 := td_fpos (n - k)
      have hp2 := td_fpos (n - 1 - k)
      have hr : t % td_f (n - k) < td_f (n - k) := Nat.mod_lt _ hp1
      have hq : t % td_f (n - k) / td_f (n - 1 - k) ≤ t % td_f (n - k) := Nat.div_le_self _ _
      have hd : nI (td_f (n - k)) / (nI n - nI k) = nI (td_f (n - 1 - k)) := by
        rw [pk_sub (by omega), pk_div (by omega) (by omega) (by omega), td_fdiv (by omega)]
      have hnz : ¬ (nI n - nI k) = 0 := by rw [pk_sub (by omega)]; exact nI_ne0 (by omega) (by omega)
      have hz : ¬ nI (td_f (n - 1 - k)) = 0 := nI_ne0 hp2 (by omega)
      have hle : ¬ nI (td_f (n - 1 - k)) ≤ 0 := nI_nle hp2 (by omega)
      refine br_f (nI_ge (by omega) (by omega)) (br_f (nI_ge (by omega) (by omega)) ⟨hnz, ?_⟩)
      rw [hd]
      unfold wY_spell_58
      refine br_f hle ⟨hz, ?_⟩
      rw [pk_div (by omega) hp2 (by omega)]
      unfold wY_spell_70
      refine br_f hle ⟨hz, ?_⟩
      rw [pk_rem (by omega) hp2 (by omega), s2]
      unfold wY_spell_83
      refine ys_nth s4 (by omega) ?_
      rw [s1]
      refine ⟨vp_in_nI (by omega) (by omega), nm_e (nm_r (e' := nI (td_lf n t (k + 1))) ?_ (nm_r (nI_1 k) ?_))⟩
      · rw [ys_clr _ s4 _ (by omega), s3]
      · have e : n - 1 - k = n - (k + 1) := by omega
        rw [e]
        refine ih (k + 1) _ (by omega) (by omega) fun j hj => ?_
        rw [nI_clamp (by omega)]
        by_cases e2 : j = k
        · rw [e2, pk_us]
        · rw [pk_un e2, hl j (by omega)]
  unfold wpY_spell
  refine nm_r (e' := nI (td_lf n t 1)) ?_ (nm_e ⟨n - 1 + 1, ?_⟩)
  · rw [ys_pw n (by omega)]
    have : (2 : Int32) = nI 2 := rfl
    have hp : 2 ≤ 2 ^ n := by
      have : 2 ^ 1 ≤ 2 ^ n := Nat.pow_le_pow_right (by decide) (by omega)
      simpa using this
    rw [this, pk_sub hp, td_lf, td_lf, td_Tz h3 h7 ht]
    rfl
  · have := key (n - 1) 1 (upd lst 0 0) (by omega) (Nat.le_refl 1) (fun j hj => by rw [show j = 0 by omega, pk_us, td_Tz h3 h7 ht]; rfl)
    have e : t % td_f (n - 1) = t := Nat.mod_eq_of_lt ht
    rw [e] at this
    exact this
theorem ys_next {post : Int32 → Prop} {t k : Nat} (h7 : n ≤ 7) (hk : k < n) (hl : ∀ k, k < n → lst k = nI (td_T n t k)) (h : post (nI (td_n n t k))) : wpY_next post (nI n, T, far, law, lst) (nI k) := by
  unfold wpY_next
  dsimp only
  rw [nI_1 k]
  rw [td_n] at h
  refine pk_le n (k + 1) (fun h1 => ?_) (fun h1 => ⟨vp_in_nI (by omega) (by omega), ?_⟩)
  · rw [if_neg (by omega)] at h; exact h
  · rw [if_pos h1] at h
    rw [nI_clamp (by omega), hl _ h1]; exact h
theorem ys_cost {post : Int32 → Prop} {t : Nat} {D : Nat → Nat} (h3 : 3 ≤ n) (h7 : n ≤ 7) (ht : t < td_N n) (hl : ∀ k, k < n → lst k = nI (td_T n t k))
    (hF : ∀ a c, a < n → c < n → a ≠ c → far (a * 7 + c) = nI (D (td_s a c))) (h : post (nI (td_co n D t))) : wpY_cost post (nI n, T, far, law, lst) := by
  have key : ∀ d i, i + d = n → wY_cost_4 post (nI n) T far law lst (d + 1) (nI (td_sm (fun k => D (td_l n t k)) i)) (nI i) := by
    intro d
    induction d with
    | zero =>
      intro i hi
      have e : i = n := by omega
      subst e
      exact br_t (Int32.le_refl _) h
    | succ d ih =>
      intro i hi
      have h1 := td_Tlt h3 h7 ht (by omega : i < n)
      have h2 := td_nlt h3 h7 ht (by omega : i < n)
      refine br_f (nI_ge (by omega) (by omega)) ⟨vp_in_nI (by omega) (by omega), ys_next h7 (by omega) hl ?_⟩
      rw [nI_clamp (by omega), hl i (by omega), td_7]
      refine ⟨vp_in_nI (by omega) (by omega), nm_r (e' := nI (td_sm (fun k => D (td_l n t k)) (i + 1))) ?_ (nm_r (nI_1 i) (ih (i + 1) (by omega)))⟩
      rw [nI_clamp (by omega), hF _ _ h1 h2 (td_adj h3 h7 ht (by omega)), nI_add]
      rfl
  exact ⟨n + 1, key n 0 (by omega)⟩
theorem ys_has {post : Int32 → Prop} {t a c : Nat} (h3 : 3 ≤ n) (h7 : n ≤ 7) (ht : t < td_N n) (hl : ∀ k, k < n → lst k = nI (td_T n t k)) (ha : a < n) (hc : c < n)
    (h : post (if a ≠ c ∧ td_lk n t (td_s a c) = true then 1 else 0)) : wpY_has post (nI n, T, far, law, lst) (nI a) (nI c) := by
  have key : ∀ d i, i + d = n → wY_has_5 post (nI a) (nI c) (nI n) T far law lst (d + 1) (if a ≠ c ∧ td_lx (td_l n t) i (td_s a c) = true then 1 else 0) (nI i) := by
    intro d
    induction d with
    | zero =>
      intro i hi
      have e : i = n := by omega
      subst e
      refine br_t (Int32.le_refl _) ⟨?_, h⟩
      split <;> rfl
    | succ d ih =>
      intro i hi
      have h1 := td_Tlt h3 h7 ht (by omega : i < n)
      have h2 := td_nlt h3 h7 ht (by omega : i < n)
      have h4 := td_adj h3 h7 ht (by omega : i < n)
      have hi1 := ih (i + 1) (by omega)
      refine br_f (nI_ge (by omega) (by omega)) ⟨vp_in_nI (by omega) (by omega), nm_r (e' := nI (td_T n t i)) (by rw [nI_clamp (by omega), hl i (by omega)]) (ys_next h7 (by omega) hl ?_)⟩
      by_cases hx : a ≠ c ∧ td_lx (td_l n t) i (td_s a c) = true
      · have hx2 : a ≠ c ∧ td_lx (td_l n t) (i + 1) (td_s a c) = true := ⟨hx.1, by rw [td_lx, hx.2, Bool.true_or]⟩
        rw [if_pos hx2] at hi1
        rw [if_pos hx]
        exact br_f (by decide) (nm_r (nI_1 i) hi1)
      · rw [if_neg hx]
        refine br_t rfl ?_
        have yes : td_l n t i = td_s a c → a ≠ c → wY_has_5 post (nI a) (nI c) (nI n) T far law lst (d + 1) 1 (nI (i + 1)) := by
          intro e hd
          rw [if_pos ⟨hd, by rw [td_lx, decide_eq_true e.symm, Bool.or_true]⟩] at hi1
          exact hi1
        have no : ¬ (td_l n t i = td_s a c ∧ a ≠ c) → wY_has_5 post (nI a) (nI c) (nI n) T far law lst (d + 1) 0 (nI (i + 1)) := by
          intro e
          have : ¬ (a ≠ c ∧ td_lx (td_l n t) (i + 1) (td_s a c) = true) := by
            intro ⟨z1, z2⟩
            rw [td_lx, Bool.or_eq_true, decide_eq_true_eq] at z2
            rcases z2 with z2 | z2
            · exact hx ⟨z1, z2⟩
            · exact e ⟨z2.symm, z1⟩
          rw [if_neg this] at hi1
          exact hi1
        have s47 : ¬ (td_T n t i = a ∧ td_n n t i = c) → wY_has_47 post (wY_has_5 post (nI a) (nI c) (nI n) T far law lst (d + 1)) (nI a) (nI c) (nI i) (nI (td_T n t i)) (nI (td_n n t i)) (nI n) T far law lst := by
          intro hno
          unfold wY_has_47
          refine pk_eq _ _ (fun e1 => pk_eq _ _ (fun e2 => nm_r (nI_1 i) (yes ?_ ?_)) (fun e2 => nm_r (nI_1 i) (no ?_))) (fun e1 => nm_r (nI_1 i) (no ?_))
          · rw [td_l, e1, e2, td_ssy]
          · omega
          · intro ⟨z1, z2⟩
            rcases td_sinj (by omega) (by omega) (by omega) (by omega) z1 with z | z
            · exact hno z
            · exact e2 z.2
          · intro ⟨z1, z2⟩
            rcases td_sinj (by omega) (by omega) (by omega) (by omega) z1 with z | z
            · exact hno z
            · exact e1 z.1
        refine pk_eq _ _ (fun e1 => pk_eq _ _ (fun e2 => nm_r (nI_1 i) (yes ?_ ?_)) (fun e2 => s47 (fun z => e2 z.2))) (fun e1 => s47 (fun z => e1 z.1))
        · rw [td_l, e1, e2]
        · omega
  have := key n 0 (by omega)
  rw [if_neg (by rw [td_lx]; exact fun z => Bool.noConfusion z.2)] at this
  exact ⟨n + 1, this⟩
end
