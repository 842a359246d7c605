section
variable {n : Nat} {T : Int32} {far law lst : Nat → Int32}
theorem ys_allowed {post : Int32 → Prop} {t : Nat} {R : Nat → Nat} (h3 : 3 ≤ n) (h7 : n ≤ 7) (ht : t < td_N n) (hl : ∀ k, k < n → lst k = nI (td_T n t k))
    (hR : ∀ a c, a < n → c < n → a ≠ c → law (a * 7 + c) = nI (R (td_s a c)) ∧ R (td_s a c) ≤ 2) (h : post (if td_ok n R t = true then 1 else 0)) : wpY_allowed post (nI n, T, far, law, lst) := by
  have bb : td_ba n R t ≤ n * 1 := td_sml fun k _ => by split <;> omega
  have bk : td_ke n R t ≤ n * 1 := td_sml fun k _ => by split <;> omega
  have bd : td_du n R ≤ n * 7 := td_sml fun k hk => by
    have : td_sm (fun b => if R (td_s k b) = 1 then 1 else 0) k ≤ k * 1 := td_sml fun j _ => by split <;> omega
    omega
  have i87 : ∀ (J : Int32 → Int32 → Prop) (x1 x2 : Int32) (a E : Nat), a < n → J (nI (E + td_sm (fun b => if R (td_s a b) = 1 then 1 else 0) a)) (nI (a + 1)) → ∀ d i, i + d = a → wY_allowed_87 post J x1 x2 (nI a) (nI n) T far law lst (d + 1) (nI (E + td_sm (fun b => if R (td_s a b) = 1 then 1 else 0) i)) (nI i) := by
    intro J x1 x2 a E ha hJ d
    induction d with
    | zero =>
      intro i hi
      have e : i = a := by omega
      subst e
      exact br_t (Int32.le_refl _) (nm_r (nI_1 i) hJ)
    | succ d ih =>
      intro i hi
      have hr := hR a i ha (by omega) (by omega)
      have hi1 := ih (i + 1) (by omega)
      rw [td_sm] at hi1
      refine br_f (nI_ge (by omega) (by omega)) ?_
      rw [td_7 a i]
      refine ⟨vp_in_nI (by omega) (by omega), ?_⟩
      rw [nI_clamp (by omega), hr.1]
      refine pk_eq _ 1 (fun e => nm_r (nI_1 _) (nm_r (nI_1 i) ?_)) (fun e => nm_r (Int32.add_zero _) (nm_r (nI_1 i) ?_))
      · rw [if_pos e] at hi1; exact hi1
      · rw [if_neg e] at hi1; exact hi1
  have i75 : ∀ d a, a + d = n → wY_allowed_75 post (nI (td_ba n R t)) (nI (td_ke n R t)) (nI n) T far law lst (d + 1) (nI (td_sm (fun a => td_sm (fun b => if R (td_s a b) = 1 then 1 else 0) a) a)) (nI a) := by
    intro d
    induction d with
    | zero =>
      intro a ha
      have e : a = n := by omega
      subst e
      refine br_t (Int32.le_refl _) ?_
      rw [td_ok] at h
      refine pk_eq (td_ba a R t) 0 (fun e1 => pk_eq (td_ke a R t) (td_du a R) (fun e2 => ?_) (fun e2 => ?_)) (fun e1 => ?_)
      · rw [decide_eq_true e1, decide_eq_true e2] at h; exact h
      · rw [decide_eq_false e2, Bool.and_false] at h; exact h
      · rw [decide_eq_false e1, Bool.false_and] at h; exact h
    | succ d ih =>
      intro a ha
      refine br_f (nI_ge (by omega) (by omega)) ⟨a + 1, ?_⟩
      exact i87 _ _ _ a (td_sm (fun a => td_sm (fun b => if R (td_s a b) = 1 then 1 else 0) a) a) (by omega) (ih (a + 1) (by omega)) a 0 (by omega)
  have i6 : ∀ d i, i + d = n → wY_allowed_6 post (nI n) T far law lst (d + 1) (nI (td_sm (fun k => if R (td_l n t k) = 2 then 1 else 0) i)) (nI (td_sm (fun k => if R (td_l n t k) = 1 then 1 else 0) i)) (nI i) := by
    intro d
    induction d with
    | zero =>
      intro i hi
      have e : i = n := by omega
      subst e
      exact br_t (Int32.le_refl _) ⟨i + 1, i75 i 0 (by omega)⟩
    | succ d ih =>
      intro i hi
      have h1 := td_Tlt h3 h7 ht (by omega : i < n)
      have h2 := td_nlt h3 h7 ht (by omega : i < n)
      have h4 := td_adj h3 h7 ht (by omega : i < n)
      have hr := hR _ _ h1 h2 h4
      have hi1 := ih (i + 1) (by omega)
      rw [td_sm, td_sm] at hi1
      refine br_f (nI_ge (by omega) (by omega)) ⟨vp_in_nI (by omega) (by omega), ys_next h7 (by omega) hl ?_⟩
      rw [nI_clamp (by omega), hl i (by omega), td_7]
      refine ⟨vp_in_nI (by omega) (by omega), nm_r (e' := nI (R (td_l n t i))) (by rw [nI_clamp (by omega), hr.1]; rfl) ?_⟩
      have hr2 : R (td_l n t i) ≤ 2 := hr.2
      refine pk_eq _ 2 (fun e1 => ?_) (fun e1 => ?_)
      · unfold wY_allowed_48
        rw [if_pos e1, if_neg (by omega)] at hi1
        refine nm_r (nI_1 _) (br_f ?_ (nm_r (Int32.add_zero _) (nm_r (nI_1 i) hi1)))
        rw [e1]; decide
      · unfold wY_allowed_48
        rw [if_neg e1] at hi1
        refine nm_r (Int32.add_zero _) (pk_eq _ 1 (fun e2 => nm_r (nI_1 _) (nm_r (nI_1 i) ?_)) (fun e2 => nm_r (Int32.add_zero _) (nm_r (nI_1 i) ?_)))
        · rw [if_pos e2] at hi1; exact hi1
        · rw [if_neg e2] at hi1; exact hi1
  exact ⟨n + 1, i6 n 0 (by omega)⟩
theorem ys_least {post : Int32 → SY → Prop} {R D : Nat → Nat} {P : Nat → Bool} {a c w : Nat} (h3 : 3 ≤ n) (h7 : n ≤ 7) (ha : a < n) (hc : c < n) (hw : w < 3)
    (hR : ∀ a c, a < n → c < n → a ≠ c → law (a * 7 + c) = nI (R (td_s a c)) ∧ R (td_s a c) ≤ 2)
    (hF : ∀ a c, a < n → c < n → a ≠ c → far (a * 7 + c) = nI (D (td_s a c))) (hD : ∀ a c, a < n → c < n → a ≠ c → D (td_s a c) ≤ 99)
    (hP : ∀ t, t < td_N n → (P t = true ↔ (w = 2 ∨ ((a ≠ c ∧ td_lk n t (td_s a c) = true) ↔ w = 1)) ∧ td_ok n R t = true))
    (h : ∀ lst', post (td_md (td_mn P (td_co n D) (td_N n))) (nI n, nI (td_N n), far, law, lst')) : wpY_least post (nI n, nI (td_N n), far, law, lst) (nI a) (nI c) (nI w) := by
  have hN := td_Nle h3 h7
  have key : ∀ d t (lst : Nat → Int32), t + d = td_N n → wY_least_6 post (nI a) (nI c) (nI w) (d + 1) (td_md (td_mn P (td_co n D) t)) (nI t) (nI n) (nI (td_N n)) far law lst := by
    intro d
    induction d with
    | zero =>
      intro t lst ht
      have e : t = td_N n := by omega
      subst e
      exact br_t (Int32.le_refl _) (h lst)
    | succ d ih =>
      intro t lst ht
      have htN : t < td_N n := by omega
      refine br_f (nI_ge htN (by omega)) (br_f (nI_ge (b := 720) (by omega) (by decide)) (ys_spell h3 h7 htN fun lst' hl => ?_))
      have hi1 := ih (t + 1) lst' (by omega)
      have hmb := td_mnL (P := P) (t := t) h3 h7 (by omega) hD
      have hcb := td_coL h3 h7 htN hD
      have s53 : (P t = true ↔ td_ok n R t = true) → wY_least_53 post (wY_least_6 post (nI a) (nI c) (nI w) (d + 1)) (nI a) (nI c) (nI w) (td_md (td_mn P (td_co n D) t)) (nI t) (nI n) (nI (td_N n)) far law lst' := by
        intro hPo
        unfold wY_least_53
        refine ys_allowed h3 h7 htN hl hR ?_
        by_cases hp : td_ok n R t = true
        · rw [if_pos hp]
          rw [td_mn, if_pos (hPo.mpr hp)] at hi1
          refine br_f (by decide) (ys_cost h3 h7 htN hl hF ?_)
          cases hmm : td_mn P (td_co n D) t with
          | zero =>
            rw [hmm, if_pos (Or.inl rfl), td_mds] at hi1
            exact br_t (by rw [td_md0]; decide) (nm_r (nI_1 t) hi1)
          | succ e =>
            rw [hmm] at hi1
            rw [td_mds]
            refine br_f (nI_pos (by omega)) (pk_le _ _ (fun e1 => nm_r (nI_1 t) ?_) (fun e1 => nm_r (nI_1 t) ?_))
            · rw [if_neg (by omega), td_mds] at hi1; exact hi1
            · rw [if_pos (by omega), td_mds] at hi1; exact hi1
        · rw [if_neg hp]
          rw [td_mn, if_neg (fun z => hp (hPo.mp z))] at hi1
          exact br_t rfl (nm_r (nI_1 t) hi1)
      have sno : ¬ P t = true → wY_least_6 post (nI a) (nI c) (nI w) (d + 1) (td_md (td_mn P (td_co n D) t)) (nI (t + 1)) (nI n) (nI (td_N n)) far law lst' := by
        intro hp
        rw [td_mn, if_neg hp] at hi1
        exact hi1
      have hPt := hP t htN
      refine pk_eq w 2 (fun e => s53 ?_) (fun e => ys_has h3 h7 htN hl ha hc ?_)
      · rw [hPt]
        exact ⟨fun z => z.2, fun z => ⟨Or.inl e, z⟩⟩
      · by_cases hh : a ≠ c ∧ td_lk n t (td_s a c) = true
        · rw [if_pos hh]
          refine pk_eq w 1 (fun e1 => ?_) (fun e1 => ?_)
          · unfold wY_least_50
            refine br_t rfl (s53 ?_)
            rw [hPt]
            exact ⟨fun z => z.2, fun z => ⟨Or.inr ⟨fun _ => e1, fun _ => hh⟩, z⟩⟩
          · unfold wY_least_50
            refine br_f (by decide) (nm_r (nI_1 t) (sno ?_))
            rw [hPt]
            rintro ⟨z | z, _⟩
            · exact e z
            · exact e1 (z.mp hh)
        · rw [if_neg hh]
          refine pk_eq w 1 (fun e1 => ?_) (fun e1 => ?_)
          · unfold wY_least_50
            refine br_f (by decide) (nm_r (nI_1 t) (sno ?_))
            rw [hPt]
            rintro ⟨z | z, _⟩
            · exact e z
            · exact hh (z.mpr e1)
          · unfold wY_least_50
            refine br_t rfl (s53 ?_)
            rw [hPt]
            exact ⟨fun z => z.2, fun z => ⟨Or.inr ⟨fun z => absurd z hh, fun z => absurd z e1⟩, z⟩⟩
  exact ⟨td_N n + 1, key (td_N n) 0 lst (by omega)⟩
end
