section
variable {n : Nat} {q b nd fb : Int64} {la : Nat → Int32} {D : Nat → Nat} {P : Nat → Bool} {post : Int32 → SX → Prop}
theorem xs_least_l (h3 : 3 ≤ n) (h7 : n ≤ 7)
    (hL : ∀ a c, a < n → c < n → a ≠ c → la (td_s a c) = nI (D (td_s a c)) ∧ D (td_s a c) ≤ 99)
    (hP : ∀ t, t < td_N n → ∀ L : Int64, (∀ s, s < 64 → lb_t L s = td_lk n t s) → (P t = true ↔ (L &&& nd = nd ∧ L &&& fb = 0)))
    (h : ∀ ta' fa', (td_mn P (td_co n D) (td_N n) ≠ 0 → ∀ k, k < n → fa' k = nI (td_T n (td_ar P (td_co n D) (td_N n)) k)) → post (td_md (td_mn P (td_co n D) (td_N n))) (nI n, q, b, la, ta', fa')) :
    ∀ d t (ta fa : Nat → Int32) (x6 : Int32), t + d = td_N n → (t < td_N n → x6 = 1 ∧ ∀ k, k < n → ta k = nI (td_T n t k)) → (t = td_N n → x6 = 0) → (td_mn P (td_co n D) t ≠ 0 → ∀ k, k < n → fa k = nI (td_T n (td_ar P (td_co n D) t) k)) →
      wX_leastCost_13 post nd fb (d + 1) (td_md (td_mn P (td_co n D) t)) x6 (nI t) (nI n) q b la ta fa := by
  have hN := td_Nle h3 h7
  intro d
  induction d with
  | zero =>
    intro t ta fa x6 ht h1 h0 hk
    have e : t = td_N n := by omega
    rw [e] at hk ⊢
    exact br_c (fun _ => h ta fa hk) (fun _ => br_t (h0 e) (h ta fa hk))
  | succ d ih =>
    intro t ta fa x6 ht h1 h0 hk
    have htN : t < td_N n := by omega
    obtain ⟨e6, hT⟩ := h1 htN
    have hf : ∀ k, k < n → td_T n t k < 7 := fun k hk => by have := td_Tlt h3 h7 htN hk; omega
    have hDx : ∀ k, k < n → la (td_xl n t k) = nI (D (td_xl n t k)) ∧ D (td_xl n t k) ≤ 99 := by
      intro k hk
      obtain ⟨x, y, hx, hy, hd, e⟩ := td_xlv h3 h7 htN hk
      rw [e]; exact hL x y hx hy hd
    have s77 : ∀ fa' : Nat → Int32, (td_mn P (td_co n D) (t + 1) ≠ 0 → ∀ k, k < n → fa' k = nI (td_T n (td_ar P (td_co n D) (t + 1)) k)) → wX_leastCost_77 post (wX_leastCost_13 post nd fb (d + 1)) nd fb (td_md (td_mn P (td_co n D) (t + 1))) (nI t) (nI n) q b la ta fa' := by
      intro fa' hk'
      unfold wX_leastCost_77
      refine xs_next h3 h7 hf hT (fun hz => nm_r (nI_1 t) (ih (t + 1) ta fa' 0 (by omega) (fun hlt => ?_) (fun _ => rfl) hk')) (fun hp ta' hT' => nm_r (nI_1 t) (ih (t + 1) ta' fa' 1 (by omega) (fun hlt => ⟨rfl, fun k hk => ?_⟩) (fun he => ?_) hk'))
      · have := (td_next h3 h7 hlt).1; omega
      · rw [hT' k hk, (td_next h3 h7 hlt).2 k hk]
      · have := td_last h3 h7 he; omega
    have hx6 : ¬ x6 = 0 := by rw [e6]; decide
    refine br_f (nI_ge (b := 720) (by omega) (by decide)) (br_f hx6 (xs_links h3 h7 hf hT fun L hLb => ?_))
    have hLk : ∀ s, s < 64 → lb_t L s = td_lk n t s := by
      intro s hs
      rw [hLb s hs, ← td_xlk h3 h7 htN]; rfl
    have hPt := hP t htN L hLk
    by_cases hp : P t = true
    · obtain ⟨e1, e2⟩ := hPt.mp hp
      refine br_t e1 (br_t e2 (xs_cost (D := D) h3 h7 hf hT (fun k hk => (hDx k hk).1) ?_))
      have ec : td_sm (fun k => D (td_s (td_xf (td_T n t) n k) (td_T n t k))) n = td_co n D t := td_xco h3 h7 htN
      rw [ec]
      have hc : td_co n D t ≤ 693 := by
        rw [← ec]
        have := td_sml (g := fun k => D (td_xl n t k)) (m := n) (c := 99) (fun k hk => (hDx k hk).2)
        have h2 : n * 99 ≤ 693 := by omega
        exact Nat.le_trans this h2
      by_cases hm : td_mn P (td_co n D) t = 0 ∨ td_co n D t + 1 < td_mn P (td_co n D) t
      · have em : td_mn P (td_co n D) (t + 1) = td_co n D t + 1 := by rw [td_mn, if_pos hp, if_pos hm]
        have ea : td_ar P (td_co n D) (t + 1) = t := by rw [td_ar, if_pos ⟨hp, hm⟩]
        have s69 : wX_leastCost_69 post (wX_leastCost_13 post nd fb (d + 1)) nd fb (nI t) (nI (td_co n D t)) (nI n) q b la ta fa := by
          unfold wX_leastCost_69
          refine xs_keep h7 fun fa' hfa => ?_
          have := s77 fa' (fun _ k hk => by rw [ea, hfa k hk, hT k hk])
          rw [em, td_mds] at this
          exact this
        refine br_c (fun _ => s69) (fun hne => ?_)
        cases hmm : td_mn P (td_co n D) t with
        | zero => rw [hmm] at hne; exact absurd rfl hne
        | succ c =>
          rw [td_mds]
          have hcl : c < 2 ^ 31 ∧ td_co n D t < c := by
            have hb2 := td_mnL (P := P) (t := t) h3 h7 (by omega) (fun a c ha hc hd => (hL a c ha hc hd).2)
            omega
          exact br_f (nI_ge hcl.2 hcl.1) s69
      · have em : td_mn P (td_co n D) (t + 1) = td_mn P (td_co n D) t := by rw [td_mn, if_pos hp, if_neg hm]
        have ea : td_ar P (td_co n D) (t + 1) = td_ar P (td_co n D) t := by rw [td_ar, if_neg (fun z => hm z.2)]
        have s := s77 fa (by rw [em, ea]; exact hk)
        rw [em] at s
        cases hmm : td_mn P (td_co n D) t with
        | zero => exact absurd (Or.inl hmm) hm
        | succ c =>
          rw [hmm, td_mds] at s
          rw [td_mds]
          have hcl : c ≤ td_co n D t := by omega
          exact br_f (td_nm1 (by omega)) (br_t (nI_le hcl (by omega)) s)
    · have em : td_mn P (td_co n D) (t + 1) = td_mn P (td_co n D) t := by rw [td_mn, if_neg hp]
      have ea : td_ar P (td_co n D) (t + 1) = td_ar P (td_co n D) t := by rw [td_ar, if_neg (fun z => hp z.1)]
      have s := s77 fa (by rw [em, ea]; exact hk)
      rw [em] at s
      refine br_c (fun e1 => br_c (fun e2 => absurd (hPt.mpr ⟨e1, e2⟩) hp) (fun _ => s)) (fun _ => s)
theorem xs_least {ta fa : Nat → Int32} (h3 : 3 ≤ n) (h7 : n ≤ 7)
    (hL : ∀ a c, a < n → c < n → a ≠ c → la (td_s a c) = nI (D (td_s a c)) ∧ D (td_s a c) ≤ 99)
    (hP : ∀ t, t < td_N n → ∀ L : Int64, (∀ s, s < 64 → lb_t L s = td_lk n t s) → (P t = true ↔ (L &&& nd = nd ∧ L &&& fb = 0)))
    (h : ∀ ta' fa', (td_mn P (td_co n D) (td_N n) ≠ 0 → ∀ k, k < n → fa' k = nI (td_T n (td_ar P (td_co n D) (td_N n)) k)) → post (td_md (td_mn P (td_co n D) (td_N n))) (nI n, q, b, la, ta', fa')) :
    wpX_leastCost post (nI n, q, b, la, ta, fa) nd fb := by
  have hN := td_Nle h3 h7
  unfold wpX_leastCost
  refine xs_start h7 fun ta' hT => ?_
  refine ⟨td_N n + 1, ?_⟩
  exact xs_least_l h3 h7 hL hP h (td_N n) 0 ta' fa 1 (by omega) (fun _ => ⟨rfl, fun k hk => by rw [hT k hk, td_T0 h3 h7 k hk]⟩) (fun e => by omega) (fun e => absurd rfl e)
end
