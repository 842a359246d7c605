/-! which slots a row of links holds -/
def td_lx (g : Nat → Nat) : Nat → Nat → Bool
  | 0, _ => false
  | m + 1, s => td_lx g m s || decide (s = g m)
theorem td_lxi {g : Nat → Nat} {s : Nat} : ∀ {m : Nat}, td_lx g m s = true ↔ ∃ k, k < m ∧ g k = s := by
  intro m
  induction m with
  | zero => exact ⟨fun h => Bool.noConfusion h, fun ⟨k, hk, _⟩ => absurd hk (Nat.not_lt_zero k)⟩
  | succ m ih =>
    rw [td_lx, Bool.or_eq_true, ih, decide_eq_true_eq]
    constructor
    · rintro (⟨k, hk, e⟩ | e)
      · exact ⟨k, by omega, e⟩
      · exact ⟨m, by omega, e.symm⟩
    · rintro ⟨k, hk, e⟩
      rcases Nat.lt_succ_iff_lt_or_eq.mp hk with h1 | h1
      · exact Or.inl ⟨k, h1, e⟩
      · subst h1; exact Or.inr e.symm
/-- a sum over links that differ is a sum over slots -/
theorem td_cnt {g p : Nat → Nat} {M : Nat} : ∀ {m : Nat}, (∀ k, k < m → g k < M) → (∀ k, k < m → ∀ j, j < k → g j ≠ g k) → td_sm (fun k => p (g k)) m = td_sm (fun s => if td_lx g m s = true then p s else 0) M := by
  intro m
  induction m with
  | zero =>
    intro _ _
    rw [td_sm]
    refine (td_sm0.mpr fun k _ => ?_).symm
    rfl
  | succ m ih =>
    intro hM hd
    rw [td_sm, ih (fun k hk => hM k (by omega)) (fun k hk => hd k (by omega))]
    have h1 : p (g m) = td_sm (fun s => if s = g m then p (g m) else 0) M := by
      rw [td_sm1, if_pos (hM m (by omega))]
    rw [h1, ← td_sma]
    refine td_smc fun s _ => ?_
    try dsimp only
    by_cases h2 : s = g m
    · subst h2
      have h3 : ¬ td_lx g m (g m) = true := by
        rw [td_lxi]
        rintro ⟨k, hk, e⟩
        exact hd m (by omega) k hk e
      rw [if_neg h3, if_pos rfl, if_pos (by rw [td_lx, decide_eq_true rfl, Bool.or_true])]
      omega
    · rw [if_neg h2, td_lx, decide_eq_false h2, Bool.or_false]
      rfl
theorem td_row {p : Nat → Nat} {a : Nat} (ha : a < 7) : ∀ c, c ≤ a → td_sm (fun b => p (b * 7 + a)) c = td_sm (fun s => if s % 7 = a ∧ s / 7 < c then p s else 0) 49 := by
  intro c
  induction c with
  | zero =>
    intro _
    rw [td_sm]
    refine (td_sm0.mpr fun k _ => ?_).symm
    exact if_neg (by omega)
  | succ c ih =>
    intro hc
    rw [td_sm, ih (by omega)]
    have h1 : p (c * 7 + a) = td_sm (fun s => if s = c * 7 + a then p (c * 7 + a) else 0) 49 := by
      rw [td_sm1, if_pos (by omega)]
    rw [h1, ← td_sma]
    refine td_smc fun s _ => ?_
    try dsimp only
    by_cases h2 : s = c * 7 + a
    · subst h2
      rw [if_neg (by omega), if_pos rfl, if_pos (by omega)]
      omega
    · rw [if_neg h2]
      by_cases h3 : s % 7 = a ∧ s / 7 < c
      · rw [if_pos h3, if_pos (by omega)]; rfl
      · rw [if_neg h3, if_neg (by omega)]
theorem td_tri {p : Nat → Nat} : ∀ n, n ≤ 7 → td_sm (fun a => td_sm (fun b => p (b * 7 + a)) a) n = td_sm (fun s => if s / 7 < s % 7 ∧ s % 7 < n then p s else 0) 49 := by
  intro n
  induction n with
  | zero =>
    intro _
    rw [td_sm]
    refine (td_sm0.mpr fun k _ => ?_).symm
    exact if_neg (by omega)
  | succ n ih =>
    intro hn
    rw [td_sm, ih (by omega), td_row (by omega) n (Nat.le_refl n), ← td_sma]
    refine td_smc fun s _ => ?_
    try dsimp only
    by_cases h1 : s / 7 < s % 7 ∧ s % 7 < n
    · rw [if_pos h1, if_neg (by omega), if_pos (by omega)]; rfl
    · by_cases h2 : s % 7 = n ∧ s / 7 < n
      · rw [if_neg h1, if_pos h2, if_pos (by omega)]; omega
      · rw [if_neg h1, if_neg h2, if_neg (by omega)]
/-- the reference's count of required links -/
def td_du (n : Nat) (R : Nat → Nat) : Nat := td_sm (fun a => td_sm (fun b => if R (td_s a b) = 1 then 1 else 0) a) n
def td_ba (n : Nat) (R : Nat → Nat) (t : Nat) : Nat := td_sm (fun k => if R (td_l n t k) = 2 then 1 else 0) n
def td_ke (n : Nat) (R : Nat → Nat) (t : Nat) : Nat := td_sm (fun k => if R (td_l n t k) = 1 then 1 else 0) n
def td_ok (n : Nat) (R : Nat → Nat) (t : Nat) : Bool := decide (td_ba n R t = 0) && decide (td_ke n R t = td_du n R)
def td_lk (n t s : Nat) : Bool := td_lx (td_l n t) n s
theorem td_due {n : Nat} {R : Nat → Nat} (hn : n ≤ 7) : td_du n R = td_sm (fun s => if s / 7 < s % 7 ∧ s % 7 < n then (if R s = 1 then 1 else 0) else 0) 49 := by
  rw [td_du, ← td_tri (p := fun s => if R s = 1 then 1 else 0) n hn]
  refine td_smc fun a _ => td_smc fun b hb => ?_
  have e : td_s a b = b * 7 + a := by rw [td_s, if_neg (by omega)]
  rw [e]
theorem td_llt {n t k : Nat} (h3 : 3 ≤ n) (h7 : n ≤ 7) (ht : t < td_N n) (hk : k < n) : td_l n t k < 49 := td_slt (by have := td_Tlt h3 h7 ht hk; omega) (by have := td_nlt h3 h7 ht hk; omega)
theorem td_lvl {n t k : Nat} (h3 : 3 ≤ n) (h7 : n ≤ 7) (ht : t < td_N n) (hk : k < n) : td_l n t k / 7 < td_l n t k % 7 ∧ td_l n t k % 7 < n := by
  have h1 := td_Tlt h3 h7 ht hk
  have h2 := td_nlt h3 h7 ht hk
  have h4 := td_adj h3 h7 ht hk
  rw [td_l, td_s]
  split <;> omega
theorem td_okk {n t : Nat} {R : Nat → Nat} (h3 : 3 ≤ n) (h7 : n ≤ 7) (ht : t < td_N n) : td_ke n R t = td_du n R ↔ ∀ s, s < 49 → s / 7 < s % 7 ∧ s % 7 < n → R s = 1 → td_lk n t s = true := by
  have e1 : td_ke n R t = td_sm (fun s => if td_lx (td_l n t) n s = true then (if R s = 1 then 1 else 0) else 0) 49 :=
    td_cnt (p := fun s => if R s = 1 then 1 else 0) (fun k hk => td_llt h3 h7 ht hk) (fun k hk j hj => td_dis h3 h7 ht hk hj)
  have e2 : td_du n R = td_ke n R t + td_sm (fun s => if (s / 7 < s % 7 ∧ s % 7 < n) ∧ ¬ td_lx (td_l n t) n s = true then (if R s = 1 then 1 else 0) else 0) 49 := by
    rw [td_due h7, e1, ← td_sma]
    refine td_smc fun s _ => ?_
    try dsimp only
    generalize (if R s = 1 then 1 else 0) = q
    by_cases h1 : td_lx (td_l n t) n s = true
    · have hv : s / 7 < s % 7 ∧ s % 7 < n := by
        obtain ⟨k, hk, e⟩ := td_lxi.mp h1
        rw [← e]; exact td_lvl h3 h7 ht hk
      rw [if_pos hv, if_pos h1, if_neg (fun z => z.2 h1)]; rfl
    · by_cases hv : s / 7 < s % 7 ∧ s % 7 < n
      · rw [if_pos hv, if_neg h1, if_pos ⟨hv, h1⟩]; omega
      · rw [if_neg hv, if_neg h1, if_neg (fun z => hv z.1)]
  rw [e2]
  constructor
  · intro h s hs hv hR
    have h0 := td_sm0.mp (by omega : td_sm (fun s => if (s / 7 < s % 7 ∧ s % 7 < n) ∧ ¬ td_lx (td_l n t) n s = true then (if R s = 1 then 1 else 0) else 0) 49 = 0) s hs
    try dsimp only at h0
    by_cases h1 : td_lx (td_l n t) n s = true
    · exact h1
    · rw [if_pos ⟨hv, h1⟩, if_pos hR] at h0
      exact absurd h0 (by decide)
  · intro h
    have h0 : td_sm (fun s => if (s / 7 < s % 7 ∧ s % 7 < n) ∧ ¬ td_lx (td_l n t) n s = true then (if R s = 1 then 1 else 0) else 0) 49 = 0 := by
      refine td_sm0.mpr fun s hs => ?_
      try dsimp only
      by_cases h1 : (s / 7 < s % 7 ∧ s % 7 < n) ∧ ¬ td_lx (td_l n t) n s = true
      · rw [if_pos h1]
        by_cases h2 : R s = 1
        · exact absurd (h s hs h1.1 h2) h1.2
        · rw [if_neg h2]
      · rw [if_neg h1]
    omega
theorem td_okb {n t : Nat} {R : Nat → Nat} : td_ba n R t = 0 ↔ ∀ s, td_lk n t s = true → R s ≠ 2 := by
  rw [td_ba, td_sm0]
  constructor
  · intro h s hs hR
    obtain ⟨k, hk, e⟩ := td_lxi.mp hs
    have := h k hk
    try dsimp only at this
    rw [e, if_pos hR] at this
    exact absurd this (by decide)
  · intro h k hk
    try dsimp only
    exact if_neg (h _ (td_lxi.mpr ⟨k, hk, rfl⟩))
/-- allowed, by slots -/
theorem td_oki {n t : Nat} {R : Nat → Nat} (h3 : 3 ≤ n) (h7 : n ≤ 7) (ht : t < td_N n) (hV : ∀ s, R s ≠ 0 → s / 7 < s % 7 ∧ s % 7 < n) : td_ok n R t = true ↔ (∀ s, s < 64 → R s = 1 → td_lk n t s = true) ∧ (∀ s, s < 64 → td_lk n t s = true → R s ≠ 2) := by
  rw [td_ok, Bool.and_eq_true, decide_eq_true_eq, decide_eq_true_eq, td_okk h3 h7 ht, td_okb]
  constructor
  · intro ⟨h1, h2⟩
    exact ⟨fun s _ hR => h2 s (by have := hV s (by omega); omega) (hV s (by omega)) hR, fun s _ => h1 s⟩
  · intro ⟨h1, h2⟩
    refine ⟨fun s hs => ?_, fun s hs _ hR => h1 s (by omega) hR⟩
    obtain ⟨k, hk, e⟩ := td_lxi.mp hs
    have := td_llt h3 h7 ht hk
    exact h2 s (by omega) hs
/-- the cost of a tour -/
def td_co (n : Nat) (D : Nat → Nat) (t : Nat) : Nat := td_sm (fun k => D (td_l n t k)) n
theorem td_cob {n t : Nat} {D : Nat → Nat} (h7 : n ≤ 7) (hD : ∀ k, k < n → D (td_l n t k) ≤ 99) : td_co n D t ≤ 693 := by
  have : td_co n D t ≤ n * 99 := td_sml hD
  omega
/-! the component's order of the links: the last one first -/
def td_xf (f : Nat → Nat) (n : Nat) : Nat → Nat
  | 0 => f (n - 1)
  | i + 1 => f i
def td_xl (n t k : Nat) : Nat := td_s (td_xf (td_T n t) n k) (td_T n t k)
theorem td_xl0 {n t : Nat} (h3 : 3 ≤ n) (h7 : n ≤ 7) (ht : t < td_N n) : td_xl n t 0 = td_l n t (n - 1) := by
  rw [td_xl, td_l, td_n, if_neg (by omega), td_Tz h3 h7 ht]; rfl
theorem td_xls {n t k : Nat} (hk : k + 1 < n) : td_xl n t (k + 1) = td_l n t k := by
  rw [td_xl, td_l, td_n, if_pos hk]; rfl
theorem td_xco {n t : Nat} {D : Nat → Nat} (h3 : 3 ≤ n) (h7 : n ≤ 7) (ht : t < td_N n) : td_sm (fun k => D (td_xl n t k)) n = td_co n D t := by
  rw [td_co]
  refine td_rot (by omega) ?_ ?_
  · show D (td_xl n t 0) = D (td_l n t (n - 1))
    rw [td_xl0 h3 h7 ht]
  · intro k hk
    show D (td_xl n t (k + 1)) = D (td_l n t k)
    rw [td_xls hk]
theorem td_xlk {n t s : Nat} (h3 : 3 ≤ n) (h7 : n ≤ 7) (ht : t < td_N n) : td_lx (td_xl n t) n s = td_lk n t s := by
  rw [Bool.eq_iff_iff, td_lk, td_lxi, td_lxi]
  constructor
  · rintro ⟨k, hk, e⟩
    cases k with
    | zero => exact ⟨n - 1, by omega, by rw [← e, td_xl0 h3 h7 ht]⟩
    | succ k => exact ⟨k, by omega, by rw [← e, td_xls hk]⟩
  · rintro ⟨k, hk, e⟩
    by_cases h : k + 1 < n
    · exact ⟨k + 1, h, by rw [td_xls h, e]⟩
    · refine ⟨0, by omega, ?_⟩
      rw [td_xl0 h3 h7 ht, ← e, show n - 1 = k by omega]
theorem td_xlv {n t k : Nat} (h3 : 3 ≤ n) (h7 : n ≤ 7) (ht : t < td_N n) (hk : k < n) : ∃ a b, a < n ∧ b < n ∧ a ≠ b ∧ td_xl n t k = td_s a b := by
  cases k with
  | zero => exact ⟨_, _, td_Tlt h3 h7 ht (by omega : n - 1 < n), td_nlt h3 h7 ht (by omega : n - 1 < n), td_adj h3 h7 ht (by omega), td_xl0 h3 h7 ht⟩
  | succ k => exact ⟨_, _, td_Tlt h3 h7 ht (by omega : k < n), td_nlt h3 h7 ht (by omega : k < n), td_adj h3 h7 ht (by omega), td_xls hk⟩
theorem td_coL {n t : Nat} {D : Nat → Nat} (h3 : 3 ≤ n) (h7 : n ≤ 7) (ht : t < td_N n) (hD : ∀ a c, a < n → c < n → a ≠ c → D (td_s a c) ≤ 99) : td_co n D t ≤ 693 :=
  td_cob h7 fun k hk => hD _ _ (td_Tlt h3 h7 ht hk) (td_nlt h3 h7 ht hk) (td_adj h3 h7 ht hk)
theorem td_mnL {n t : Nat} {D : Nat → Nat} {P : Nat → Bool} (h3 : 3 ≤ n) (h7 : n ≤ 7) (ht : t ≤ td_N n) (hD : ∀ a c, a < n → c < n → a ≠ c → D (td_s a c) ≤ 99) : td_mn P (td_co n D) t ≤ 694 :=
  td_mnb (c := 693) fun i hi => td_coL h3 h7 (by omega) hD
