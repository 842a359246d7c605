theorem pk_us {f : Nat → Int32} {k : Nat} {x : Int32} : upd f k x k = x := if_pos rfl
theorem pk_un {f : Nat → Int32} {k j : Nat} {x : Int32} (h : j ≠ k) : upd f k x j = f j := if_neg h
theorem pk_sub {a b : Nat} (h : b ≤ a) : nI a - nI b = nI (a - b) := by
  obtain ⟨c, rfl⟩ : ∃ c, a = c + b := ⟨a - b, by omega⟩
  rw [← nI_add, Int32.add_sub_cancel, Nat.add_sub_cancel]
theorem pk_m1 (n : Nat) : nI (n + 1) + (-1) = nI n := by
  rw [← nI_1, Int32.add_assoc, show (1 : Int32) + (-1) = 0 from rfl, Int32.add_zero]
theorem pk_mul (a b : Nat) : nI a * nI b = nI (a * b) := (Int32.ofNat_mul a b).symm
theorem pk_div {a d : Nat} (ha : a < 2 ^ 31) (h0 : 0 < d) (hd : d < 2 ^ 31) : nI a / nI d = nI (a / d) := by
  apply Int32.toInt_inj.mp
  rw [lg_idiv_nonneg (by rw [nI_toInt ha]; omega) (by rw [nI_toInt hd]; omega), nI_toInt ha, nI_toInt hd, nI_toInt (Nat.lt_of_le_of_lt (Nat.div_le_self a d) ha)]
  first | rfl | exact (Int.natCast_ediv _ _).symm
theorem pk_rem {a d : Nat} (ha : a < 2 ^ 31) (h0 : 0 < d) (hd : d < 2 ^ 31) : nI a - nI a / nI d * nI d = nI (a % d) := by
  rw [pk_div ha h0 hd, pk_mul, pk_sub (Nat.div_mul_le_self a d)]
  exact congrArg nI (by have := Nat.div_add_mod' a d; omega)
theorem pk_sub_toInt {a b : Nat} (ha : a < 2 ^ 30) (hb : b < 2 ^ 30) : (nI a - nI b).toInt = (a : Int) - b := by
  rw [Int32.toInt_sub, nI_toInt (by omega), nI_toInt (by omega)]
  exact Int.bmod_eq_of_le (by omega) (by omega)
theorem pk_sneg {a b : Nat} (hb : b < 2 ^ 30) (h : a < b) : nI a - nI b < 0 := by
  rw [Int32.lt_iff_toInt_lt, pk_sub_toInt (by omega) hb, show (0 : Int32).toInt = 0 from by decide]
  omega
theorem pk_ix (x : Int32) {n : Nat} (hn : n < 2 ^ 31) : x < 0 ∨ nI n ≤ x ∨ ∃ j : Nat, j < n ∧ x = nI j := by
  by_cases h : x < 0
  · exact Or.inl h
  · obtain ⟨j, hj, rfl⟩ := nI_of h
    by_cases h2 : j < n
    · exact Or.inr (Or.inr ⟨j, h2, rfl⟩)
    · exact Or.inr (Or.inl (nI_le (by omega) hj))
theorem pk_le {x y : Int32} {A B : Prop} (a b : Nat) (f : a ≤ b → A) (g : b < a → B) (hx : x = nI a := by rfl) (hy : y = nI b := by rfl) (ha : a < 2 ^ 31 := by omega) (hb : b < 2 ^ 31 := by omega) : (x ≤ y → A) ∧ (¬ x ≤ y → B) := by
  subst hx hy
  rw [nI_leI ha hb]
  exact ⟨f, fun z => g (by omega)⟩
theorem pk_lt {x y : Int32} {A B : Prop} (a b : Nat) (f : a < b → A) (g : b ≤ a → B) (hx : x = nI a := by rfl) (hy : y = nI b := by rfl) (ha : a < 2 ^ 31 := by omega) (hb : b < 2 ^ 31 := by omega) : (x < y → A) ∧ (¬ x < y → B) := by
  subst hx hy
  rw [nI_ltI ha hb]
  exact ⟨f, fun z => g (by omega)⟩
theorem pk_eq {x y : Int32} {A B : Prop} (a b : Nat) (f : a = b → A) (g : a ≠ b → B) (hx : x = nI a := by rfl) (hy : y = nI b := by rfl) (ha : a < 2 ^ 31 := by omega) (hb : b < 2 ^ 31 := by omega) : (x = y → A) ∧ (¬ x = y → B) := by
  subst hx hy
  rw [nI_eq ha hb]
  exact ⟨f, g⟩
theorem pk_in {x : Int32} (n N : Nat) (h : n < N) (hx : x = nI n := by rfl) (hN : N < 2 ^ 31 := by omega) : vp_in x N := by
  subst hx
  exact vp_in_nI h hN
theorem pk_cl {x : Int32} (n : Nat) (hx : x = nI n := by rfl) (h : n < 2 ^ 31 := by omega) : x.toNatClampNeg = n := by
  subst hx
  exact nI_clamp h
theorem td_bt0 : nI 0 = 0 := rfl
/-! a long by its bits -/
def lb_t (x : Int64) (i : Nat) : Bool := x.toBitVec.getLsbD i
theorem lb_ext {x y : Int64} (h : ∀ i, i < 64 → lb_t x i = lb_t y i) : x = y := Int64.toBitVec_inj.mp (BitVec.eq_of_getLsbD_eq (fun i hi => h i hi))
theorem lb_or (x y : Int64) (i : Nat) : lb_t (x ||| y) i = (lb_t x i || lb_t y i) := by unfold lb_t; rw [Int64.toBitVec_or, BitVec.getLsbD_or]
theorem lb_and (x y : Int64) (i : Nat) : lb_t (x &&& y) i = (lb_t x i && lb_t y i) := by unfold lb_t; rw [Int64.toBitVec_and, BitVec.getLsbD_and]
theorem lb_xor (x y : Int64) (i : Nat) : lb_t (x ^^^ y) i = (lb_t x i ^^ lb_t y i) := by unfold lb_t; rw [Int64.toBitVec_xor, BitVec.getLsbD_xor]
theorem lb_big {x : Int64} {i : Nat} (h : 64 ≤ i) : lb_t x i = false := BitVec.getLsbD_of_ge _ _ h
theorem lb_m1 : ∀ i, i < 64 → lb_t (-1) i = true := by decide +kernel
theorem lb_0 (i : Nat) : lb_t 0 i = false := BitVec.getLsbD_zero
theorem lb_tp : ∀ k, k < 64 → ((1 : Int64) <<< ((nI k).toInt64 &&& 63)).toBitVec = BitVec.twoPow 64 k := by decide +kernel
theorem lb_sh {k : Nat} (hk : k < 64) {i : Nat} (hi : i < 64) : lb_t ((1 : Int64) <<< ((nI k).toInt64 &&& 63)) i = decide (i = k) := by
  unfold lb_t
  rw [lb_tp k hk, BitVec.getLsbD_twoPow]
  simp [hi, eq_comm]
  try omega
theorem lb_eq {x y : Int64} : x = y ↔ ∀ i, i < 64 → lb_t x i = lb_t y i := ⟨fun h i _ => by rw [h], lb_ext⟩
/-! Int32 by its bits -/
def ib_t (x : Int32) (i : Nat) : Bool := x.toBitVec.getLsbD i
theorem ib_ext {x y : Int32} (h : ∀ i, i < 32 → ib_t x i = ib_t y i) : x = y := Int32.toBitVec_inj.mp (BitVec.eq_of_getLsbD_eq (fun i hi => h i hi))
theorem ib_or (x y : Int32) (i : Nat) : ib_t (x ||| y) i = (ib_t x i || ib_t y i) := by unfold ib_t; rw [Int32.toBitVec_or, BitVec.getLsbD_or]
theorem ib_0 (i : Nat) : ib_t 0 i = false := BitVec.getLsbD_zero
theorem ib_tp : ∀ k, k < 32 → ((1 : Int32) <<< (nI k &&& 31)).toBitVec = BitVec.twoPow 32 k := by decide +kernel
theorem ib_sh {k : Nat} (hk : k < 32) {i : Nat} (hi : i < 32) : ib_t ((1 : Int32) <<< (nI k &&& 31)) i = decide (i = k) := by
  unfold ib_t
  rw [ib_tp k hk, BitVec.getLsbD_twoPow]
  simp [hi, eq_comm]
  try omega
/-! sums -/
def td_sm (g : Nat → Nat) : Nat → Nat
  | 0 => 0
  | k + 1 => td_sm g k + g k
theorem td_smc {g h : Nat → Nat} : ∀ {m : Nat}, (∀ k, k < m → g k = h k) → td_sm g m = td_sm h m := by
  intro m
  induction m with
  | zero => intro _; rfl
  | succ m ih => intro e; rw [td_sm, td_sm, ih (fun k hk => e k (by omega)), e m (by omega)]
theorem td_sml {g : Nat → Nat} {c : Nat} : ∀ {m : Nat}, (∀ k, k < m → g k ≤ c) → td_sm g m ≤ m * c := by
  intro m
  induction m with
  | zero => intro _; rw [td_sm]; exact Nat.zero_le _
  | succ m ih => intro e; rw [td_sm, Nat.succ_mul]; exact Nat.add_le_add (ih (fun k hk => e k (by omega))) (e m (by omega))
/-- the sum, one place on round the ring -/
theorem td_rot {g h : Nat → Nat} {n : Nat} (hn : 0 < n) (h0 : h 0 = g (n - 1)) (hs : ∀ k, k + 1 < n → h (k + 1) = g k) : td_sm h n = td_sm g n := by
  have key : ∀ m, m + 1 ≤ n → td_sm h (m + 1) = td_sm g m + g (n - 1) := by
    intro m
    induction m with
    | zero => intro _; rw [td_sm, td_sm, td_sm, h0]
    | succ m ih => intro hm; rw [td_sm, ih (by omega), hs m (by omega), td_sm]; omega
  obtain ⟨m, rfl⟩ : ∃ m, n = m + 1 := ⟨n - 1, by omega⟩
  rw [key m (Nat.le_refl _), td_sm]; rfl
theorem td_sm0 {g : Nat → Nat} : ∀ {m : Nat}, td_sm g m = 0 ↔ ∀ k, k < m → g k = 0 := by
  intro m
  induction m with
  | zero => exact ⟨fun _ k hk => absurd hk (Nat.not_lt_zero k), fun _ => rfl⟩
  | succ m ih =>
    rw [td_sm]
    constructor
    · intro h k hk
      rcases Nat.lt_succ_iff_lt_or_eq.mp hk with h1 | h1
      · exact ih.mp (by omega) k h1
      · rw [h1]; omega
    · intro h
      have := ih.mpr (fun k hk => h k (by omega))
      have := h m (by omega)
      omega
theorem td_sma {g h : Nat → Nat} : ∀ m : Nat, td_sm (fun k => g k + h k) m = td_sm g m + td_sm h m := by
  intro m
  induction m with
  | zero => rfl
  | succ m ih => rw [td_sm, td_sm, td_sm, ih]; omega
theorem td_sm1 {s c : Nat} : ∀ m : Nat, td_sm (fun k => if k = s then c else 0) m = if s < m then c else 0 := by
  intro m
  induction m with
  | zero => rfl
  | succ m ih =>
    rw [td_sm, ih]
    by_cases h1 : s < m
    · rw [if_pos h1, if_neg (by omega), if_pos (by omega)]; rfl
    · by_cases h2 : m = s
      · rw [if_neg h1, if_pos h2, if_pos (by omega)]; omega
      · rw [if_neg h1, if_neg h2, if_neg (by omega)]
/-! the least cost so far, and the number of the tour that was kept: 0 none, c + 1 the cost c -/
def td_mn (P : Nat → Bool) (C : Nat → Nat) : Nat → Nat
  | 0 => 0
  | t + 1 => if P t = true then (if td_mn P C t = 0 ∨ C t + 1 < td_mn P C t then C t + 1 else td_mn P C t) else td_mn P C t
def td_ar (P : Nat → Bool) (C : Nat → Nat) : Nat → Nat
  | 0 => 0
  | t + 1 => if P t = true ∧ (td_mn P C t = 0 ∨ C t + 1 < td_mn P C t) then t else td_ar P C t
theorem td_mnc {P Q : Nat → Bool} {C E : Nat → Nat} : ∀ {N : Nat}, (∀ t, t < N → P t = Q t) → (∀ t, t < N → C t = E t) → td_mn P C N = td_mn Q E N := by
  intro N
  induction N with
  | zero => intro _ _; rfl
  | succ N ih =>
    intro h1 h2
    rw [td_mn, td_mn, ih (fun t ht => h1 t (by omega)) (fun t ht => h2 t (by omega)), h1 N (by omega), h2 N (by omega)]
/-- what the least cost says -/
theorem td_mn0 {P : Nat → Bool} {C : Nat → Nat} : ∀ {N : Nat}, td_mn P C N = 0 ↔ ∀ t, t < N → P t = false := by
  intro N
  induction N with
  | zero => exact ⟨fun _ t ht => absurd ht (Nat.not_lt_zero t), fun _ => rfl⟩
  | succ N ih =>
    rw [td_mn]
    by_cases hp : P N = true
    · rw [if_pos hp]
      constructor
      · intro h
        split at h <;> omega
      · intro h
        rw [h N (by omega)] at hp
        exact absurd hp (by decide)
    · rw [if_neg hp, ih]
      constructor
      · intro h t ht
        rcases Nat.lt_succ_iff_lt_or_eq.mp ht with h1 | h1
        · exact h t h1
        · rw [h1]; simpa using hp
      · intro h t ht
        exact h t (by omega)
theorem td_mnl {P : Nat → Bool} {C : Nat → Nat} : ∀ {N t : Nat}, t < N → P t = true → 0 < td_mn P C N ∧ td_mn P C N ≤ C t + 1 := by
  intro N
  induction N with
  | zero => intro t ht; exact absurd ht (Nat.not_lt_zero t)
  | succ N ih =>
    intro t ht hp
    rw [td_mn]
    rcases Nat.lt_succ_iff_lt_or_eq.mp ht with h1 | h1
    · have := ih h1 hp
      split
      · split <;> omega
      · exact this
    · subst h1
      rw [if_pos hp]
      split <;> omega
theorem td_mna {P : Nat → Bool} {C : Nat → Nat} : ∀ {N : Nat}, td_mn P C N ≠ 0 → td_ar P C N < N ∧ P (td_ar P C N) = true ∧ C (td_ar P C N) + 1 = td_mn P C N ∧ ∀ t, t < td_ar P C N → P t = true → C t + 1 ≠ td_mn P C N := by
  intro N
  induction N with
  | zero => intro h; exact absurd rfl h
  | succ N ih =>
    intro h
    by_cases hc : P N = true ∧ (td_mn P C N = 0 ∨ C N + 1 < td_mn P C N)
    · have e1 : td_ar P C (N + 1) = N := by rw [td_ar, if_pos hc]
      have e2 : td_mn P C (N + 1) = C N + 1 := by rw [td_mn, if_pos hc.1, if_pos hc.2]
      rw [e1, e2]
      refine ⟨by omega, hc.1, rfl, fun t ht hp e => ?_⟩
      have := td_mnl (C := C) ht hp
      omega
    · have e1 : td_ar P C (N + 1) = td_ar P C N := by rw [td_ar, if_neg hc]
      have e2 : td_mn P C (N + 1) = td_mn P C N := by
        rw [td_mn]
        split
        · rename_i hp
          rw [if_neg (fun z => hc ⟨hp, z⟩)]
        · rfl
      rw [e2] at h
      rw [e1, e2]
      have := ih h
      exact ⟨by omega, this.2⟩
theorem td_mnb {P : Nat → Bool} {C : Nat → Nat} {c : Nat} : ∀ {N : Nat}, (∀ t, t < N → C t ≤ c) → td_mn P C N ≤ c + 1 := by
  intro N hC
  by_cases h : td_mn P C N = 0
  · omega
  · have := td_mna h
    have := hC _ this.1
    omega
/-- a narrower choice has the same least cost if and only if it holds a cheapest one -/
theorem td_mni {P Q : Nat → Bool} {C : Nat → Nat} {N : Nat} (hQ : ∀ t, t < N → Q t = true → P t = true) (h : td_mn P C N ≠ 0) : td_mn Q C N = td_mn P C N ↔ ∃ t, t < N ∧ Q t = true ∧ C t + 1 = td_mn P C N := by
  constructor
  · intro e
    have := td_mna (P := Q) (C := C) (N := N) (by omega)
    exact ⟨_, this.1, this.2.1, by omega⟩
  · intro ⟨t, ht, hq, hc⟩
    have h1 := td_mnl (C := C) ht hq
    have h2 := td_mna (P := Q) (C := C) (N := N) (by omega)
    have h3 := td_mnl (C := C) h2.1 (hQ _ h2.1 h2.2.1)
    omega
/-- an answer: -1 for none -/
def td_md (m : Nat) : Int32 := if m = 0 then -1 else nI (m - 1)
theorem td_md0 : td_md 0 = -1 := rfl
theorem td_mds (c : Nat) : td_md (c + 1) = nI c := rfl
theorem td_nm1 {c : Nat} (h : c < 2 ^ 31) : ¬ nI c = -1 := by
  intro e
  have := nI_pos h
  rw [e] at this
  exact this (by decide)
theorem td_mdi {m : Nat} (h : m < 2 ^ 31) : td_md m = -1 ↔ m = 0 := by
  cases m with
  | zero => exact ⟨fun _ => rfl, fun _ => rfl⟩
  | succ c => rw [td_mds]; exact ⟨fun e => absurd e (td_nm1 (by omega)), fun e => by omega⟩
theorem td_mdn {m : Nat} (h : m < 2 ^ 31) : td_md m < 0 ↔ m = 0 := by
  cases m with
  | zero => exact ⟨fun _ => rfl, fun _ => by rw [td_md0]; decide⟩
  | succ c => rw [td_mds]; exact ⟨fun e => absurd e (nI_pos (by omega)), fun e => by omega⟩
theorem td_mde {a b : Nat} (ha : a < 2 ^ 31) (hb : b < 2 ^ 31) : td_md a = td_md b ↔ a = b := by
  cases a with
  | zero =>
    rw [td_md0, eq_comm, td_mdi hb]
    exact ⟨Eq.symm, Eq.symm⟩
  | succ c =>
    cases b with
    | zero => rw [td_md0, td_mdi ha]
    | succ d => rw [td_mds, td_mds, nI_eq (by omega) (by omega)]; omega
