/-! @70.wp@ small things for the runs -/
def bI (b : Bool) : Int32 := if b then nI 1 else nI 0
theorem bI_t : bI true = nI 1 := rfl
theorem bI_f : bI false = nI 0 := rfl
theorem bI_0 {b : Bool} : bI b = 0 ↔ b = false := by cases b <;> decide
theorem bI_n0 {b : Bool} : ¬ bI b = 0 ↔ b = true := by cases b <;> decide
theorem bI_z {b : Bool} : bI b = 0 ∨ bI b = 1 := by cases b <;> decide
theorem bI_of {b : Bool} (h : b = true) : bI b = nI 1 := by rw [h]; rfl
theorem bI_no {b : Bool} (h : b = false) : bI b = nI 0 := by rw [h]; rfl
/-- how many below n -/
def ct (P : Nat → Bool) : Nat → Nat
  | 0 => 0
  | n + 1 => ct P n + (if P n then 1 else 0)
/-- one below n -/
def ex (P : Nat → Bool) : Nat → Bool
  | 0 => false
  | n + 1 => ex P n || P n
theorem ct_le (P : Nat → Bool) : ∀ n, ct P n ≤ n
  | 0 => Nat.le_refl _
  | n + 1 => by
    have := ct_le P n
    simp only [ct]
    split <;> omega
theorem ex_iff {P : Nat → Bool} : ∀ {n : Nat}, ex P n = true ↔ ∃ k, k < n ∧ P k = true
  | 0 => by simp [ex]
  | n + 1 => by
    simp only [ex, Bool.or_eq_true, ex_iff (n := n)]
    constructor
    · rintro (⟨k, h1, h2⟩ | h)
      · exact ⟨k, by omega, h2⟩
      · exact ⟨n, by omega, h⟩
    · rintro ⟨k, h1, h2⟩
      by_cases hk : k = n
      · subst hk
        exact Or.inr h2
      · exact Or.inl ⟨k, by omega, h2⟩
theorem ex_no {P : Nat → Bool} {n : Nat} : ex P n = false ↔ ∀ k, k < n → P k = false := by
  rw [← Bool.not_eq_true, ex_iff]
  constructor
  · intro h k hk
    cases hp : P k with
    | false => rfl
    | true => exact absurd ⟨k, hk, hp⟩ h
  · rintro h ⟨k, hk, hp⟩
    rw [h k hk] at hp
    cases hp
theorem ct_ex {P : Nat → Bool} : ∀ {n : Nat}, ct P n = 0 ↔ ex P n = false
  | 0 => by simp [ct, ex]
  | n + 1 => by
    have := ct_ex (P := P) (n := n)
    simp only [ct, ex]
    cases hp : P n <;> simp [this]
theorem ex_congr {P P' : Nat → Bool} {n : Nat} (h : ∀ k, k < n → P k = P' k) : ex P n = ex P' n := by
  induction n with
  | zero => rfl
  | succ n ih => simp only [ex]; rw [ih (fun k hk => h k (by omega)), h n (by omega)]
/-- a loop, from its end on -/
theorem dn {N : Nat} (P : Nat → Prop) (h0 : P N) (hs : ∀ k, k < N → P (k + 1) → P k) : ∀ k, k ≤ N → P k := by
  intro k hk
  obtain ⟨m, rfl⟩ : ∃ m, N = k + m := ⟨N - k, by omega⟩
  clear hk
  induction m generalizing k with
  | zero => exact h0
  | succ m ih => exact hs k (by omega) (ih (k + 1) (by rw [show k + 1 + m = k + (m + 1) from by omega]; exact h0) (fun j hj => hs j (by omega)))
theorem nI_s (k : Nat) : nI k + nI 1 = nI (k + 1) := nI_add k 1
theorem nI_z (k : Nat) : nI k + nI 0 = nI k := nI_add k 0
theorem nI_m (a b : Nat) : nI a * nI b = nI (a * b) := (Int32.ofNat_mul a b).symm
theorem le_n {a b : Nat} (h : ¬ nI a ≤ nI b) (ha : a < 2 ^ 31) (hb : b < 2 ^ 31) : b < a := by
  rw [nI_leI ha hb] at h
  omega
theorem nI_inj {a b : Nat} (h : nI a = nI b) (ha : a < 2 ^ 31) (hb : b < 2 ^ 31) : a = b := (nI_eq ha hb).mp h
theorem v_eq {G : Nat → Nat → Int32} {f k : Nat} {v : Int32} : pm_v G f k v f k = v := by simp [pm_v]
theorem v_ne {G : Nat → Nat → Int32} {f k f' k' : Nat} {v : Int32} (h : ¬ (f' = f ∧ k' = k)) : pm_v G f k v f' k' = G f' k' := by simp only [pm_v, if_neg h]
theorem v_f {G : Nat → Nat → Int32} {f k f' k' : Nat} {v : Int32} (h : f' ≠ f) : pm_v G f k v f' k' = G f' k' := v_ne (fun e => h e.1)
theorem v_k {G : Nat → Nat → Int32} {f k k' : Nat} {v : Int32} (h : k' ≠ k) : pm_v G f k v f k' = G f k' := v_ne (fun e => h e.2)
/-- an int of the script as the number of one of n things, or none of them -/
theorem nI_mid (x : Int32) {n : Nat} (hn : n < 2 ^ 31) : (x < 0) ∨ (nI n ≤ x ∧ ¬ x < 0) ∨ ∃ j : Nat, j < n ∧ x = nI j ∧ ¬ x < 0 ∧ ¬ nI n ≤ x := by
  by_cases h0 : x < 0
  · exact Or.inl h0
  · obtain ⟨j, hj, rfl⟩ := nI_of h0
    by_cases h1 : nI n ≤ nI j
    · exact Or.inr (Or.inl ⟨h1, h0⟩)
    · exact Or.inr (Or.inr ⟨j, le_n h1 hn hj, rfl, h0, h1⟩)
