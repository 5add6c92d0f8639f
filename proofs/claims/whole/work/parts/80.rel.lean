/-! @79.p3@ the class's memory beside the reference's -/
def tr (f i k : Nat) : Option (Nat × Nat) :=
  if f = 8 then (if i < 8 then (if k = 6 then some (21, i) else if k = 8 then some (23, i) else if k = 9 then some (24, i) else if k = 10 then some (25, i) else if k = 11 then some (26, i) else if k = 12 then some (27, i) else if k = 13 then some (28, i) else none) else none)
  else if f = 9 then (if i < 8 ∧ k < 6 then some (32, 6 * i + k) else none)
  else if f = 10 then (if i < 8 ∧ 1 ≤ k ∧ k < 8 then some (33, 8 * i + k) else none)
  else if f = 11 then (if i < 8 ∧ k < 8 then some (41, 8 * i + k) else none)
  else if f = 12 then (if i < 8 ∧ k < 16 then some (40, 16 * i + k) else none)
  else if f = 13 then (if i < 8 then (if k = 0 then some (34, i) else if k = 1 then some (35, i) else if k = 2 then some (36, i) else if k = 4 then some (38, i) else none) else none)
  else if f = 0 then (if i = 0 ∧ k = 3 then some (20, 20) else none)
  else if f = 3 then (if i = 0 then (if k = 3 then some (20, 26) else if k = 4 then some (20, 27) else if k = 5 then some (20, 25) else if k = 6 then some (20, 28) else none) else none)
  else if f = 4 then (if i < 6 ∧ k = 1 then some (43, i) else none)
  else if f = 5 then (if i < 6 ∧ k < 12 then some (42, 12 * i + k) else none)
  else if f = 14 then (if i = 0 ∧ k < 8 then some (45, k) else none)
  else if f = 15 then (if i = 0 ∧ k < 64 then some (46, k) else none)
  else none
/-- back again -/
def ti (y : Nat × Nat) : Nat × Nat × Nat :=
  if y.1 = 21 then (8, y.2, 6) else if y.1 = 23 then (8, y.2, 8) else if y.1 = 24 then (8, y.2, 9) else if y.1 = 25 then (8, y.2, 10) else if y.1 = 26 then (8, y.2, 11) else if y.1 = 27 then (8, y.2, 12) else if y.1 = 28 then (8, y.2, 13)
  else if y.1 = 32 then (9, y.2 / 6, y.2 % 6) else if y.1 = 33 then (10, y.2 / 8, y.2 % 8) else if y.1 = 41 then (11, y.2 / 8, y.2 % 8) else if y.1 = 40 then (12, y.2 / 16, y.2 % 16)
  else if y.1 = 34 then (13, y.2, 0) else if y.1 = 35 then (13, y.2, 1) else if y.1 = 36 then (13, y.2, 2) else if y.1 = 38 then (13, y.2, 4)
  else if y.1 = 20 then (if y.2 = 20 then (0, 0, 3) else if y.2 = 26 then (3, 0, 3) else if y.2 = 27 then (3, 0, 4) else if y.2 = 25 then (3, 0, 5) else (3, 0, 6))
  else if y.1 = 43 then (4, y.2, 1) else if y.1 = 42 then (5, y.2 / 12, y.2 % 12) else if y.1 = 45 then (14, 0, y.2) else (15, 0, y.2)
theorem tr_in {f i k : Nat} {y : Nat × Nat} (h : tr f i k = some y) : ti y = (f, i, k) ∧ (y.1 ≠ 22 ∧ y.1 ≠ 29 ∧ y.1 ≠ 30 ∧ y.1 ≠ 31 ∧ y.1 ≠ 39 ∧ y.1 ≠ 44) ∧ (y.1 = 20 → y.2 ≠ 0) := by
  unfold tr at h
  by_cases h8 : f = 8
  · subst h8
    rw [if_pos rfl] at h
    split at h
    · by_cases e : k = 6
      · subst e; simp only [if_true] at h; cases h; exact ⟨rfl, by simp, by simp⟩
      by_cases e1 : k = 8
      · subst e1; simp at h; subst h; exact ⟨rfl, by simp, by simp⟩
      by_cases e2 : k = 9
      · subst e2; simp at h; subst h; exact ⟨rfl, by simp, by simp⟩
      by_cases e3 : k = 10
      · subst e3; simp at h; subst h; exact ⟨rfl, by simp, by simp⟩
      by_cases e4 : k = 11
      · subst e4; simp at h; subst h; exact ⟨rfl, by simp, by simp⟩
      by_cases e5 : k = 12
      · subst e5; simp at h; subst h; exact ⟨rfl, by simp, by simp⟩
      by_cases e6 : k = 13
      · subst e6; simp at h; subst h; exact ⟨rfl, by simp, by simp⟩
      simp [e, e1, e2, e3, e4, e5, e6] at h
    · cases h
  rw [if_neg h8] at h
  by_cases h9 : f = 9
  · subst h9
    rw [if_pos rfl] at h
    split at h
    · cases h
      refine ⟨?_, by simp, by simp⟩
      simp only [ti]
      simp
      omega
    · cases h
  rw [if_neg h9] at h
  by_cases h10 : f = 10
  · subst h10
    rw [if_pos rfl] at h
    split at h
    · cases h
      refine ⟨?_, by simp, by simp⟩
      simp only [ti]
      simp
      omega
    · cases h
  rw [if_neg h10] at h
  by_cases h11 : f = 11
  · subst h11
    rw [if_pos rfl] at h
    split at h
    · cases h
      refine ⟨?_, by simp, by simp⟩
      simp only [ti]
      simp
      omega
    · cases h
  rw [if_neg h11] at h
  by_cases h12 : f = 12
  · subst h12
    rw [if_pos rfl] at h
    split at h
    · cases h
      refine ⟨?_, by simp, by simp⟩
      simp only [ti]
      simp
      omega
    · cases h
  rw [if_neg h12] at h
  by_cases h13 : f = 13
  · subst h13
    rw [if_pos rfl] at h
    split at h
    · by_cases e : k = 0
      · subst e; simp at h; subst h; exact ⟨rfl, by simp, by simp⟩
      by_cases e1 : k = 1
      · subst e1; simp at h; subst h; exact ⟨rfl, by simp, by simp⟩
      by_cases e2 : k = 2
      · subst e2; simp at h; subst h; exact ⟨rfl, by simp, by simp⟩
      by_cases e3 : k = 4
      · subst e3; simp at h; subst h; exact ⟨rfl, by simp, by simp⟩
      simp [e, e1, e2, e3] at h
    · cases h
  rw [if_neg h13] at h
  by_cases h0 : f = 0
  · subst h0
    rw [if_pos rfl] at h
    split at h
    · rename_i h'
      cases h
      obtain ⟨rfl, rfl⟩ := h'
      exact ⟨rfl, by simp, by simp⟩
    · cases h
  rw [if_neg h0] at h
  by_cases h3 : f = 3
  · subst h3
    rw [if_pos rfl] at h
    split at h
    · rename_i h'
      subst h'
      by_cases e : k = 3
      · subst e; simp at h; subst h; exact ⟨rfl, by simp, by simp⟩
      by_cases e1 : k = 4
      · subst e1; simp at h; subst h; exact ⟨rfl, by simp, by simp⟩
      by_cases e2 : k = 5
      · subst e2; simp at h; subst h; exact ⟨rfl, by simp, by simp⟩
      by_cases e3 : k = 6
      · subst e3; simp at h; subst h; exact ⟨rfl, by simp, by simp⟩
      simp [e, e1, e2, e3] at h
    · cases h
  rw [if_neg h3] at h
  by_cases h4 : f = 4
  · subst h4
    rw [if_pos rfl] at h
    split at h
    · rename_i h'
      cases h
      obtain ⟨-, rfl⟩ := h'
      exact ⟨rfl, by simp, by simp⟩
    · cases h
  rw [if_neg h4] at h
  by_cases h5 : f = 5
  · subst h5
    rw [if_pos rfl] at h
    split at h
    · cases h
      refine ⟨?_, by simp, by simp⟩
      simp only [ti]
      simp
      omega
    · cases h
  rw [if_neg h5] at h
  by_cases h14 : f = 14
  · subst h14
    rw [if_pos rfl] at h
    split at h
    · rename_i h'
      cases h
      obtain ⟨rfl, -⟩ := h'
      exact ⟨rfl, by simp, by simp⟩
    · cases h
  rw [if_neg h14] at h
  by_cases h15 : f = 15
  · subst h15
    rw [if_pos rfl] at h
    split at h
    · rename_i h'
      cases h
      obtain ⟨rfl, -⟩ := h'
      exact ⟨rfl, by simp, by simp⟩
    · cases h
  rw [if_neg h15] at h
  cases h
theorem tr_inj {f i k f2 i2 k2 : Nat} {y : Nat × Nat} (h : tr f i k = some y) (h2 : tr f2 i2 k2 = some y) : f = f2 ∧ i = i2 ∧ k = k2 := by
  have e := (tr_in h).1
  rw [(tr_in h2).1] at e
  simp only [Prod.mk.injEq] at e
  exact ⟨e.1.symm, e.2.1.symm, e.2.2.symm⟩
def RP (A : Nat → Nat → Nat → Int32) (H : Nat → Nat → Int32) : Prop := ∀ f i k y, tr f i k = some y → A f i k = H y.1 y.2
def Rc (A : Nat → Nat → Nat → Int32) (c : Nat → Int64) (H : Nat → Nat → Int32) (h : Nat → Int64) : Prop := ∀ i, i < 8 → A 8 i 0 = nI i ∧ (H 21 i ≠ nI 0 → A 8 i 7 = H 22 i) ∧ (H 21 i = nI 4 → A 8 i 14 = H 29 i) ∧ (H 21 i = nI 3 → A 8 i 15 = H 31 i) ∧ (H 34 i = nI 2 → c i = h i) ∧ (H 34 i ≠ nI 0 → H 21 i ≠ nI 1 → A 13 i 5 = H 39 i + nI 1)
def Rt (A : Nat → Nat → Nat → Int32) (H : Nat → Nat → Int32) : Prop := A 6 0 1 = nI (usN H) ∧ ∀ k, k < usN H → A 7 0 k = H 44 k
def Rel (A : Nat → Nat → Nat → Int32) (c : Nat → Int64) (H : Nat → Nat → Int32) (h : Nat → Int64) : Prop := RP A H ∧ Rc A c H h ∧ Rt A H
theorem u_eq {A : Nat → Nat → Nat → Int32} {f i k : Nat} {v : Int32} : pm_u A f i k v f i k = v := by simp [pm_u]
theorem u_ne {A : Nat → Nat → Nat → Int32} {f i k f2 i2 k2 : Nat} {v : Int32} (h : ¬ (f2 = f ∧ i2 = i ∧ k2 = k)) : pm_u A f i k v f2 i2 k2 = A f2 i2 k2 := by simp only [pm_u, if_neg h]
theorem u_tr {A : Nat → Nat → Nat → Int32} {f i k f2 i2 k2 : Nat} {y : Nat × Nat} {v : Int32} (h : tr f i k = some y) (h2 : tr f2 i2 k2 = none) : pm_u A f i k v f2 i2 k2 = A f2 i2 k2 := by
  refine u_ne (fun e => ?_)
  obtain ⟨rfl, rfl, rfl⟩ := e
  rw [h] at h2
  cases h2
section REL
variable {A : Nat → Nat → Nat → Int32} {c : Nat → Int64} {H : Nat → Nat → Int32} {h : Nat → Int64} {v : Int32}
theorem rp_u {f i k : Nat} {y : Nat × Nat} (hr : RP A H) (ht : tr f i k = some y) : RP (pm_u A f i k v) (pm_v H y.1 y.2 v) := by
  intro f2 i2 k2 y2 h2
  by_cases e : f2 = f ∧ i2 = i ∧ k2 = k
  · obtain ⟨rfl, rfl, rfl⟩ := e
    rw [ht] at h2
    cases h2
    rw [u_eq, v_eq]
  · rw [u_ne e, hr _ _ _ _ h2, v_ne]
    intro e2
    have : y2 = y := Prod.ext e2.1 e2.2
    subst this
    exact e (tr_inj h2 ht)
theorem rp_a {f i k : Nat} (hr : RP A H) (ht : tr f i k = none) : RP (pm_u A f i k v) H := by
  intro f2 i2 k2 y2 h2
  rw [u_ne]
  · exact hr _ _ _ _ h2
  · rintro ⟨rfl, rfl, rfl⟩
    rw [ht] at h2
    cases h2
theorem rp_g {f k : Nat} (hr : RP A H) (hf : f = 22 ∨ f = 29 ∨ f = 30 ∨ f = 31 ∨ f = 39 ∨ f = 44 ∨ (f = 20 ∧ k = 0)) : RP A (pm_v H f k v) := by
  intro f2 i2 k2 y2 h2
  have := tr_in h2
  rw [v_ne (by intro e; omega)]
  exact hr _ _ _ _ h2
theorem tr80 {i : Nat} : tr 8 i 0 = none := by simp [tr]
theorem tr87 {i : Nat} : tr 8 i 7 = none := by simp [tr]
theorem tr814 {i : Nat} : tr 8 i 14 = none := by simp [tr]
theorem tr815 {i : Nat} : tr 8 i 15 = none := by simp [tr]
theorem tr135 {i : Nat} : tr 13 i 5 = none := by simp [tr]
theorem tr6 {i k : Nat} : tr 6 i k = none := by simp [tr]
theorem tr7 {i k : Nat} : tr 7 i k = none := by simp [tr]
theorem t6 {i : Nat} (hi : i < 8) : tr 8 i 6 = some (21, i) := by simp [tr, hi]
theorem t8 {i : Nat} (hi : i < 8) : tr 8 i 8 = some (23, i) := by simp [tr, hi]
theorem t9 {i : Nat} (hi : i < 8) : tr 8 i 9 = some (24, i) := by simp [tr, hi]
theorem t10 {i : Nat} (hi : i < 8) : tr 8 i 10 = some (25, i) := by simp [tr, hi]
theorem t11 {i : Nat} (hi : i < 8) : tr 8 i 11 = some (26, i) := by simp [tr, hi]
theorem t12 {i : Nat} (hi : i < 8) : tr 8 i 12 = some (27, i) := by simp [tr, hi]
theorem t13 {i : Nat} (hi : i < 8) : tr 8 i 13 = some (28, i) := by simp [tr, hi]
theorem tfi {i k : Nat} (hi : i < 8) (hk : k < 6) : tr 9 i k = some (32, 6 * i + k) := by simp [tr, hi, hk]
theorem tac {i k : Nat} (hi : i < 8) (h1 : 1 ≤ k) (hk : k < 8) : tr 10 i k = some (33, 8 * i + k) := by simp [tr, hi, hk, h1]
theorem ttk {i k : Nat} (hi : i < 8) (hk : k < 8) : tr 11 i k = some (41, 8 * i + k) := by simp [tr, hi, hk]
theorem thd {i k : Nat} (hi : i < 8) (hk : k < 16) : tr 12 i k = some (40, 16 * i + k) := by simp [tr, hi, hk]
theorem tk0 {i : Nat} (hi : i < 8) : tr 13 i 0 = some (34, i) := by simp [tr, hi]
theorem tk1 {i : Nat} (hi : i < 8) : tr 13 i 1 = some (35, i) := by simp [tr, hi]
theorem tk2 {i : Nat} (hi : i < 8) : tr 13 i 2 = some (36, i) := by simp [tr, hi]
theorem tk4 {i : Nat} (hi : i < 8) : tr 13 i 4 = some (38, i) := by simp [tr, hi]
theorem tbl : tr 0 0 3 = some (20, 20) := rfl
theorem trd : tr 3 0 3 = some (20, 26) := rfl
theorem tll : tr 3 0 4 = some (20, 27) := rfl
theorem tfg : tr 3 0 5 = some (20, 25) := rfl
theorem twr : tr 3 0 6 = some (20, 28) := rfl
theorem tpm {j : Nat} (hj : j < 6) : tr 4 j 1 = some (43, j) := by simp [tr, hj]
theorem tpc {j k : Nat} (hj : j < 6) (hk : k < 12) : tr 5 j k = some (42, 12 * j + k) := by simp [tr, hj, hk]
theorem trl {k : Nat} (hk : k < 8) : tr 14 0 k = some (45, k) := by simp [tr, hk]
theorem tsc {k : Nat} (hk : k < 64) : tr 15 0 k = some (46, k) := by simp [tr, hk]
theorem us_congr {H' : Nat → Nat → Int32} (h26 : H' 20 26 = H 20 26) (h27 : H' 20 27 = H 20 27) (h45 : ∀ k, H' 45 k = H 45 k) : usN H' = usN H := by
  unfold usN
  rw [h26, h27, sumL_congr h45]
theorem rt_congr {A' : Nat → Nat → Nat → Int32} {H' : Nat → Nat → Int32} (hr : Rt A H) (h6 : A' 6 0 1 = A 6 0 1) (h7 : ∀ k, A' 7 0 k = A 7 0 k) (h26 : H' 20 26 = H 20 26) (h27 : H' 20 27 = H 20 27) (h45 : ∀ k, H' 45 k = H 45 k) (h44 : ∀ k, H' 44 k = H 44 k) : Rt A' H' := by
  unfold Rt
  rw [us_congr h26 h27 h45, h6]
  exact ⟨hr.1, fun k hk => by rw [h7, h44]; exact hr.2 k hk⟩
/-- a cell that both have, and on which nothing else hangs -/
theorem rl_u {f i k : Nat} {y : Nat × Nat} (hr : Rel A c H h) (ht : tr f i k = some y) (hf : y.1 ≠ 21 ∧ y.1 ≠ 34 ∧ y.1 ≠ 45 ∧ ¬ (y.1 = 20 ∧ (y.2 = 26 ∨ y.2 = 27))) : Rel (pm_u A f i k v) c (pm_v H y.1 y.2 v) h := by
  obtain ⟨h1, h2, h3⟩ := hr
  have hy := tr_in ht
  refine ⟨rp_u h1 ht, ?_, ?_⟩
  · intro j hj
    rw [u_tr ht tr80, u_tr ht tr87, u_tr ht tr814, u_tr ht tr815, u_tr ht tr135, v_f (by omega), v_f (by omega), v_f (by omega), v_f (by omega), v_f (by omega), v_f (by omega)]
    exact h2 j hj
  · exact rt_congr h3 (u_tr ht tr6) (fun k => u_tr ht tr7) (v_ne (by omega)) (v_ne (by omega)) (fun k => v_f (by omega)) (fun k => v_f (by omega))
theorem rl_21 {i : Nat} (hi : i < 8) (hr : Rel A c H h) (c1 : v ≠ nI 0 → A 8 i 7 = H 22 i) (c2 : v = nI 4 → A 8 i 14 = H 29 i) (c3 : v = nI 3 → A 8 i 15 = H 31 i) (c4 : H 34 i ≠ nI 0 → v ≠ nI 1 → A 13 i 5 = H 39 i + nI 1) : Rel (pm_u A 8 i 6 v) c (pm_v H 21 i v) h := by
  obtain ⟨h1, h2, h3⟩ := hr
  refine ⟨rp_u h1 (t6 hi), ?_, rt_congr h3 (u_ne (by omega)) (fun k => u_ne (by omega)) (v_f (by decide)) (v_f (by decide)) (fun k => v_f (by decide)) (fun k => v_f (by decide))⟩
  intro j hj
  rw [u_ne (by omega), u_ne (by omega), u_ne (by omega), u_ne (by omega), u_ne (by omega), v_f (show (22 : Nat) ≠ 21 by decide), v_f (show (29 : Nat) ≠ 21 by decide), v_f (show (31 : Nat) ≠ 21 by decide), v_f (show (34 : Nat) ≠ 21 by decide), v_f (show (39 : Nat) ≠ 21 by decide)]
  by_cases e : j = i
  · subst e
    rw [v_eq]
    exact ⟨(h2 j hj).1, c1, c2, c3, (h2 j hj).2.2.2.2.1, c4⟩
  · rw [v_k e]
    exact h2 j hj
theorem rl_34 {i : Nat} (hi : i < 8) (hr : Rel A c H h) (c1 : v = nI 2 → c i = h i) (c2 : v ≠ nI 0 → H 21 i ≠ nI 1 → A 13 i 5 = H 39 i + nI 1) : Rel (pm_u A 13 i 0 v) c (pm_v H 34 i v) h := by
  obtain ⟨h1, h2, h3⟩ := hr
  refine ⟨rp_u h1 (tk0 hi), ?_, rt_congr h3 (u_ne (by omega)) (fun k => u_ne (by omega)) (v_f (by decide)) (v_f (by decide)) (fun k => v_f (by decide)) (fun k => v_f (by decide))⟩
  intro j hj
  rw [u_ne (by omega), u_ne (by omega), u_ne (by omega), u_ne (by omega), u_ne (by omega), v_f (show (22 : Nat) ≠ 34 by decide), v_f (show (29 : Nat) ≠ 34 by decide), v_f (show (31 : Nat) ≠ 34 by decide), v_f (show (21 : Nat) ≠ 34 by decide), v_f (show (39 : Nat) ≠ 34 by decide)]
  by_cases e : j = i
  · subst e
    rw [v_eq]
    exact ⟨(h2 j hj).1, (h2 j hj).2.1, (h2 j hj).2.2.1, (h2 j hj).2.2.2.1, c1, c2⟩
  · rw [v_k e]
    exact h2 j hj
theorem rl_p {i : Nat} (hi : i < 8) (hr : Rel A c H h) : Rel (pm_u A 8 i 7 v) c (pm_v H 22 i v) h := by
  obtain ⟨h1, h2, h3⟩ := hr
  refine ⟨rp_g (rp_a h1 tr87) (by omega), ?_, rt_congr h3 (u_ne (by omega)) (fun k => u_ne (by omega)) (v_f (by decide)) (v_f (by decide)) (fun k => v_f (by decide)) (fun k => v_f (by decide))⟩
  intro j hj
  rw [u_ne (f2 := 8) (k2 := 0) (by omega), u_ne (f2 := 8) (k2 := 14) (by omega), u_ne (f2 := 8) (k2 := 15) (by omega), u_ne (f2 := 13) (by omega), v_f (show (21 : Nat) ≠ 22 by decide), v_f (show (29 : Nat) ≠ 22 by decide), v_f (show (31 : Nat) ≠ 22 by decide), v_f (show (34 : Nat) ≠ 22 by decide), v_f (show (39 : Nat) ≠ 22 by decide)]
  by_cases e : j = i
  · subst e
    rw [v_eq, u_eq]
    have := h2 j hj
    exact ⟨this.1, fun _ => rfl, this.2.2⟩
  · rw [v_k e, u_ne (by omega)]
    exact h2 j hj
theorem rl_pa {i : Nat} (hi : i < 8) (hr : Rel A c H h) (hz : H 21 i = nI 0) : Rel (pm_u A 8 i 7 v) c H h := by
  obtain ⟨h1, h2, h3⟩ := hr
  refine ⟨rp_a h1 tr87, ?_, rt_congr h3 (u_ne (by omega)) (fun k => u_ne (by omega)) rfl rfl (fun k => rfl) (fun k => rfl)⟩
  intro j hj
  rw [u_ne (f2 := 8) (k2 := 0) (by omega), u_ne (f2 := 8) (k2 := 14) (by omega), u_ne (f2 := 8) (k2 := 15) (by omega), u_ne (f2 := 13) (by omega)]
  by_cases e : j = i
  · subst e
    have := h2 j hj
    exact ⟨this.1, fun h' => absurd hz h', this.2.2⟩
  · rw [u_ne (by omega)]
    exact h2 j hj
theorem rl_14 {i : Nat} (hi : i < 8) (hr : Rel A c H h) : Rel (pm_u A 8 i 14 v) c (pm_v H 29 i v) h := by
  obtain ⟨h1, h2, h3⟩ := hr
  refine ⟨rp_g (rp_a h1 tr814) (by omega), ?_, rt_congr h3 (u_ne (by omega)) (fun k => u_ne (by omega)) (v_f (by decide)) (v_f (by decide)) (fun k => v_f (by decide)) (fun k => v_f (by decide))⟩
  intro j hj
  rw [u_ne (f2 := 8) (k2 := 0) (by omega), u_ne (f2 := 8) (k2 := 7) (by omega), u_ne (f2 := 8) (k2 := 15) (by omega), u_ne (f2 := 13) (by omega), v_f (show (21 : Nat) ≠ 29 by decide), v_f (show (22 : Nat) ≠ 29 by decide), v_f (show (31 : Nat) ≠ 29 by decide), v_f (show (34 : Nat) ≠ 29 by decide), v_f (show (39 : Nat) ≠ 29 by decide)]
  by_cases e : j = i
  · subst e
    rw [v_eq, u_eq]
    have := h2 j hj
    exact ⟨this.1, this.2.1, fun _ => rfl, this.2.2.2⟩
  · rw [v_k e, u_ne (by omega)]
    exact h2 j hj
theorem rl_15 {i : Nat} (hi : i < 8) (hr : Rel A c H h) : Rel (pm_u A 8 i 15 v) c (pm_v H 31 i v) h := by
  obtain ⟨h1, h2, h3⟩ := hr
  refine ⟨rp_g (rp_a h1 tr815) (by omega), ?_, rt_congr h3 (u_ne (by omega)) (fun k => u_ne (by omega)) (v_f (by decide)) (v_f (by decide)) (fun k => v_f (by decide)) (fun k => v_f (by decide))⟩
  intro j hj
  rw [u_ne (f2 := 8) (k2 := 0) (by omega), u_ne (f2 := 8) (k2 := 7) (by omega), u_ne (f2 := 8) (k2 := 14) (by omega), u_ne (f2 := 13) (by omega), v_f (show (21 : Nat) ≠ 31 by decide), v_f (show (22 : Nat) ≠ 31 by decide), v_f (show (29 : Nat) ≠ 31 by decide), v_f (show (34 : Nat) ≠ 31 by decide), v_f (show (39 : Nat) ≠ 31 by decide)]
  by_cases e : j = i
  · subst e
    rw [v_eq, u_eq]
    have := h2 j hj
    exact ⟨this.1, this.2.1, this.2.2.1, fun _ => rfl, this.2.2.2.2⟩
  · rw [v_k e, u_ne (by omega)]
    exact h2 j hj
theorem rl_5 {i : Nat} {w : Int32} (hi : i < 8) (hr : Rel A c H h) (hv : v = w + nI 1) : Rel (pm_u A 13 i 5 v) c (pm_v H 39 i w) h := by
  obtain ⟨h1, h2, h3⟩ := hr
  refine ⟨rp_g (rp_a h1 tr135) (by omega), ?_, rt_congr h3 (u_ne (by omega)) (fun k => u_ne (by omega)) (v_f (by decide)) (v_f (by decide)) (fun k => v_f (by decide)) (fun k => v_f (by decide))⟩
  intro j hj
  rw [u_ne (f2 := 8) (k2 := 0) (by omega), u_ne (f2 := 8) (k2 := 7) (by omega), u_ne (f2 := 8) (k2 := 14) (by omega), u_ne (f2 := 8) (k2 := 15) (by omega), v_f (show (21 : Nat) ≠ 39 by decide), v_f (show (22 : Nat) ≠ 39 by decide), v_f (show (29 : Nat) ≠ 39 by decide), v_f (show (34 : Nat) ≠ 39 by decide), v_f (show (31 : Nat) ≠ 39 by decide)]
  by_cases e : j = i
  · subst e
    rw [v_eq, u_eq]
    have := h2 j hj
    exact ⟨this.1, this.2.1, this.2.2.1, this.2.2.2.1, this.2.2.2.2.1, fun _ _ => hv⟩
  · rw [v_k e, u_ne (by omega)]
    exact h2 j hj
/-- what only the reference keeps -/
theorem rl_g {f i : Nat} (hr : Rel A c H h) (hf : f = 30 ∨ (f = 20 ∧ i = 0) ∨ (f = 29 ∧ (i < 8 → H 21 i ≠ nI 4)) ∨ (f = 31 ∧ (i < 8 → H 21 i ≠ nI 3)) ∨ (f = 39 ∧ (i < 8 → H 34 i = nI 0 ∨ H 21 i = nI 1)) ∨ (f = 22 ∧ (i < 8 → H 21 i = nI 0))) : Rel A c (pm_v H f i v) h := by
  obtain ⟨h1, h2, h3⟩ := hr
  refine ⟨rp_g h1 (by rcases hf with h | h | h | h | h | h <;> omega), ?_, rt_congr h3 rfl (fun k => rfl) (v_ne (by omega)) (v_ne (by omega)) (fun k => v_f (by omega)) (fun k => v_f (by omega))⟩
  intro j hj
  obtain ⟨q1, q2, q3, q4, q5, q6⟩ := h2 j hj
  rw [v_f (show (21 : Nat) ≠ f by omega), v_f (show (34 : Nat) ≠ f by omega)]
  refine ⟨q1, fun a => ?_, fun a => ?_, fun a => ?_, q5, fun a b => ?_⟩
  · rw [q2 a, v_ne]
    rintro ⟨rfl, rfl⟩
    rcases hf with h | h | h | h | h | h <;> first | omega | exact a (h.2 hj)
  · rw [q3 a, v_ne]
    rintro ⟨rfl, rfl⟩
    rcases hf with h | h | h | h | h | h <;> first | omega | exact h.2 hj a
  · rw [q4 a, v_ne]
    rintro ⟨rfl, rfl⟩
    rcases hf with h | h | h | h | h | h <;> first | omega | exact h.2 hj a
  · rw [q6 a b, v_ne]
    rintro ⟨rfl, rfl⟩
    rcases hf with h | h | h | h | h | h <;> first | omega | exact (h.2 hj).elim (fun e => a e) (fun e => b e)
theorem rl_c {i : Nat} {w : Int64} (hr : Rel A c H h) : Rel A (pm_w c i w) H (pm_w h i w) := by
  refine ⟨hr.1, fun j hj => ?_, hr.2.2⟩
  obtain ⟨q1, q2, q3, q4, q5, q6⟩ := hr.2.1 j hj
  refine ⟨q1, q2, q3, q4, fun a => ?_, q6⟩
  unfold pm_w
  split
  · rfl
  · exact q5 a
theorem rl_cc {i : Nat} {w : Int64} (hr : Rel A c H h) (hn : H 34 i ≠ nI 2) : Rel A (pm_w c i w) H h := by
  refine ⟨hr.1, fun j hj => ?_, hr.2.2⟩
  obtain ⟨q1, q2, q3, q4, q5, q6⟩ := hr.2.1 j hj
  refine ⟨q1, q2, q3, q4, fun a => ?_, q6⟩
  unfold pm_w
  split
  · rename_i e
    subst e
    exact absurd a hn
  · exact q5 a
theorem r_no (hr : Rel A c H h) {i : Nat} (hi : i < 8) : A 8 i 0 = nI i := (hr.2.1 i hi).1
theorem r_6 (hr : Rel A c H h) {i : Nat} (hi : i < 8) : A 8 i 6 = H 21 i := hr.1 _ _ _ _ (t6 hi)
theorem r_7 (hr : Rel A c H h) {i : Nat} (hi : i < 8) (hz : H 21 i ≠ nI 0) : A 8 i 7 = H 22 i := (hr.2.1 i hi).2.1 hz
theorem r_8 (hr : Rel A c H h) {i : Nat} (hi : i < 8) : A 8 i 8 = H 23 i := hr.1 _ _ _ _ (t8 hi)
theorem r_9 (hr : Rel A c H h) {i : Nat} (hi : i < 8) : A 8 i 9 = H 24 i := hr.1 _ _ _ _ (t9 hi)
theorem r_10 (hr : Rel A c H h) {i : Nat} (hi : i < 8) : A 8 i 10 = H 25 i := hr.1 _ _ _ _ (t10 hi)
theorem r_11 (hr : Rel A c H h) {i : Nat} (hi : i < 8) : A 8 i 11 = H 26 i := hr.1 _ _ _ _ (t11 hi)
theorem r_12 (hr : Rel A c H h) {i : Nat} (hi : i < 8) : A 8 i 12 = H 27 i := hr.1 _ _ _ _ (t12 hi)
theorem r_13 (hr : Rel A c H h) {i : Nat} (hi : i < 8) : A 8 i 13 = H 28 i := hr.1 _ _ _ _ (t13 hi)
theorem r_f (hr : Rel A c H h) {i k : Nat} (hi : i < 8) (hk : k < 6) : A 9 i k = H 32 (6 * i + k) := hr.1 _ _ _ _ (tfi hi hk)
theorem r_a (hr : Rel A c H h) {i k : Nat} (hi : i < 8) (h1 : 1 ≤ k) (hk : k < 8) : A 10 i k = H 33 (8 * i + k) := hr.1 _ _ _ _ (tac hi h1 hk)
theorem r_t (hr : Rel A c H h) {i k : Nat} (hi : i < 8) (hk : k < 8) : A 11 i k = H 41 (8 * i + k) := hr.1 _ _ _ _ (ttk hi hk)
theorem r_h (hr : Rel A c H h) {i k : Nat} (hi : i < 8) (hk : k < 16) : A 12 i k = H 40 (16 * i + k) := hr.1 _ _ _ _ (thd hi hk)
theorem r_k0 (hr : Rel A c H h) {i : Nat} (hi : i < 8) : A 13 i 0 = H 34 i := hr.1 _ _ _ _ (tk0 hi)
theorem r_k1 (hr : Rel A c H h) {i : Nat} (hi : i < 8) : A 13 i 1 = H 35 i := hr.1 _ _ _ _ (tk1 hi)
theorem r_k2 (hr : Rel A c H h) {i : Nat} (hi : i < 8) : A 13 i 2 = H 36 i := hr.1 _ _ _ _ (tk2 hi)
theorem r_k4 (hr : Rel A c H h) {i : Nat} (hi : i < 8) : A 13 i 4 = H 38 i := hr.1 _ _ _ _ (tk4 hi)
theorem r_bl (hr : Rel A c H h) : A 0 0 3 = H 20 20 := hr.1 _ _ _ _ tbl
theorem r_rd (hr : Rel A c H h) : A 3 0 3 = H 20 26 := hr.1 _ _ _ _ trd
theorem r_ll (hr : Rel A c H h) : A 3 0 4 = H 20 27 := hr.1 _ _ _ _ tll
theorem r_fg (hr : Rel A c H h) : A 3 0 5 = H 20 25 := hr.1 _ _ _ _ tfg
theorem r_wr (hr : Rel A c H h) : A 3 0 6 = H 20 28 := hr.1 _ _ _ _ twr
theorem r_pm (hr : Rel A c H h) {j : Nat} (hj : j < 6) : A 4 j 1 = H 43 j := hr.1 _ _ _ _ (tpm hj)
theorem r_pc (hr : Rel A c H h) {j k : Nat} (hj : j < 6) (hk : k < 12) : A 5 j k = H 42 (12 * j + k) := hr.1 _ _ _ _ (tpc hj hk)
theorem r_rl (hr : Rel A c H h) {k : Nat} (hk : k < 8) : A 14 0 k = H 45 k := hr.1 _ _ _ _ (trl hk)
theorem r_sc (hr : Rel A c H h) {k : Nat} (hk : k < 64) : A 15 0 k = H 46 k := hr.1 _ _ _ _ (tsc hk)
end REL
