/-! @75.inv@ the invariant under signals -/
theorem iv_pend {e t p : Nat} {G : Nat → Nat → Int32} {v : Int32} (hI : Iv e t G) (hp : p < 8) (h5 : p ≠ e → (G 21 p = nI 1 ∨ G 21 p = nI 2) → ∀ s, 1 ≤ s → s < 8 → (bt v s && !bt (G 24 p) s) = false) (h6 : ∀ s, 1 ≤ s → s < 8 → G 33 (8 * p + s) = nI 1 → bt v s = false) : Iv e t (pm_v G 25 p v) := by
  obtain ⟨⟨i1, i2, i3, i4, i5, i6, i7, i12⟩, ig⟩ := hI
  refine ⟨⟨?_, ?_, ?_, ?_, ?_, ?_, ?_, ?_⟩, ig_frame ig ?_ ?_ ?_ ?_ ?_ ?_ ?_ ?_⟩
  · unfold I1 at *; intro q hq; have := i1 q hq; grind [pm_v]
  · unfold I2 at *; grind [pm_v]
  · intro q h1 hq h0
    obtain ⟨r, hr, e1, e2, e3⟩ := i3 q h1 hq (by grind [pm_v])
    exact ⟨r, hr, by grind [pm_v], e2, by unfold A1 at *; grind [pm_v]⟩
  · unfold I4 at *; intro q hq s hs; have := i4 q hq s hs; grind [pm_v]
  · intro q hq he h s hs1 hs
    rw [due_iff hs]
    rw [v_f (by decide)] at h
    rw [v_f (show (24 : Nat) ≠ 25 by decide)]
    by_cases hqp : q = p
    · subst hqp
      rw [v_eq]
      exact h5 he h s hs1 hs
    · rw [v_k hqp]
      have := i5 q hq he h s hs1 hs
      rwa [due_iff hs] at this
  · intro q hq s hs1 hs h
    rw [v_f (by decide)] at h
    by_cases hqp : q = p
    · subst hqp
      rw [v_eq]
      exact h6 s hs1 hs h
    · rw [v_k hqp]
      exact i6 q hq s hs1 hs h
  · unfold I7 at *; intro q hq; have := i7 q hq; grind [pm_v]
  · intro q hq
    obtain ⟨h, h1, h2⟩ := i12 q hq
    exact ⟨h, h1, by grind [pm_v]⟩
  all_goals intros; grind [pm_v]
theorem bt128 {s : Nat} (h : s < 8) : bt (nI 128) s = decide (s = 7) := by
  revert s
  decide
theorem iv_tell {e t p : Nat} {G : Nat → Nat → Int32} (hI : Iv e t G) (hp : p < 8) (ha : A1 G p) : Iv e (t + 1) (tellF G p) := by
  have nd := nd
  unfold tellF
  split
  · rename_i h2
    split
    · rename_i h3
      refine iv_mono (iv_pend hI hp ?_ ?_) (Nat.le_succ t)
      · intro hpe hs s hs1 hs8
        rw [bt_or, bt128 hs8]
        have h5 := hI.1.2.2.2.2.1 p hp hpe hs s hs1 hs8
        rw [due_iff hs8] at h5
        by_cases h7 : s = 7
        · subst h7
          rcases h3 with h3 | h3
          · grind
          · rw [(shr_bit (Or.inl rfl)).mp h3]
            simp
        · simp [h7, h5]
      · intro s hs1 hs8 h1
        rw [bt_or, bt128 hs8]
        have h6 := hI.1.2.2.2.2.2.1 p hp s hs1 hs8 h1
        have h7 : s ≠ 7 := by
          intro e
          subst e
          grind
        simp [h6, h7]
    · rename_i h3
      refine iv_hear hI hp ?_
      unfold A1 at ha
      grind
  · exact iv_mono hI (Nat.le_succ t)
theorem bt_0 (s : Nat) : bt (nI 0) s = false := by simp [bt, nI]
theorem iv_end {e t p : Nat} {G : Nat → Nat → Int32} {how : Int32} (hI : Iv e t G) (h1p : 1 ≤ p) (hp : p < 8) (he : e = p ∨ e = 8) (ha : A1 G p) : Iv 8 t (endF G p how) ∧ pa G p < 8 ∧ G 22 p = nI (pa G p) ∧ pa G p ≠ p ∧ A1 (endF G p how) (pa G p) := by
  obtain ⟨⟨i1, i2, i3, i4, i5, i6, i7, i12⟩, ig⟩ := hI
  have nd := nd
  obtain ⟨q, hq, eq1, hqp, hqa⟩ := i3 p h1p hp (by unfold A1 at ha; grind)
  have hpa : pa G p = q := by rw [pa, eq1, nI_clamp (by omega)]
  have zn : (0 : Int32) = nI 0 := nI_0.symm
  have hnq : nI q ≠ nI p := fun h => hqp (nI_inj h (by omega) (by omega))
  rw [hpa]
  refine ⟨⟨⟨?_, ?_, ?_, ?_, ?_, ?_, ?_, ?_⟩, ig_frame ig ?_ ?_ ?_ ?_ ?_ ?_ ?_ ?_⟩, hq, eq1, hqp, ?_⟩
  · unfold I1 at *; intro k hk; have := i1 k hk; unfold endF rp fz; grind [pm_v]
  · unfold I2 at *; unfold endF rp fz; grind [pm_v]
  · intro k h1 hk h0
    by_cases hkp : k = p
    · subst hkp
      exact ⟨q, hq, by unfold endF rp fz; grind [pm_v], hqp, by unfold A1 endF rp fz at *; grind [pm_v]⟩
    · have h0' : G 21 k ≠ nI 0 := by
        intro h
        apply h0
        unfold endF rp fz
        grind [pm_v]
      by_cases hk2 : G 22 k = nI p
      · refine ⟨0, by decide, by unfold endF rp fz; grind [pm_v], by omega, ?_⟩
        unfold A1 endF rp fz I2 at *
        grind [pm_v]
      · obtain ⟨r, hr, e1, e2, e3⟩ := i3 k h1 hk h0'
        have hrp : r ≠ p := by
          intro h
          subst h
          exact hk2 e1
        refine ⟨r, hr, by unfold endF rp fz; grind [pm_v], e2, ?_⟩
        unfold A1 endF rp fz at *
        grind [pm_v]
  · unfold I4 at *; intro k hk s hs; have := i4 k hk s hs; unfold endF rp fz; grind [pm_v]
  · intro k hk h8 h s hs1 hs
    by_cases hkp : k = p
    · subst hkp
      unfold endF rp fz at h
      grind [pm_v]
    · have h' : G 21 k = nI 1 ∨ G 21 k = nI 2 := by
        unfold endF rp fz at h
        grind [pm_v]
      have := i5 k hk (by omega) h' s hs1 hs
      rw [due_iff hs] at this ⊢
      unfold endF rp fz
      grind [pm_v]
  · intro k hk s hs1 hs h
    have := i6 k hk s hs1 hs
    by_cases hkp : k = p
    · subst hkp
      have e0 : endF G k how 25 k = nI 0 := by unfold endF rp fz; grind [pm_v]
      rw [e0]
      exact bt_0 s
    · unfold endF rp fz at *
      grind [pm_v]
  · intro k hk
    have i7k := i7 k hk
    by_cases hkp : k = p
    · subst hkp
      have e1 : endF G k how 34 k = nI 0 := by unfold endF; grind [pm_v]
      have e2 : endF G k how 21 k = nI 0 ∨ endF G k how 21 k = nI 4 := by unfold endF; grind [pm_v]
      clear i7 i7k i1 i2 i3 i4 i5 i6
      grind
    · have e1 : endF G p how 34 k = G 34 k := by unfold endF rp fz; grind [pm_v]
      have e2 : endF G p how 21 k = G 21 k := by unfold endF rp fz; grind [pm_v]
      have e3 : endF G p how 30 k = G 30 k := by unfold endF rp fz; grind [pm_v]
      rw [e1, e2, e3]
      exact i7k
  · intro k hk
    obtain ⟨h, h1, h2⟩ := i12 k hk
    exact ⟨h, h1, by unfold endF rp fz; grind [pm_v]⟩
  · intros; unfold endF rp fz; grind [pm_v]
  · intros; unfold endF rp fz; grind [pm_v]
  · intros; unfold endF rp fz; grind [pm_v]
  · intros; unfold endF rp fz; grind [pm_v]
  · intros; unfold endF rp fz; grind [pm_v]
  · intros; unfold endF rp fz; grind [pm_v]
  · intro k hk
    by_cases hkp : k = p
    · left; unfold endF rp fz; grind [pm_v]
    · right
      refine ⟨by unfold endF rp fz; grind [pm_v], fun f hf => ?_⟩
      unfold endF rp fz
      grind [pm_v]
  · intros; unfold endF rp fz; grind [pm_v]
  · unfold A1 endF rp fz at *; grind [pm_v]
theorem iv_finish {e t p : Nat} {G : Nat → Nat → Int32} {how : Int32} (hI : Iv e t G) (h1p : 1 ≤ p) (hp : p < 8) (he : e = p ∨ e = 8) (ha : A1 G p) : Iv 8 (t + 1) (finishF G p how) := by
  obtain ⟨h1, h2, -, -, h3⟩ := iv_end (how := how) hI h1p hp he ha
  exact iv_tell h1 h2 h3
theorem iv_hal1 {e t p : Nat} {G : Nat → Nat → Int32} (hI : Iv e t G) (h1p : 1 ≤ p) (hp : p < 8) (he : e = p ∨ e = 8) (ha : G 21 p = nI 1 ∨ G 21 p = nI 2) : Iv 8 t (pm_v (pm_v (pm_v G 30 p (G 21 p)) 21 p (nI 3)) 31 p (nI 0)) ∧ pa G p < 8 ∧ G 22 p = nI (pa G p) ∧ pa G p ≠ p ∧ A1 (pm_v (pm_v (pm_v G 30 p (G 21 p)) 21 p (nI 3)) 31 p (nI 0)) (pa G p) := by
  obtain ⟨⟨i1, i2, i3, i4, i5, i6, i7, i12⟩, ig⟩ := hI
  have nd := nd
  obtain ⟨q, hq, eq1, hqp, hqa⟩ := i3 p h1p hp (by grind)
  have hpa : pa G p = q := by rw [pa, eq1, nI_clamp (by omega)]
  rw [hpa]
  refine ⟨⟨⟨?_, ?_, ?_, ?_, ?_, ?_, ?_, ?_⟩, ig_frame ig ?_ ?_ ?_ ?_ ?_ ?_ ?_ ?_⟩, hq, eq1, hqp, ?_⟩
  · unfold I1 at *; intro k hk; have := i1 k hk; grind [pm_v]
  · unfold I2 at *; grind [pm_v]
  · intro k h1 hk h0
    obtain ⟨r, hr, e1, e2, e3⟩ := i3 k h1 hk (by grind [pm_v])
    exact ⟨r, hr, by grind [pm_v], e2, by unfold A1 at *; grind [pm_v]⟩
  · unfold I4 at *; intro k hk s hs; have := i4 k hk s hs; grind [pm_v]
  · unfold I5 due at *; intro k hk he h s; have := i5 k hk; grind [pm_v]
  · unfold I6 at *; intro k hk s; have := i6 k hk s; grind [pm_v]
  · intro k hk
    have i7k := i7 k hk
    by_cases hkp : k = p
    · subst hkp
      simp only [pm_v]
      clear i7 i1 i2 i3 i4 i5 i6
      simp
      grind
    · have e1 : (pm_v (pm_v (pm_v G 30 p (G 21 p)) 21 p (nI 3)) 31 p (nI 0)) 34 k = G 34 k := by grind [pm_v]
      have e2 : (pm_v (pm_v (pm_v G 30 p (G 21 p)) 21 p (nI 3)) 31 p (nI 0)) 21 k = G 21 k := by grind [pm_v]
      have e3 : (pm_v (pm_v (pm_v G 30 p (G 21 p)) 21 p (nI 3)) 31 p (nI 0)) 30 k = G 30 k := by grind [pm_v]
      rw [e1, e2, e3]
      exact i7k
  · intro k hk
    obtain ⟨h, h1, h2⟩ := i12 k hk
    exact ⟨h, h1, by grind [pm_v]⟩
  · intros; grind [pm_v]
  · intros; grind [pm_v]
  · intros; grind [pm_v]
  · intros; grind [pm_v]
  · intros; grind [pm_v]
  · intros; grind [pm_v]
  · intros; grind [pm_v]
  · intros; grind [pm_v]
  · unfold A1 at *; grind [pm_v]
theorem iv_halt {e t p : Nat} {G : Nat → Nat → Int32} (hI : Iv e t G) (h1p : 1 ≤ p) (hp : p < 8) (he : e = p ∨ e = 8) (ha : G 21 p = nI 1 ∨ G 21 p = nI 2) : Iv 8 (t + 1) (haltF G p) := by
  obtain ⟨h1, h2, -, -, h3⟩ := iv_hal1 hI h1p hp he ha
  exact iv_tell h1 h2 h3
