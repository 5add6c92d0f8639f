/-! @75.inw@ the invariant under delivery -/
theorem bt_fg {x : Int32} {s k : Nat} (hs : s < 8) (hk : k < 8) : bt (x &&& (((nI 1) <<< (nI s &&& 31)) ^^^ (-nI 1))) k = (bt x k && !decide (s = k)) := by rw [bt_and, bt_not _ (by omega), bt_bit hs]
theorem iv_fgt {e t p s : Nat} {G : Nat → Nat → Int32} (hI : Iv e t G) (hp : p < 8) (hs : s < 8) : Iv e t (fgt G p s) := by
  refine iv_pend hI hp (fun he h k h1 hk => ?_) (fun k h1 hk h => ?_)
  · have := hI.1.2.2.2.2.1 p hp he h k h1 hk
    rw [due_iff hk] at this
    rw [bt_fg hs hk]
    grind
  · rw [bt_fg hs hk, hI.1.2.2.2.2.2.1 p hp k h1 hk h]
    rfl
theorem hear_f {G : Nat → Nat → Int32} {p : Nat} {s : Int32} {f k : Nat} (h : ¬ (f = 40) ∧ ¬ (f = 28 ∧ k = p) ∧ ¬ (f = 26 ∧ k = p) ∧ ¬ (f = 21 ∧ k = p) ∧ ¬ (f = 34 ∧ k = p)) : hearF G p s f k = G f k := by
  unfold hearF finF
  split <;> grind [pm_v]
theorem tell_f {G : Nat → Nat → Int32} {p : Nat} {f k : Nat} (h : ¬ (f = 40) ∧ ¬ (f = 28 ∧ k = p) ∧ ¬ (f = 26 ∧ k = p) ∧ ¬ (f = 21 ∧ k = p) ∧ ¬ (f = 34 ∧ k = p) ∧ ¬ (f = 25 ∧ k = p)) : tellF G p f k = G f k := by
  unfold tellF
  split
  · split
    · grind [pm_v]
    · exact hear_f ⟨h.1, h.2.1, h.2.2.1, h.2.2.2.1, h.2.2.2.2.1⟩
  · rfl
/-- no signal below k is due for p -/
def Dn (p k : Nat) (G : Nat → Nat → Int32) : Prop := (G 21 p = nI 1 ∨ G 21 p = nI 2) → ∀ s, 1 ≤ s → s < k → due G p s = false
theorem due_congr {G G' : Nat → Nat → Int32} {p : Nat} (h1 : G' 25 p = G 25 p) (h2 : G' 24 p = G 24 p) (s : Nat) : due G' p s = due G p s := by
  unfold due
  rw [h1, h2]
theorem due_fgt {G : Nat → Nat → Int32} {p s k : Nat} (hs : s < 8) (hk : k < 8) : due (fgt G p s) p k = (due G p k && !decide (s = k)) := by
  rw [due_iff hk, due_iff hk]
  unfold fgt
  rw [v_eq, v_f (by decide), bt_fg hs hk]
  cases bt (G 25 p) k <;> cases bt (G 24 p) k <;> cases decide (s = k) <;> rfl
theorem iv_dst {t p s : Nat} {G : Nat → Nat → Int32} (hI : Iv p t G) (hp : p < 8) (hs1 : 1 ≤ s) (hs : s < 8) (hD : Dn p s G) : Iv p (t + 1) (dst G p s) ∧ Dn p (s + 1) (dst G p s) := by
  have nd := nd
  unfold dst
  split
  · rename_i h
    obtain ⟨ha, hd⟩ := h
    have hf := iv_fgt (s := s) hI hp hs
    have haf : (fgt G p s) 21 p = nI 1 ∨ (fgt G p s) 21 p = nI 2 := by
      unfold fgt
      rw [v_f (by decide)]
      exact ha
    have hDf : ∀ k, 1 ≤ k → k < s + 1 → due (fgt G p s) p k = false := by
      intro k h1 hk
      rw [due_fgt hs (by omega)]
      by_cases hks : s = k
      · simp [hks]
      · rw [hD ha k h1 (by omega)]
        rfl
    split
    · refine ⟨iv_hear hf hp haf, fun _ k h1 hk => ?_⟩
      rw [due_congr (G := fgt G p s) (hear_f (by simp)) (hear_f (by simp))]
      exact hDf k h1 hk
    · split
      · unfold byDefF
        split
        · exact ⟨iv_mono hf (Nat.le_succ t), fun _ => hDf⟩
        · rename_i hp0
          have hA : A1 (fgt G p s) p := by
            unfold A1
            grind
          split
          · refine ⟨iv_ex (iv_finish hf (by omega) hp (Or.inl rfl) hA), fun h => ?_⟩
            obtain ⟨-, hq, -, hqp, -⟩ := iv_end (how := nI (64 + s)) hf (by omega) hp (Or.inl rfl) hA
            exfalso
            unfold finishF at h
            rw [tell_f (by grind)] at h
            unfold endF at h
            grind [pm_v]
          · split
            · refine ⟨iv_ex (iv_halt hf (by omega) hp (Or.inl rfl) haf), fun h => ?_⟩
              obtain ⟨-, hq, -, hqp, -⟩ := iv_hal1 hf (by omega) hp (Or.inl rfl) haf
              exfalso
              unfold haltF at h
              rw [tell_f (by grind)] at h
              grind [pm_v]
            · exact ⟨iv_mono hf (Nat.le_succ t), fun _ => hDf⟩
      · exact ⟨iv_mono hf (Nat.le_succ t), fun _ => hDf⟩
  · rename_i h
    refine ⟨iv_mono hI (Nat.le_succ t), fun ha k h1 hk => ?_⟩
    by_cases hks : k = s
    · subst hks
      cases hd : due G p k with
      | false => rfl
      | true => exact absurd ⟨ha, hd⟩ h
    · exact hD ha k h1 (by omega)
theorem iv_delN {p : Nat} (hp : p < 8) : ∀ (n : Nat) {t s : Nat} {G : Nat → Nat → Int32}, Iv p t G → 1 ≤ s → s + n = 8 → Dn p s G → Iv p (t + n) (delN G p s n) ∧ Dn p 8 (delN G p s n)
  | 0, t, s, G, hI, h1, h8, hD => ⟨hI, by
      have : s = 8 := by omega
      subst this
      exact hD⟩
  | n + 1, t, s, G, hI, h1, h8, hD => by
    obtain ⟨h2, h3⟩ := iv_dst hI hp h1 (by omega) hD
    have := iv_delN hp n h2 (by omega) (by omega) h3
    rw [show t + (n + 1) = t + 1 + n from by omega]
    exact this
theorem iv_in {p t : Nat} {G : Nat → Nat → Int32} (hI : Iv p t G) (hD : Dn p 8 G) : Iv 8 t G := by
  obtain ⟨⟨i1, i2, i3, i4, i5, i6, i7, i12⟩, ig⟩ := hI
  refine ⟨⟨i1, i2, i3, i4, fun q hq _ h => ?_, i6, i7, i12⟩, ig⟩
  by_cases hqp : q = p
  · subst hqp
    exact hD h
  · exact i5 q hq hqp h
theorem iv_del {p t : Nat} {G : Nat → Nat → Int32} (hI : Iv p t G) (hp : p < 8) : Iv 8 (t + 7) (delF G p) := by
  obtain ⟨h1, h2⟩ := iv_delN hp 7 hI (Nat.le_refl 1) rfl (fun _ s h1 h2 => absurd h1 (by omega))
  exact iv_in h1 h2
theorem bt49 {s : Nat} (h : s < 8) : bt (-nI 49) s = (decide (s ≠ 4) && decide (s ≠ 5)) := by
  revert s
  decide
theorem bt65 {s : Nat} (h : s < 8) : bt (-nI 65) s = decide (s ≠ 6) := by
  revert s
  decide
theorem iv_st {p t : Nat} {G : Nat → Nat → Int32} (hI : Iv p t G) (hp : p < 8) (h3 : G 21 p = nI 3) : Iv p t (pm_v G 21 p (G 30 p)) := by
  obtain ⟨⟨i1, i2, i3, i4, i5, i6, i7, i12⟩, ig⟩ := hI
  have nd := nd
  have i7p := i7 p hp
  have hb : G 30 p = nI 1 ∨ G 30 p = nI 2 := by
    by_cases h : G 34 p = nI 0
    · exact Or.inl ((i7p.2.2.2 h3).1 h)
    · exact Or.inr ((i7p.2.2.2 h3).2 h)
  refine ⟨⟨?_, ?_, ?_, ?_, ?_, ?_, ?_, ?_⟩, ig_frame ig ?_ ?_ ?_ ?_ ?_ ?_ ?_ ?_⟩
  · unfold I1 at *; intro k hk; have := i1 k hk; grind [pm_v]
  · unfold I2 at *; grind [pm_v]
  · intro k h1 hk h0
    obtain ⟨r, hr, e1, e2, e3⟩ := i3 k h1 hk (by grind [pm_v])
    exact ⟨r, hr, by grind [pm_v], e2, by unfold A1 at *; grind [pm_v]⟩
  · unfold I4 at *; intro k hk s hs; have := i4 k hk s hs; grind [pm_v]
  · unfold I5 due at *; intro k hk he h s; have := i5 k hk; grind [pm_v]
  · unfold I6 at *; intro k hk s; have := i6 k hk s; grind [pm_v]
  · intro k hk
    have i7k := i7 k hk
    by_cases hkp : k = p
    · subst hkp
      rw [v_eq, v_f (by decide), v_f (by decide)]
      clear i7 i1 i2 i3 i4 i5 i6
      grind
    · rw [v_k hkp, v_f (by decide), v_f (by decide)]
      exact i7k
  · intro k hk
    obtain ⟨h, h1, h2⟩ := i12 k hk
    exact ⟨h, h1, by grind [pm_v]⟩
  all_goals intros; grind [pm_v]
theorem iv_ad1 {p t s : Nat} {G : Nat → Nat → Int32} (hI : Iv p t G) (hp : p < 8) (ha : A1 G p) : Iv p t (ad1 G p s) ∧ A1 (ad1 G p s) p := by
  have nd := nd
  have h49 : Iv p t (pm_v G 25 p (G 25 p &&& -nI 49)) := iv_pend hI hp (fun h => absurd rfl h) (fun k h1 hk h => by rw [bt_and, hI.1.2.2.2.2.2.1 p hp k h1 hk h]; rfl)
  have h65 : Iv p t (pm_v G 25 p (G 25 p &&& -nI 65)) := iv_pend hI hp (fun h => absurd rfl h) (fun k h1 hk h => by rw [bt_and, hI.1.2.2.2.2.2.1 p hp k h1 hk h]; rfl)
  unfold ad1
  split
  · split
    · rename_i h3
      have := iv_st h49 hp (by rw [v_f (by decide)]; exact h3)
      rw [v_f (by decide)] at this
      refine ⟨this, ?_⟩
      have i7p := hI.1.2.2.2.2.2.2.1 p hp
      unfold A1
      rw [v_eq]
      clear this
      grind
    · refine ⟨h49, ?_⟩
      unfold A1 at *
      rw [v_f (by decide)]
      exact ha
  · split
    · refine ⟨h65, ?_⟩
      unfold A1 at *
      rw [v_f (by decide)]
      exact ha
    · exact ⟨hI, ha⟩
theorem ad1_33 {G : Nat → Nat → Int32} {p s k : Nat} : ad1 G p s 33 k = G 33 k := by
  unfold ad1
  split
  · split <;> grind [pm_v]
  · split <;> grind [pm_v]
theorem iv_adm {p t s : Nat} {G : Nat → Nat → Int32} (hI : Iv p t G) (hp : p < 8) (hs : s < 8) (ha : A1 G p) : Iv p t (admF G p s) ∧ A1 (admF G p s) p := by
  obtain ⟨h1, h2⟩ := iv_ad1 (s := s) hI hp ha
  unfold admF
  split
  · rename_i h
    refine ⟨iv_pend h1 hp (fun h => absurd rfl h) (fun k hk1 hk hh => ?_), ?_⟩
    · rw [bt_or, h1.1.2.2.2.2.2.1 p hp k hk1 hk hh, bt_bit hs]
      rw [ad1_33] at hh
      by_cases hks : s = k
      · subst hks
        unfold stp at h
        simp [hh] at h
      · simp [hks]
    · unfold A1 at *
      rw [v_f (by decide)]
      exact h2
  · exact ⟨h1, h2⟩
theorem iv_com {p t s : Nat} {G : Nat → Nat → Int32} (hI : Iv 8 t G) (hp : p < 8) (hs : s ≤ 8) : Iv 8 (t + 7) (comF G p s) := by
  unfold comF
  split
  · rename_i h
    have ha := (lv_A (hI.1.1 p hp)).mp h
    split
    · split
      · exact iv_mono hI (by omega)
      · exact iv_mono (iv_finish hI (by omega) hp (Or.inr rfl) ha) (by omega)
    · exact iv_del (iv_adm (iv_ex hI) hp (by omega) ha).1 hp
  · exact iv_mono hI (by omega)
theorem iv_cpN {s : Nat} {q : Int32} (hs : s ≤ 8) : ∀ (n : Nat) {t k : Nat} {G : Nat → Nat → Int32}, Iv 8 t G → k + n = 8 → Iv 8 (t + 7 * n) (cpN G q s k n)
  | 0, t, k, G, hI, _ => hI
  | n + 1, t, k, G, hI, h8 => by
    have h2 : Iv 8 (t + 7) (if lv G k = true ∧ G 23 k = q then comF G k s else G) := by
      split
      · exact iv_com hI (by omega) hs
      · exact iv_mono hI (by omega)
    have := iv_cpN (q := q) hs n h2 (k := k + 1) (by omega)
    rw [show t + 7 * (n + 1) = t + 7 + 7 * n from by omega]
    exact this
theorem iv_cp {s t : Nat} {q : Int32} {G : Nat → Nat → Int32} (hI : Iv 8 t G) (hs : s ≤ 8) : Iv 8 (t + 56) (cpF G q s) := iv_cpN hs 8 hI rfl
