/-! @74.f1@ the invariant of the reference's memory -/
def A1 (G : Nat → Nat → Int32) (p : Nat) : Prop := G 21 p = nI 1 ∨ G 21 p = nI 2 ∨ G 21 p = nI 3
def I1 (G : Nat → Nat → Int32) : Prop := ∀ p, p < 8 → G 21 p = nI 0 ∨ G 21 p = nI 1 ∨ G 21 p = nI 2 ∨ G 21 p = nI 3 ∨ G 21 p = nI 4
def I2 (G : Nat → Nat → Int32) : Prop := (G 21 0 = nI 1 ∨ G 21 0 = nI 2) ∧ G 22 0 = -nI 1
def I3 (G : Nat → Nat → Int32) : Prop := ∀ p, 1 ≤ p → p < 8 → G 21 p ≠ nI 0 → ∃ q, q < 8 ∧ G 22 p = nI q ∧ q ≠ p ∧ A1 G q
def I4 (G : Nat → Nat → Int32) : Prop := ∀ p, p < 8 → ∀ s, s < 8 → G 33 (8 * p + s) = nI 0 ∨ G 33 (8 * p + s) = nI 1 ∨ G 33 (8 * p + s) = nI 2
def I5 (e : Nat) (G : Nat → Nat → Int32) : Prop := ∀ p, p < 8 → p ≠ e → (G 21 p = nI 1 ∨ G 21 p = nI 2) → ∀ s, 1 ≤ s → s < 8 → due G p s = false
def I6 (G : Nat → Nat → Int32) : Prop := ∀ p, p < 8 → ∀ s, 1 ≤ s → s < 8 → G 33 (8 * p + s) = nI 1 → bt (G 25 p) s = false
def I7 (G : Nat → Nat → Int32) : Prop := ∀ p, p < 8 → (G 34 p = nI 0 ∨ G 34 p = nI 1 ∨ G 34 p = nI 2 ∨ G 34 p = nI 3 ∨ G 34 p = nI 4) ∧ (G 21 p = nI 2 → G 34 p ≠ nI 0) ∧ (G 21 p ≠ nI 2 → G 21 p ≠ nI 3 → G 34 p = nI 0) ∧ (G 21 p = nI 3 → (G 34 p = nI 0 → G 30 p = nI 1) ∧ (G 34 p ≠ nI 0 → G 30 p = nI 2))
def I8 (G : Nat → Nat → Int32) : Prop := ∀ p, p < 8 → ∃ f, f < 6 ∧ G 35 p = nI f ∧ (∃ n, n ≤ 8 ∧ G 36 p = nI n ∧ ((G 34 p = nI 1 ∨ G 34 p = nI 2) → 1 ≤ n)) ∧ (G 34 p = nI 1 → G 32 (6 * p + f) = nI 1 ∨ ∃ j, j < 6 ∧ G 32 (6 * p + f) = nI (2 + 2 * j)) ∧ (G 34 p = nI 2 → G 32 (6 * p + f) = nI 1 ∨ ∃ j, j < 6 ∧ G 32 (6 * p + f) = nI (3 + 2 * j))
def I9 (G : Nat → Nat → Int32) : Prop := ∀ k, k < 48 → ∃ v, v < 14 ∧ G 32 k = nI v
def I10 (G : Nat → Nat → Int32) : Prop := ∀ j, j < 6 → ∃ m, m ≤ 12 ∧ G 43 j = nI m
/-- the lengths of the ready lines, summed -/
def sumL (G : Nat → Nat → Int32) : Nat → Nat
  | 0 => 0
  | n + 1 => sumL G n + (G 45 n).toNatClampNeg
def I11 (G : Nat → Nat → Int32) : Prop := ∃ r l, r ≤ 8 ∧ G 20 26 = nI r ∧ G 20 27 = nI l ∧ l + sumL G r ≤ 24 ∧ ∀ k, k < 8 → ∃ m, m ≤ 24 ∧ G 45 k = nI m
def I12 (t : Nat) (G : Nat → Nat → Int32) : Prop := ∀ p, p < 8 → ∃ h, h ≤ t ∧ G 28 p = nI h
def I13 (t : Nat) (G : Nat → Nat → Int32) : Prop := (∃ w, w ≤ t ∧ G 20 28 = nI w) ∧ ∃ b, b ≤ t ∧ G 20 20 = nI b ∧ (∀ p, p < 8 → G 34 p ≠ nI 0 → ∃ s, s < b ∧ G 39 p = nI s) ∧ (∀ p q, p < 8 → q < 8 → p ≠ q → G 34 p ≠ nI 0 → G 34 q ≠ nI 0 → G 39 p ≠ G 39 q)
def Is (e t : Nat) (G : Nat → Nat → Int32) : Prop := I1 G ∧ I2 G ∧ I3 G ∧ I4 G ∧ I5 e G ∧ I6 G ∧ I7 G ∧ I12 t G
def Ig (t : Nat) (G : Nat → Nat → Int32) : Prop := I8 G ∧ I9 G ∧ I10 G ∧ I11 G ∧ I13 t G
def Iv (e t : Nat) (G : Nat → Nat → Int32) : Prop := Is e t G ∧ Ig t G
theorem nd : nI 0 ≠ nI 1 ∧ nI 0 ≠ nI 2 ∧ nI 0 ≠ nI 3 ∧ nI 0 ≠ nI 4 ∧ nI 1 ≠ nI 2 ∧ nI 1 ≠ nI 3 ∧ nI 1 ≠ nI 4 ∧ nI 2 ≠ nI 3 ∧ nI 2 ≠ nI 4 ∧ nI 3 ≠ nI 4 := by decide
theorem lv_A {G : Nat → Nat → Int32} {p : Nat} (h : G 21 p = nI 0 ∨ G 21 p = nI 1 ∨ G 21 p = nI 2 ∨ G 21 p = nI 3 ∨ G 21 p = nI 4) : lv G p = true ↔ A1 G p := by
  unfold lv A1
  rcases h with h | h | h | h | h <;> rw [h] <;> decide
theorem sumL_congr {G G' : Nat → Nat → Int32} (h : ∀ k, G' 45 k = G 45 k) : ∀ n, sumL G' n = sumL G n
  | 0 => rfl
  | n + 1 => by simp only [sumL]; rw [sumL_congr h n, h]
/-- what the terminal and the pipes are, the signals leave alone -/
theorem I11_congr {G G' : Nat → Nat → Int32} (h : ∀ k, G' 45 k = G 45 k) (h2 : ∀ k, G' 20 k = G 20 k) (hI : I11 G) : I11 G' := by
  obtain ⟨r, l, h1, e1, e2, h3, h4⟩ := hI
  refine ⟨r, l, h1, by rw [h2]; exact e1, by rw [h2]; exact e2, by rw [sumL_congr h]; exact h3, fun k hk => by rw [h]; exact h4 k hk⟩
theorem iv_mono {e t t' : Nat} {G : Nat → Nat → Int32} (hI : Iv e t G) (ht : t ≤ t') : Iv e t' G := by
  obtain ⟨⟨i1, i2, i3, i4, i5, i6, i7, i12⟩, i8, i9, i10, i11, ⟨w, hw, hw2⟩, b, hb, hb2⟩ := hI
  refine ⟨⟨i1, i2, i3, i4, i5, i6, i7, fun p hp => ?_⟩, i8, i9, i10, i11, ⟨w, by omega, hw2⟩, b, by omega, hb2⟩
  obtain ⟨h, h1, h2⟩ := i12 p hp
  exact ⟨h, by omega, h2⟩
theorem iv_ex {e t : Nat} {G : Nat → Nat → Int32} (hI : Iv 8 t G) : Iv e t G := by
  obtain ⟨⟨i1, i2, i3, i4, i5, i6, i7, i12⟩, ig⟩ := hI
  exact ⟨⟨i1, i2, i3, i4, fun p hp _ => i5 p hp (by omega), i6, i7, i12⟩, ig⟩
/-- what a signal may change of the calls, the files and the counters -/
theorem ig_frame {t : Nat} {G G' : Nat → Nat → Int32} (hI : Ig t G) (h20 : ∀ k, G' 20 k = G 20 k) (h35 : ∀ k, G' 35 k = G 35 k) (h36 : ∀ k, G' 36 k = G 36 k) (h39 : ∀ k, G' 39 k = G 39 k) (h43 : ∀ k, G' 43 k = G 43 k) (h45 : ∀ k, G' 45 k = G 45 k)
    (h34 : ∀ p, p < 8 → (G' 34 p = nI 0 ∨ (G' 34 p = G 34 p ∧ ∀ f, f < 6 → G' 32 (6 * p + f) = G 32 (6 * p + f)))) (h32 : ∀ k, k < 48 → G' 32 k = G 32 k ∨ G' 32 k = nI 0) : Ig t G' := by
  obtain ⟨i8, i9, i10, i11, ⟨w, hw, hw2⟩, b, hb, hb2, hb3, hb4⟩ := hI
  have nd := nd
  refine ⟨fun p hp => ?_, fun k hk => ?_, fun j hj => ?_, I11_congr h45 h20 i11, ⟨w, hw, by rw [h20]; exact hw2⟩, b, hb, by rw [h20]; exact hb2, fun p hp h => ?_, fun p q hp hq hpq h1 h2 => ?_⟩
  · obtain ⟨f, hf, e1, ⟨n, hn, e2, e3⟩, e4, e5⟩ := i8 p hp
    refine ⟨f, hf, by rw [h35]; exact e1, ⟨n, hn, by rw [h36]; exact e2, ?_⟩, ?_, ?_⟩
    · rcases h34 p hp with h | ⟨h, -⟩
      · rw [h]; intro h'; rcases h' with h' | h' <;> grind
      · rw [h]; exact e3
    · rcases h34 p hp with h | ⟨h, h'⟩
      · rw [h]; intro h'; grind
      · rw [h, h' f hf]; exact e4
    · rcases h34 p hp with h | ⟨h, h'⟩
      · rw [h]; intro h'; grind
      · rw [h, h' f hf]; exact e5
  · rcases h32 k hk with h | h
    · rw [h]; exact i9 k hk
    · exact ⟨0, by decide, h⟩
  · rw [h43]; exact i10 j hj
  · rw [h39]
    rcases h34 p hp with h' | ⟨h', -⟩
    · exact absurd h' h
    · rw [h'] at h; exact hb3 p hp h
  · rw [h39, h39]
    rcases h34 p hp with h' | ⟨h', -⟩
    · exact absurd h' h1
    · rcases h34 q hq with h'' | ⟨h'', -⟩
      · exact absurd h'' h2
      · rw [h'] at h1; rw [h''] at h2; exact hb4 p q hp hq hpq h1 h2
theorem iv_fin {e t p : Nat} {G : Nat → Nat → Int32} {v : Int32} (hI : Iv e t G) (hp : p < 8) (ha : G 21 p = nI 1 ∨ G 21 p = nI 2) : Iv e t (finF G p v) := by
  obtain ⟨⟨i1, i2, i3, i4, i5, i6, i7, i12⟩, ig⟩ := hI
  have nd := nd
  unfold finF
  refine ⟨⟨?_, ?_, ?_, ?_, ?_, ?_, ?_, ?_⟩, ig_frame ig ?_ ?_ ?_ ?_ ?_ ?_ ?_ ?_⟩
  · unfold I1 at *; intro q hq; have := i1 q hq; grind [pm_v]
  · unfold I2 at *; grind [pm_v]
  · intro q h1 hq h0
    obtain ⟨r, hr, e1, e2, e3⟩ := i3 q h1 hq (by grind [pm_v])
    exact ⟨r, hr, by grind [pm_v], e2, by unfold A1 at *; grind [pm_v]⟩
  · unfold I4 at *; intro q hq s hs; have := i4 q hq s hs; grind [pm_v]
  · unfold I5 due at *; intro q hq he h s; have := i5 q hq he; grind [pm_v]
  · unfold I6 at *; intro q hq s; have := i6 q hq s; grind [pm_v]
  · unfold I7 at *; intro q hq; have := i7 q hq; grind [pm_v]
  · intro q hq
    obtain ⟨h, h1, h2⟩ := i12 q hq
    exact ⟨h, h1, by grind [pm_v]⟩
  all_goals intros; grind [pm_v]
theorem iv_hear {e t p : Nat} {G : Nat → Nat → Int32} {s : Int32} (hI : Iv e t G) (hp : p < 8) (ha : G 21 p = nI 1 ∨ G 21 p = nI 2) : Iv e (t + 1) (hearF G p s) := by
  have key : Iv e (t + 1) (pm_v (pm_v G 40 (16 * p + (G 28 p).toNatClampNeg % 16) s) 28 p (G 28 p + nI 1)) := by
    obtain ⟨⟨i1, i2, i3, i4, i5, i6, i7, i12⟩, ig⟩ := iv_mono hI (Nat.le_succ t)
    refine ⟨⟨?_, ?_, ?_, ?_, ?_, ?_, ?_, ?_⟩, ig_frame ig ?_ ?_ ?_ ?_ ?_ ?_ ?_ ?_⟩
    · unfold I1 at *; intro q hq; have := i1 q hq; grind [pm_v]
    · unfold I2 at *; grind [pm_v]
    · intro q h1 hq h0
      obtain ⟨r, hr, e1, e2, e3⟩ := i3 q h1 hq (by grind [pm_v])
      exact ⟨r, hr, by grind [pm_v], e2, by unfold A1 at *; grind [pm_v]⟩
    · unfold I4 at *; intro q hq s hs; have := i4 q hq s hs; grind [pm_v]
    · unfold I5 due at *; intro q hq he h s; have := i5 q hq he; grind [pm_v]
    · unfold I6 at *; intro q hq s; have := i6 q hq s; grind [pm_v]
    · unfold I7 at *; intro q hq; have := i7 q hq; grind [pm_v]
    · intro q hq
      obtain ⟨h, h1, h2⟩ := hI.1.2.2.2.2.2.2.2 q hq
      by_cases hqp : q = p
      · subst hqp
        exact ⟨h + 1, by omega, by rw [v_eq, h2, nI_s]⟩
      · exact ⟨h, by omega, by rw [v_k hqp, v_f (by decide), h2]⟩
    all_goals intros; grind [pm_v]
  unfold hearF
  split
  · exact iv_fin key hp (by rw [v_f (by decide), v_f (by decide)]; exact ha)
  · exact key
