/-! @76.r6@ the invariant under calls that are done -/
theorem is_frame {e t : Nat} {G G' : Nat → Nat → Int32} (h : ∀ f, (f = 21 ∨ f = 22 ∨ f = 24 ∨ f = 25 ∨ f = 28 ∨ f = 30 ∨ f = 33 ∨ f = 34) → ∀ k, G' f k = G f k) (hI : Is e t G) : Is e t G' := by
  have h21 := h 21 (by simp)
  have h22 := h 22 (by simp)
  have h24 := h 24 (by simp)
  have h25 := h 25 (by simp)
  have h28 := h 28 (by simp)
  have h30 := h 30 (by simp)
  have h33 := h 33 (by simp)
  have h34 := h 34 (by simp)
  obtain ⟨i1, i2, i3, i4, i5, i6, i7, i12⟩ := hI
  refine ⟨?_, ?_, ?_, ?_, ?_, ?_, ?_, ?_⟩
  · intro p hp; rw [h21]; exact i1 p hp
  · unfold I2; rw [h21, h22]; exact i2
  · intro p h1 hp h0
    rw [h21] at h0
    obtain ⟨q, hq, e1, e2, e3⟩ := i3 p h1 hp h0
    exact ⟨q, hq, by rw [h22]; exact e1, e2, by unfold A1 at *; rw [h21]; exact e3⟩
  · intro p hp s hs; rw [h33]; exact i4 p hp s hs
  · intro p hp he hs s; rw [h21] at hs; rw [due_congr (h25 p) (h24 p)]; exact i5 p hp he hs s
  · intro p hp s; rw [h33, h25]; exact i6 p hp s
  · intro p hp; rw [h34, h21, h30]; exact i7 p hp
  · intro p hp; rw [h28]; exact i12 p hp
theorem ig_frame2 {t t' : Nat} {G G' : Nat → Nat → Int32} (h : ∀ f, (f = 32 ∨ f = 34 ∨ f = 35 ∨ f = 36 ∨ f = 39) → ∀ k, G' f k = G f k) (ht : t ≤ t') (h10 : I10 G') (h11 : I11 G') (hw : ∃ w, w ≤ t' ∧ G' 20 28 = nI w) (hb : G' 20 20 = G 20 20) (hI : Ig t G) : Ig t' G' := by
  have h32 := h 32 (by simp)
  have h34 := h 34 (by simp)
  have h35 := h 35 (by simp)
  have h36 := h 36 (by simp)
  have h39 := h 39 (by simp)
  obtain ⟨i8, i9, -, -, -, b, hb1, hb2, hb3, hb4⟩ := hI
  refine ⟨?_, ?_, h10, h11, hw, b, by omega, by rw [hb]; exact hb2, ?_, ?_⟩
  · intro p hp
    obtain ⟨f, hf, e1, ⟨n, hn, e2, e3⟩, e4, e5⟩ := i8 p hp
    exact ⟨f, hf, by rw [h35]; exact e1, ⟨n, hn, by rw [h36]; exact e2, by rw [h34]; exact e3⟩, by rw [h34, h32]; exact e4, by rw [h34, h32]; exact e5⟩
  · intro k hk; rw [h32]; exact i9 k hk
  · intro p hp h'; rw [h34] at h'; rw [h39]; exact hb3 p hp h'
  · intro p q hp hq hpq h1 h2; rw [h34] at h1 h2; rw [h39, h39]; exact hb4 p q hp hq hpq h1 h2
theorem I11_congr2 {G G' : Nat → Nat → Int32} (h : ∀ k, G' 45 k = G 45 k) (h26 : G' 20 26 = G 20 26) (h27 : G' 20 27 = G 20 27) (hI : I11 G) : I11 G' := by
  obtain ⟨r, l, h1, e1, e2, h3, h4⟩ := hI
  exact ⟨r, l, h1, by rw [h26]; exact e1, by rw [h27]; exact e2, by rw [sumL_congr h]; exact h3, fun k hk => by rw [h]; exact h4 k hk⟩
theorem I10_congr {G G' : Nat → Nat → Int32} (h : ∀ k, G' 43 k = G 43 k) (hI : I10 G) : I10 G' := fun j hj => by rw [h]; exact hI j hj
/-- one place of the lines' lengths changed -/
theorem sumL_v {G : Nat → Nat → Int32} {k : Nat} {v : Int32} : ∀ {n : Nat}, sumL (pm_v G 45 k v) n = (if k < n then sumL G n - (G 45 k).toNatClampNeg + v.toNatClampNeg else sumL G n) ∧ (k < n → (G 45 k).toNatClampNeg ≤ sumL G n)
  | 0 => by simp [sumL]
  | n + 1 => by
    obtain ⟨h1, h2⟩ := sumL_v (G := G) (k := k) (v := v) (n := n)
    simp only [sumL]
    rw [h1]
    by_cases hk : k = n
    · subst hk
      rw [v_eq, if_neg (by omega), if_pos (by omega)]
      omega
    · rw [v_k (fun e => hk e.symm)]
      by_cases hkn : k < n
      · rw [if_pos hkn, if_pos (by omega)]
        have := h2 hkn
        omega
      · rw [if_neg hkn, if_neg (by omega)]
        omega
theorem mv_at {f a f2 b : Nat} (hf : f2 ≠ f ∨ a ≤ b) : ∀ {n k : Nat} {G : Nat → Nat → Int32} {j : Nat}, mv f a f2 b G k n f j = if a + k ≤ j ∧ j < a + k + n then G f2 (b + (j - a)) else G f j
  | 0, k, G, j => by rw [if_neg (by omega)]; rfl
  | n + 1, k, G, j => by
    simp only [mv]
    rw [mv_at hf (n := n)]
    by_cases h1 : a + (k + 1) ≤ j ∧ j < a + (k + 1) + n
    · rw [if_pos h1, if_pos (by omega)]
      rw [v_ne]
      rintro ⟨e1, e2⟩
      rcases hf with hf | hf
      · exact hf e1
      · omega
    · rw [if_neg h1]
      by_cases h2 : j = a + k
      · subst h2
        rw [v_eq, if_pos (by omega)]
        congr 1
        omega
      · rw [v_k h2, if_neg (by omega)]
theorem sumL_sh {G G' : Nat → Nat → Int32} : ∀ {n : Nat}, (∀ k, k < n → G' 45 k = G 45 (k + 1)) → sumL G (n + 1) = (G 45 0).toNatClampNeg + sumL G' n
  | 0, _ => by simp [sumL]
  | n + 1, h => by
    rw [sumL, sumL_sh (n := n) (fun k hk => h k (by omega)), sumL, h n (by omega)]
    omega
theorem iv_tl {t p : Nat} {G : Nat → Nat → Int32} (hI : Iv 8 t G) (hp : p < 8) (hr1 : ¬ G 20 26 ≤ 0) : Iv 8 t (tlF G p) := by
  obtain ⟨iS, iG⟩ := hI
  obtain ⟨i8, i9, i10, ⟨r, l, hr8, e26, e27, hsum, hall⟩, ⟨w, hw, e28⟩, iR⟩ := iG
  obtain ⟨f, hf, e35, ⟨n, hn, e36, -⟩, -⟩ := i8 p hp
  obtain ⟨m, hm, e45⟩ := hall 0 (by decide)
  have hr : 1 ≤ r := by
    by_cases h0 : r = 0
    · rw [e26, h0] at hr1
      exact absurd (by decide) hr1
    · omega
  have hN : tlN G p = min n m := by
    unfold tlN
    rw [e36, e45, mnI_of (by omega) (by omega), nI_clamp (by omega)]
  have hc45 : ∀ k, k < 8 → (G 45 k).toNatClampNeg ≤ 24 := fun k hk => by
    obtain ⟨m', h1, h2⟩ := hall k hk
    rw [h2, nI_clamp (by omega)]
    exact h1
  have hm0 : (G 45 0).toNatClampNeg = m := by rw [e45, nI_clamp (by omega)]
  have esub : G 45 0 - nI (tlN G p) = nI (m - tlN G p) := by rw [e45, pk_sub (by omega)]
  have t1 : ∀ f k, f ≠ 41 → f ≠ 44 → f ≠ 45 → f ≠ 27 → tl1 G p f k = G f k := by
    intro f k h1 h2 h3 h4
    unfold tl1
    rw [v_f h4, v_f h3, mv_f h2, mv_f h1]
  have t45 : ∀ k, tl1 G p 45 k = if k = 0 then nI (m - tlN G p) else G 45 k := by
    intro k
    unfold tl1
    rw [v_f (by decide), esub]
    by_cases hk : k = 0
    · subst hk
      rw [v_eq, if_pos rfl]
    · rw [v_k hk, if_neg hk, mv_f (by decide), mv_f (by decide)]
  have hs1 : sumL (tl1 G p) r = sumL G r - tlN G p := by
    have e : ∀ k, tl1 G p 45 k = pm_v G 45 0 (nI (m - tlN G p)) 45 k := fun k => by
      rw [t45]
      by_cases hk : k = 0
      · subst hk; rw [v_eq, if_pos rfl]
      · rw [v_k hk, if_neg hk]
    obtain ⟨h1, h2⟩ := sumL_v (G := G) (k := 0) (v := nI (m - tlN G p)) (n := r)
    rw [sumL_congr e, h1, if_pos (by omega), hm0, nI_clamp (by omega)]
    have := h2 (by omega)
    omega
  have keep : ∀ f k, f ≠ 41 → f ≠ 44 → f ≠ 45 → f ≠ 27 → f ≠ 20 → tlF G p f k = G f k := by
    intro f k h1 h2 h3 h4 h5
    unfold tlF
    split
    · rw [mv_f h3, v_f h5, t1 f k h1 h2 h3 h4]
    · exact t1 f k h1 h2 h3 h4
  have k20 : ∀ k, k ≠ 26 → tlF G p 20 k = G 20 k := by
    intro k hk
    unfold tlF
    split
    · rw [mv_f (by decide), v_k hk, t1 _ _ (by decide) (by decide) (by decide) (by decide)]
    · exact t1 _ _ (by decide) (by decide) (by decide) (by decide)
  refine ⟨is_frame (fun f hf k => keep f k (by omega) (by omega) (by omega) (by omega) (by omega)) iS, ig_frame2 (fun f hf k => keep f k (by omega) (by omega) (by omega) (by omega) (by omega)) (Nat.le_refl t) (I10_congr (fun k => keep 43 k (by decide) (by decide) (by decide) (by decide) (by decide)) i10) ?_ ⟨w, hw, by rw [k20 _ (by decide)]; exact e28⟩ (k20 _ (by decide)) ⟨i8, i9, i10, ⟨r, l, hr8, e26, e27, hsum, hall⟩, ⟨w, hw, e28⟩, iR⟩⟩
  by_cases hd : G 45 0 - nI (tlN G p) ≤ 0
  · have hmN : m = tlN G p := by
      rw [esub, ← nI_0, nI_leI (by omega) (by decide)] at hd
      omega
    have e1 : tlF G p = mv 45 0 45 1 (pm_v (tl1 G p) 20 26 (G 20 26 - nI 1)) 0 ((G 20 26).toNatClampNeg - 1) := by unfold tlF; rw [if_pos hd]
    have er : (G 20 26).toNatClampNeg = r := by rw [e26, nI_clamp (by omega)]
    have s45 : ∀ k, tlF G p 45 k = if k < r - 1 then tl1 G p 45 (k + 1) else tl1 G p 45 k := by
      intro k
      rw [e1, er, mv_at (Or.inr (by decide))]
      by_cases hk : k < r - 1
      · rw [if_pos (by omega), if_pos hk, v_f (by decide)]
        congr 1
        omega
      · rw [if_neg (by omega), if_neg hk, v_f (by decide)]
    refine ⟨r - 1, l, by omega, ?_, by rw [k20 _ (by decide)]; exact e27, ?_, ?_⟩
    · rw [e1, mv_f (by decide), v_eq, e26, pk_sub hr]
    · have hsh := sumL_sh (G := tl1 G p) (G' := tlF G p) (n := r - 1) (fun k hk => by rw [s45, if_pos hk])
      rw [show r - 1 + 1 = r from by omega, hs1] at hsh
      omega
    · intro k hk
      rw [s45]
      split
      · rw [t45, if_neg (by omega)]
        exact hall (k + 1) (by omega)
      · rw [t45]
        split
        · exact ⟨m - tlN G p, by omega, rfl⟩
        · exact hall k hk
  · have e1 : tlF G p = tl1 G p := by unfold tlF; rw [if_neg hd]
    rw [e1]
    refine ⟨r, l, hr8, by rw [t1 _ _ (by decide) (by decide) (by decide) (by decide)]; exact e26, by rw [t1 _ _ (by decide) (by decide) (by decide) (by decide)]; exact e27, by rw [hs1]; omega, ?_⟩
    intro k hk
    rw [t45]
    split
    · exact ⟨m - tlN G p, by omega, rfl⟩
    · exact hall k hk
theorem iv_tb {t p j : Nat} {G : Nat → Nat → Int32} (hI : Iv 8 t G) (hp : p < 8) (hj : j < 6) : Iv 8 t (tbF G p j) := by
  obtain ⟨iS, iG⟩ := hI
  have iG' := iG
  obtain ⟨i8, i9, i10, i11, ⟨w, hw, e28⟩, iR⟩ := iG
  obtain ⟨f, hf, e35, ⟨n, hn, e36, -⟩, -⟩ := i8 p hp
  obtain ⟨m, hm, e43⟩ := i10 j hj
  have hN : tbN G p j = min n m := by
    unfold tbN
    rw [e36, e43, mnI_of (by omega) (by omega), nI_clamp (by omega)]
  have keep : ∀ f k, f ≠ 41 → f ≠ 42 → f ≠ 43 → f ≠ 27 → tbF G p j f k = G f k := by
    intro f k h1 h2 h3 h4
    unfold tbF
    rw [v_f h4, v_f h3, mv_f h2, mv_f h1]
  refine ⟨is_frame (fun f hf k => keep f k (by omega) (by omega) (by omega) (by omega)) iS, ig_frame2 (fun f hf k => keep f k (by omega) (by omega) (by omega) (by omega)) (Nat.le_refl t) ?_ (I11_congr2 (fun k => keep _ _ (by decide) (by decide) (by decide) (by decide)) (keep _ _ (by decide) (by decide) (by decide) (by decide)) (keep _ _ (by decide) (by decide) (by decide) (by decide)) i11) ⟨w, hw, by rw [keep _ _ (by decide) (by decide) (by decide) (by decide)]; exact e28⟩ (keep _ _ (by decide) (by decide) (by decide) (by decide)) iG'⟩
  intro k hk
  unfold tbF
  rw [v_f (by decide)]
  by_cases hkj : k = j
  · subst hkj
    rw [v_eq]
    exact ⟨m - tbN G p k, by omega, by rw [e43, pk_sub (by omega)]⟩
  · rw [v_k hkj, mv_f (by decide), mv_f (by decide)]
    exact i10 k hk
theorem iv_gs {b : Int64} : ∀ {n : Nat} {t k : Nat} {G : Nat → Nat → Int32}, Iv 8 t G → Iv 8 (t + n) (gsN G b k n)
  | 0, t, k, G, hI => hI
  | n + 1, t, k, G, hI => by
    obtain ⟨iS, iG⟩ := iv_mono hI (Nat.le_succ t)
    have iG' := iG
    obtain ⟨i8, i9, i10, i11, -, iR⟩ := iG
    obtain ⟨w, hw, e28⟩ := hI.2.2.2.2.2.1
    have keep : ∀ f k', f ≠ 46 → ¬ (f = 20 ∧ k' = 28) → pm_v (pm_v G 46 ((G 20 28).toNatClampNeg % 64) (byR b k)) 20 28 (G 20 28 + nI 1) f k' = G f k' := by
      intro f k' h1 h2
      rw [v_ne h2, v_f h1]
    have h2 : Iv 8 (t + 1) (pm_v (pm_v G 46 ((G 20 28).toNatClampNeg % 64) (byR b k)) 20 28 (G 20 28 + nI 1)) := by
      refine ⟨is_frame (fun f hf k => keep f k (by omega) (by omega)) iS, ig_frame2 (fun f hf k => keep f k (by omega) (by omega)) (Nat.le_refl _) (I10_congr (fun k => keep _ _ (by decide) (by omega)) i10) (I11_congr2 (fun k => keep _ _ (by decide) (by omega)) (keep _ _ (by decide) (by decide)) (keep _ _ (by decide) (by decide)) i11) ⟨w + 1, by omega, by rw [v_eq, e28, nI_s]⟩ (keep _ _ (by decide) (by decide)) iG'⟩
    have := iv_gs (b := b) (n := n) (k := k + 1) h2
    rw [show t + (n + 1) = t + 1 + n from by omega]
    exact this
theorem iv_gp {b : Int64} {j : Nat} (hj : j < 6) : ∀ {n : Nat} {t k m : Nat} {G : Nat → Nat → Int32}, Iv 8 t G → G 43 j = nI m → m + n ≤ 12 → Iv 8 t (gpN G j b k n)
  | 0, t, k, m, G, hI, _, _ => hI
  | n + 1, t, k, m, G, hI, e43, hm => by
    obtain ⟨iS, iG⟩ := hI
    have iG' := iG
    obtain ⟨i8, i9, i10, i11, ⟨w, hw, e28⟩, iR⟩ := iG
    have keep : ∀ f k', f ≠ 42 → f ≠ 43 → pm_v (pm_v G 42 (12 * j + (G 43 j).toNatClampNeg) (byR b k)) 43 j (G 43 j + nI 1) f k' = G f k' := by
      intro f k' h1 h2
      rw [v_f h2, v_f h1]
    have h2 : Iv 8 t (pm_v (pm_v G 42 (12 * j + (G 43 j).toNatClampNeg) (byR b k)) 43 j (G 43 j + nI 1)) := by
      refine ⟨is_frame (fun f hf k => keep f k (by omega) (by omega)) iS, ig_frame2 (fun f hf k => keep f k (by omega) (by omega)) (Nat.le_refl _) ?_ (I11_congr2 (fun k => keep _ _ (by decide) (by decide)) (keep _ _ (by decide) (by decide)) (keep _ _ (by decide) (by decide)) i11) ⟨w, hw, by rw [keep _ _ (by decide) (by decide)]; exact e28⟩ (keep _ _ (by decide) (by decide)) iG'⟩
      intro k' hk'
      by_cases hkj : k' = j
      · subst hkj
        rw [v_eq]
        exact ⟨m + 1, by omega, by rw [e43, nI_s]⟩
      · rw [v_k hkj, v_f (by decide)]
        exact i10 k' hk'
    exact iv_gp hj (n := n) (k := k + 1) (m := m + 1) h2 (by rw [v_eq, e43, nI_s]) (by omega)
