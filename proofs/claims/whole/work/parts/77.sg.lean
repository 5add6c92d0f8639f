/-! @77.pg@ one signal delivered; what signals leave as it is; fewer blocked -/
/-- nothing becomes blocked -/
def Nb (G G' : Nat → Nat → Int32) : Prop := ∀ q, q < 8 → G' 21 q = nI 2 → G 21 q = nI 2
theorem Nb.rf {G : Nat → Nat → Int32} : Nb G G := fun _ _ h => h
theorem Nb.tr {G G' G'' : Nat → Nat → Int32} (h1 : Nb G G') (h2 : Nb G' G'') : Nb G G'' := fun q hq h => h1 q hq (h2 q hq h)
theorem nb_v {G : Nat → Nat → Int32} {f k : Nat} {v : Int32} (h : f ≠ 21) : Nb G (pm_v G f k v) := fun q hq h' => by rwa [v_f (fun e => h e.symm)] at h'
theorem nb_hear {G : Nat → Nat → Int32} {p : Nat} {s : Int32} : Nb G (hearF G p s) := by
  intro q hq h
  by_cases hqp : q = p
  · subst hqp
    unfold hearF at h
    split at h
    · assumption
    · rwa [v_f (by decide), v_f (by decide)] at h
  · rwa [hear_f (by grind)] at h
theorem nb_tell {G : Nat → Nat → Int32} {p : Nat} : Nb G (tellF G p) := by
  unfold tellF
  split
  · split
    · exact nb_v (by decide)
    · exact nb_hear
  · exact Nb.rf
theorem nb_end {G : Nat → Nat → Int32} {p : Nat} {how : Int32} : Nb G (endF G p how) := by
  intro q hq h
  have nd := nd
  by_cases hqp : q = p
  · subst hqp
    exfalso
    unfold endF at h
    grind [pm_v]
  · unfold endF rp fz at h
    grind [pm_v]
theorem nb_finish {G : Nat → Nat → Int32} {p : Nat} {how : Int32} : Nb G (finishF G p how) := Nb.tr nb_end nb_tell
theorem nb_halt {G : Nat → Nat → Int32} {p : Nat} : Nb G (haltF G p) := by
  refine Nb.tr ?_ nb_tell
  intro q hq h
  have nd := nd
  grind [pm_v]
theorem nb_dst {G : Nat → Nat → Int32} {p s : Nat} : Nb G (dst G p s) := by
  unfold dst
  have hf : Nb G (fgt G p s) := nb_v (by decide)
  split
  · split
    · exact Nb.tr hf nb_hear
    · split
      · unfold byDefF
        split
        · exact hf
        · split
          · exact Nb.tr hf nb_finish
          · split
            · exact Nb.tr hf nb_halt
            · exact hf
      · exact hf
  · exact Nb.rf
theorem nb_delN {p : Nat} : ∀ {n s : Nat} {G : Nat → Nat → Int32}, Nb G (delN G p s n)
  | 0, s, G => Nb.rf
  | n + 1, s, G => Nb.tr nb_dst nb_delN
theorem nb_adm {G : Nat → Nat → Int32} {p s : Nat} (h6 : s ≠ 6) : Nb G (admF G p s) := by
  have h1 : Nb G (ad1 G p s) := by
    unfold ad1
    rw [if_neg h6]
    split
    · exact nb_v (by decide)
    · exact Nb.rf
  unfold admF
  split
  · exact Nb.tr h1 (nb_v (by decide))
  · exact h1
theorem nb_com {G : Nat → Nat → Int32} {p s : Nat} (h6 : s ≠ 6) : Nb G (comF G p s) := by
  unfold comF
  split
  · split
    · split
      · exact Nb.rf
      · exact nb_finish
    · exact Nb.tr (nb_adm h6) nb_delN
  · exact Nb.rf
theorem nb_cpN {q : Int32} {s : Nat} (h6 : s ≠ 6) : ∀ {n k : Nat} {G : Nat → Nat → Int32}, Nb G (cpN G q s k n)
  | 0, k, G => Nb.rf
  | n + 1, k, G => by
    have h1 : Nb G (if lv G k = true ∧ G 23 k = q then comF G k s else G) := by
      split
      · exact nb_com h6
      · exact Nb.rf
    exact Nb.tr h1 (nb_cpN h6 (n := n) (k := k + 1))
def nb (G : Nat → Nat → Int32) : Nat := ct (fun p => decide (G 21 p = nI 2)) 8
theorem ct_lt {P P' : Nat → Bool} (h : ∀ k, P' k = true → P k = true) {p : Nat} (hP : P p = true) (hP' : P' p = false) : ∀ {n : Nat}, ct P' n ≤ ct P n ∧ (p < n → ct P' n < ct P n)
  | 0 => ⟨Nat.le_refl _, fun h => absurd h (Nat.not_lt_zero _)⟩
  | n + 1 => by
    obtain ⟨h1, h2⟩ := ct_lt h hP hP' (n := n)
    simp only [ct]
    have hn := h n
    by_cases hpn : p = n
    · subst hpn
      rw [hP, hP']
      simp
      omega
    · have : (if P' n = true then 1 else 0) ≤ (if P n = true then 1 else 0) := by
        cases hb : P' n with
        | false => simp
        | true => rw [hn hb]; simp
      constructor
      · omega
      · intro h3
        have := h2 (by omega)
        omega
theorem ct_cong {P P' : Nat → Bool} : ∀ {n : Nat}, (∀ k, k < n → P k = P' k) → ct P n = ct P' n
  | 0, _ => rfl
  | n + 1, h => by simp only [ct]; rw [ct_cong (fun k hk => h k (by omega)), h n (by omega)]
theorem nb_lt {G G' : Nat → Nat → Int32} {p : Nat} (h : Nb G G') (hp : p < 8) (h1 : G 21 p = nI 2) (h2 : ¬ G' 21 p = nI 2) : nb G' < nb G := by
  have e : nb G' = ct (fun q => decide (q < 8) && decide (G' 21 q = nI 2)) 8 := ct_cong (fun k hk => by simp [hk])
  have e2 : nb G = ct (fun q => decide (q < 8) && decide (G 21 q = nI 2)) 8 := ct_cong (fun k hk => by simp [hk])
  rw [e, e2]
  refine (ct_lt (p := p) (fun k hk => ?_) (by simp [hp, h1]) (by simp [h2])).2 hp
  simp at hk ⊢
  exact ⟨hk.1, h k hk.1 hk.2⟩
/-! one signal alone -/
theorem dst_no {G : Nat → Nat → Int32} {p s : Nat} (h : (G 21 p = nI 1 ∨ G 21 p = nI 2) → due G p s = false) : dst G p s = G := by
  unfold dst
  rw [if_neg]
  rintro ⟨h1, h2⟩
  rw [h h1] at h2
  cases h2
theorem delN_no {p : Nat} : ∀ {n s : Nat} {G : Nat → Nat → Int32}, (∀ k, s ≤ k → k < s + n → (G 21 p = nI 1 ∨ G 21 p = nI 2) → due G p k = false) → delN G p s n = G
  | 0, s, G, _ => rfl
  | n + 1, s, G, h => by
    simp only [delN]
    rw [dst_no (h s (Nat.le_refl _) (by omega))]
    exact delN_no (fun k h1 h2 => h k (by omega) (by omega))
theorem dst_due {t p s k : Nat} {G : Nat → Nat → Int32} (hI : Iv p t G) (hp : p < 8) (hs : s < 8) (hk : k < 8) (h : due G p k = false) : (dst G p s 21 p = nI 1 ∨ dst G p s 21 p = nI 2) → due (dst G p s) p k = false := by
  have nd := nd
  have hf := iv_fgt (s := s) hI hp hs
  have hfd : due (fgt G p s) p k = false := by rw [due_fgt hs hk, h]; rfl
  unfold dst
  split
  · rename_i h1
    have haf : (fgt G p s) 21 p = nI 1 ∨ (fgt G p s) 21 p = nI 2 := by
      unfold fgt
      rw [v_f (by decide)]
      exact h1.1
    have hA : A1 (fgt G p s) p := by unfold A1; grind
    split
    · intro _
      rw [due_congr (G := fgt G p s) (hear_f (by simp)) (hear_f (by simp))]
      exact hfd
    · split
      · unfold byDefF
        split
        · exact fun _ => hfd
        · split
          · intro h'
            obtain ⟨-, hq, -, hqp, -⟩ := iv_end (how := nI (64 + s)) hf (by omega) hp (Or.inl rfl) hA
            exfalso
            unfold finishF at h'
            rw [tell_f (by grind)] at h'
            unfold endF at h'
            grind [pm_v]
          · split
            · intro h'
              obtain ⟨-, hq, -, hqp, -⟩ := iv_hal1 hf (by omega) hp (Or.inl rfl) haf
              exfalso
              unfold haltF at h'
              rw [tell_f (by grind)] at h'
              grind [pm_v]
            · exact fun _ => hfd
      · exact fun _ => hfd
  · exact fun _ => h
theorem del_one {t p s0 : Nat} {G : Nat → Nat → Int32} (hI : Iv p t G) (hp : p < 8) (h1 : 1 ≤ s0) (h8 : s0 < 8) (hd : ∀ s, 1 ≤ s → s < 8 → s ≠ s0 → due G p s = false) : delF G p = dst G p s0 := by
  have key : ∀ n s, 1 ≤ s → s ≤ s0 → s + n = 8 → delN G p s n = dst G p s0 := by
    intro n
    induction n with
    | zero => intro s h1 h2 h3; omega
    | succ n ih =>
      intro s h1s h2 h3
      simp only [delN]
      by_cases hs : s = s0
      · subst hs
        refine delN_no (fun k hk1 hk2 => ?_)
        exact dst_due hI hp h8 (by omega) (hd k (by omega) (by omega) (by omega))
      · rw [dst_no (fun _ => hd s h1s (by omega) hs)]
        exact ih (s + 1) (by omega) (by omega) (by omega)
  exact key 7 1 (Nat.le_refl 1) h1 rfl
/-! who is alive, whose child, in which group, with which actions and mask: kept -/
def Kp (G G' : Nat → Nat → Int32) : Prop := ∀ q, q < 8 → G' 22 q = G 22 q ∧ G' 23 q = G 23 q ∧ G' 24 q = G 24 q ∧ (∀ s, s < 8 → G' 33 (8 * q + s) = G 33 (8 * q + s)) ∧ (G' 21 q = G 21 q ∨ (A1 G q ∧ A1 G' q))
theorem Kp.rf {G : Nat → Nat → Int32} : Kp G G := fun _ _ => ⟨rfl, rfl, rfl, fun _ _ => rfl, Or.inl rfl⟩
theorem Kp.tr {G G' G'' : Nat → Nat → Int32} (h1 : Kp G G') (h2 : Kp G' G'') : Kp G G'' := by
  intro q hq
  obtain ⟨a1, a2, a3, a4, a5⟩ := h1 q hq
  obtain ⟨b1, b2, b3, b4, b5⟩ := h2 q hq
  refine ⟨b1.trans a1, b2.trans a2, b3.trans a3, fun s hs => (b4 s hs).trans (a4 s hs), ?_⟩
  unfold A1 at *
  grind
theorem kp_hear {G : Nat → Nat → Int32} {p : Nat} {s : Int32} (ha : A1 G p) : Kp G (hearF G p s) := by
  intro q hq
  refine ⟨hear_f (by simp), hear_f (by simp), hear_f (by simp), fun s hs => hear_f (by simp), ?_⟩
  by_cases hqp : q = p
  · subst hqp
    by_cases h2 : G 21 q = nI 2
    · right
      refine ⟨ha, ?_⟩
      unfold hearF finF A1
      rw [if_pos h2]
      left
      rw [v_f (by decide), v_eq]
    · left
      unfold hearF
      rw [if_neg h2, v_f (by decide), v_f (by decide)]
  · left
    exact hear_f (by grind)
theorem kp_v {G : Nat → Nat → Int32} {f k : Nat} {v : Int32} (h : f ≠ 21 ∧ f ≠ 22 ∧ f ≠ 23 ∧ f ≠ 24 ∧ f ≠ 33) : Kp G (pm_v G f k v) := fun q hq => ⟨v_f (by omega), v_f (by omega), v_f (by omega), fun s hs => v_f (by omega), Or.inl (v_f (by omega))⟩
theorem kp_tell {G : Nat → Nat → Int32} {p : Nat} (ha : A1 G p) : Kp G (tellF G p) := by
  unfold tellF
  split
  · split
    · exact kp_v (by decide)
    · exact kp_hear ha
  · exact Kp.rf
theorem kp_lv {G G' : Nat → Nat → Int32} (h : Kp G G') {q : Nat} (hq : q < 8) : lv G' q = lv G q := by
  obtain ⟨-, -, -, -, h5⟩ := h q hq
  unfold lv
  rcases h5 with h5 | ⟨h5, h6⟩
  · rw [h5]
  · unfold A1 at h5 h6
    rcases h5 with h5 | h5 | h5 <;> rcases h6 with h6 | h6 | h6 <;> rw [h5, h6] <;> decide
theorem kp_orph {G G' : Nat → Nat → Int32} (h : Kp G G') (i1 : I1 G) (i3 : I3 G) (x : Int32) : orph G' x = orph G x := by
  unfold orph
  congr 1
  refine ex_congr (fun k hk => ?_)
  have nd := nd
  obtain ⟨a1, a2, a3, a4, a5⟩ := h k hk
  have epa : pa G' k = pa G k := by unfold pa; rw [a1]
  by_cases h1 : 1 ≤ k
  · by_cases hl : lv G k = true
    · obtain ⟨r, hr, e1, -, -⟩ := i3 k h1 hk (by have := (lv_A (i1 k hk)).mp hl; unfold A1 at this; grind)
      have : pa G k = r := by rw [pa, e1, nI_clamp (by omega)]
      unfold outs
      rw [epa, this, kp_lv h hk, kp_lv h hr, a2, (h r hr).2.1]
    · unfold outs
      rw [kp_lv h hk]
      simp [hl]
  · unfold outs
    simp [h1]
