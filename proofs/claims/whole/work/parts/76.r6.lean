/-! @76.r5@ the reference: giving, reaping, a call done -/
def gvV (G : Nat → Nat → Int32) (p : Nat) : Int32 := if ¬ fv G p = nI 1 ∧ opn G (fv G p - nI 1) = false then -nI 6 else G 36 p
def gvF (G : Nat → Nat → Int32) (b : Int64) (p : Nat) : Nat → Nat → Int32 := if fv G p = nI 1 then gsN G b 0 (cmN G p) else if opn G (fv G p - nI 1) = false then G else gpN G (pix (fv G p)) b 0 (cmN G p)
def rpV (G : Nat → Nat → Int32) (p : Nat) : Int32 := if chd G p 0 = 8 then -nI 3 else if chd G p 4 ≠ 8 then nI (chd G p 4) + nI 8 * G 29 (chd G p 4) else nI (chd G p 3) + nI 1024
def rpF (G : Nat → Nat → Int32) (p : Nat) : Nat → Nat → Int32 := if chd G p 0 = 8 then G else if chd G p 4 ≠ 8 then pm_v G 21 (chd G p 4) (nI 0) else pm_v G 31 (chd G p 3) (nI 1)
def pfV (G : Nat → Nat → Int32) (p : Nat) : Int32 := if G 34 p = nI 3 then rpV G p else if G 34 p = nI 2 then gvV G p else if fv G p = nI 1 then (if G 23 p = G 20 25 then nI (tlN G p) else -nI 5) else nI (tbN G p (pix (fv G p)))
def pfF (G : Nat → Nat → Int32) (b : Int64) (p : Nat) : Nat → Nat → Int32 := if G 34 p = nI 3 then rpF G p else if G 34 p = nI 2 then gvF G b p else if fv G p = nI 1 then (if G 23 p = G 20 25 then tlF G p else G) else tbF G p (pix (fv G p))
section R6
variable {ns d x : Nat} {R : Nat → Nat → Nat → Option (Nat × Nat)} {Z A : Nat → Nat → Nat → Int32} {Y : Nat → Nat → Nat → Int64} {o : Int64} {c g : Nat → Int64} {G : Nat → Nat → Int32}
theorem r69 (hR : RS R) {p n w v : Nat} (hp : p < 8) (hn : G 36 p = nI n) (hn8 : n ≤ 8) (hw : G 20 28 = nI w) (hw30 : w < 2 ^ 30) (hv : fv G p = nI v) (hv1 : v = 1 ∨ ∃ j, j < 6 ∧ v = 3 + 2 * j) (hroom : ∀ j, j < 6 → v = 3 + 2 * j → opn G (fv G p - nI 1) = true → ∃ m, G 43 j = nI m ∧ m + n ≤ 12) : pE ns (d + 2) 69 [pm_r 20 0, pm_i (nI p), pm_i (fv G p)] (mm x R Z Y o A c G g) (.inl (some (pm_i (gvV G p))), mm x R Z Y o A c (gvF G (g p) p) g) := by
  have ecm : cmN G p = n := by rw [cmN, hn, nI_clamp (by omega)]
  refine en rfl ?_
  by_cases hv1' : v = 1
  · subst hv1'
    have k1 : ∀ n' k w (G' : Nat → Nat → Int32), k + n' = n → G' 20 28 = nI w → w + n' < 2 ^ 31 → ∀ u5 u6, pW ns (d + 1) 69 28 [some (pm_r 20 0), some (pm_i (nI p)), some (pm_i (nI 1)), some (pm_i (nI n)), some (pm_i (nI k)), u5, u6] [] (mm x R Z Y o A c G' g) (fun r' => r' = (.inl (some (pm_i (nI n))), mm x R Z Y o A c (gsN G' (g p) k n') g)) := by
      intro n'
      induction n' with
      | zero =>
        intro k w G' hk e28 hw u5 u6
        refine t69_28 hR (fun _ => rfl) (fun h => ?_)
        rw [nI_leI (by omega) (by omega)] at h
        omega
      | succ n' ih =>
        intro k w G' hk e28 hw u5 u6
        have ecl : (G' 20 28).toNatClampNeg = w := by rw [e28, nI_clamp (by omega)]
        refine t69_28 hR (fun h => ?_) (fun _ => b69_34 hR rfl hp (fun _ => b69_58 hR (j1 := w % 64) (by rw [e28, pk_rem (by omega) (by decide) (by decide)]) (by omega) ?_) (fun h => absurd rfl h))
        · rw [nI_leI (by omega) (by omega)] at h
          omega
        · rw [nI_s, v_f (by decide)]
          simp only [gsN]
          rw [ecl]
          exact ih (k + 1) (w + 1) _ (by omega) (by rw [v_eq, e28, nI_s]) (by omega) _ _
    have e1 : gvV G p = nI n := by unfold gvV; rw [if_neg (by rintro ⟨h, -⟩; exact h hv), hn]
    have e2 : gvF G (g p) p = gsN G (g p) 0 n := by unfold gvF; rw [if_pos hv, ecm]
    rw [e1, e2, hv]
    refine t69_0 hR rfl hp (fun _ => ?_) (fun h => absurd (by decide) h)
    rw [hn]
    exact k1 n 0 w G (by omega) hw (by omega) _ _
  · obtain ⟨j, hj, hvj⟩ := hv1.resolve_left hv1'
    have hne : ¬ fv G p = nI 1 := by
      rw [hv]
      intro h
      exact hv1' (nI_inj h (by omega) (by decide))
    obtain ⟨ei, ep⟩ := pix_ix (v := v) hj (Or.inr hvj)
    have epx : pix (fv G p) = j := by rw [hv]; exact ep
    have k1 : ∀ n' k m (G' : Nat → Nat → Int32), k + n' = n → G' 43 j = nI m → m + n' ≤ 12 → ∀ u5 u6, pW ns (d + 1) 69 28 [some (pm_r 20 0), some (pm_i (nI p)), some (pm_i (nI v)), some (pm_i (nI n)), some (pm_i (nI k)), u5, u6] [] (mm x R Z Y o A c G' g) (fun r' => r' = (.inl (some (pm_i (nI n))), mm x R Z Y o A c (gpN G' j (g p) k n') g)) := by
      intro n'
      induction n' with
      | zero =>
        intro k m G' hk e43 hm u5 u6
        refine t69_28 hR (fun _ => rfl) (fun h => ?_)
        rw [nI_leI (by omega) (by omega)] at h
        omega
      | succ n' ih =>
        intro k m G' hk e43 hm u5 u6
        have ecl : (G' 43 j).toNatClampNeg = m := by rw [e43, nI_clamp (by omega)]
        refine t69_28 hR (fun h => ?_) (fun _ => b69_34 hR rfl hp (fun h => absurd (hv.trans h) hne) (fun _ => b69_85 hR (j1 := j) (j2 := 12 * j + m) ei hj (by rw [ei, e43, nI_m, nI_add]) (by omega) ?_))
        · rw [nI_leI (by omega) (by omega)] at h
          omega
        · rw [nI_s, v_f (by decide)]
          simp only [gpN]
          rw [ecl]
          exact ih (k + 1) (m + 1) _ (by omega) (by rw [v_eq, e43, nI_s]) (by omega) _ _
    refine t69_0 hR rfl hp (fun h => ?_) (fun _ => b69_12 hR (r49 hR) (t69_19 hR (fun h => ?_) (fun h => ?_)))
    · rw [hv, nI_leI (by omega) (by decide)] at h
      omega
    · rw [ends0] at h
      have e1 : gvV G p = -nI 6 := by unfold gvV; rw [if_pos ⟨hne, h⟩]
      have e2 : gvF G (g p) p = G := by unfold gvF; rw [if_neg hne, if_pos h]
      rw [e1, e2]
    · rw [ends0] at h
      have ho : opn G (fv G p - nI 1) = true := by cases hh : opn G (fv G p - nI 1) with | true => rfl | false => exact absurd hh h
      obtain ⟨m, e43, hm⟩ := hroom j hj hvj ho
      have e1 : gvV G p = nI n := by unfold gvV; rw [if_neg (by rintro ⟨-, h'⟩; exact h h'), hn]
      have e2 : gvF G (g p) p = gpN G j (g p) 0 n := by unfold gvF; rw [if_neg hne, if_neg h, ecm, epx]
      rw [e1, e2, hn, hv]
      exact k1 n 0 m G (by omega) e43 (by omega) _ _
theorem r70 (hR : RS R) {p : Nat} (hp : p < 8) (hc : chd G p 0 = 8 ∨ chd G p 4 ≠ 8 ∨ chd G p 3 ≠ 8) : pE ns (d + 2) 70 [pm_r 20 0, pm_i (nI p)] (mm x R Z Y o A c G g) (.inl (some (pm_i (rpV G p))), mm x R Z Y o A c (rpF G p) g) := by
  have l0 := chd_le (G := G) (p := p) (w := 0)
  have l4 := chd_le (G := G) (p := p) (w := 4)
  have l3 := chd_le (G := G) (p := p) (w := 3)
  refine en rfl (b70_0 hR (r65 hR hp (by decide)) (t70_6 hR (fun h => b70_12 hR (r65 hR hp (by decide)) (t70_18 hR (fun h1 => b70_42 hR (r65 hR hp (by decide)) ?_) (fun h1 => ?_))) (fun h => ?_)))
  · have h0 : ¬ chd G p 0 = 8 := fun e => by
      have := (cv_neg l0.2).mpr e
      exact absurd h (by rw [Int32.not_le]; exact this)
    have h4 : ¬ chd G p 4 ≠ 8 := fun e => by
      have := (cv_pos l4.1 l4.2).mpr e
      exact absurd h1 (by rw [Int32.not_le]; exact this)
    have h3 : chd G p 3 ≠ 8 := by omega
    have ecv : cv (chd G p 3) = nI (chd G p 3) := if_neg h3
    rw [ecv]
    refine b70_48 hR rfl (by omega) ?_
    simp only [rpV, rpF, if_neg h0, if_neg h4]
  · have h0 : ¬ chd G p 0 = 8 := fun e => by
      have := (cv_neg l0.2).mpr e
      exact absurd h (by rw [Int32.not_le]; exact this)
    have h4 : chd G p 4 ≠ 8 := (cv_pos l4.1 l4.2).mp (by rw [← Int32.not_le]; exact h1)
    have ecv : cv (chd G p 4) = nI (chd G p 4) := if_neg h4
    rw [ecv]
    refine b70_23 hR rfl (by omega) ?_
    simp only [rpV, rpF, if_neg h0, if_pos h4]
    rw [v_f (by decide)]
  · have h0 : chd G p 0 = 8 := (cv_neg l0.2).mp (by rw [← Int32.not_le]; exact h)
    simp only [rpV, rpF, if_pos h0]
theorem r71 (hR : RS R) {p t : Nat} (hp : p < 8) (hc : Cl G p) (i10 : I10 G) (i11 : I11 G) (hw : ∃ w, w ≤ t ∧ G 20 28 = nI w) (ht : t < 2 ^ 30) (h34 : G 34 p = nI 1 ∨ G 34 p = nI 2 ∨ G 34 p = nI 3) (h1 : chF G p = 1) : pE ns (d + 3) 71 [pm_r 20 0, pm_i (nI p)] (mm x R Z Y o A c G g) (.inl (some (pm_i (pfV G p))), mm x R Z Y o A c (pfF G (g p) p) g) := by
  obtain ⟨f, hf, e35, ⟨n, hn, e36, hn1⟩, hrd, hwr⟩ := hc
  have ecf : cfi G p = f := by rw [cfi, e35, nI_clamp (by omega)]
  have efv : fv G p = G 32 (6 * p + f) := by rw [fv, ecf]
  have nd := nd
  refine en rfl ?_
  rcases h34 with h | h | h
  · have hn3 : ¬ G 34 p = nI 3 := by grind
    have hn2 : ¬ G 34 p = nI 2 := by grind
    refine b71_0 hR rfl hp (fun h' => absurd h' (by rw [h]; decide)) (fun _ => b71_10 hR (j2 := 6 * p + f) rfl hp (by rw [e35, nI_m, nI_add]) (by omega) (fun h' => absurd h' hn3) (fun _ => ?_))
    rw [← efv]
    refine b71_47 hR rfl hp (fun h' => absurd h' hn2) (fun _ => ?_)
    by_cases hf1 : fv G p = nI 1
    · rw [hf1]
      refine b71_64 hR (fun _ => b71_80 hR rfl hp (fun h2 => ?_) (fun h2 => b71_101 hR ?_)) (fun h => absurd (by decide) h)
      · obtain ⟨r, l, hr8, e26, e27, hsum, hall⟩ := i11
        obtain ⟨m, hm, e45⟩ := hall 0 (by decide)
        have hr1 : 1 ≤ r := by
          by_cases hr0 : r = 0
          · simp only [chF, if_pos h, if_pos hf1, if_pos h2] at h1
            rw [e26, hr0] at h1
            exact absurd h1 (by decide)
          · omega
        refine b71_93 hR (r67 (d := d + 1) hR hp e26 hr1 hr8 e45 hm e36 hn) (b71_98 hR ?_)
        simp only [pfV, pfF, if_neg hn3, if_neg hn2, if_pos hf1, if_pos h2]
      · simp only [pfV, pfF, if_neg hn3, if_neg hn2, if_pos hf1, if_neg h2]
    · obtain ⟨j, hj, ej⟩ := (hrd h).resolve_left (by rw [← efv]; exact hf1)
      rw [← efv] at ej
      obtain ⟨ei, ep⟩ := pix_ix (v := 2 + 2 * j) hj (Or.inl rfl)
      have epx : pix (fv G p) = j := by rw [ej]; exact ep
      obtain ⟨m, hm, e43⟩ := i10 j hj
      refine b71_64 hR (fun h' => ?_) (fun _ => b71_69 hR (by rw [ej, ei]; exact r68 (d := d + 1) hR hp hj e43 hm e36 hn) (b71_79 hR ?_))
      · rw [ej, nI_leI (by omega) (by decide)] at h'
        omega
      · simp only [pfV, pfF, if_neg hn3, if_neg hn2, if_neg hf1, epx]
  · have hn3 : ¬ G 34 p = nI 3 := by grind
    have hn1' : ¬ G 34 p = nI 1 := by grind
    obtain ⟨w, hw, e28⟩ := hw
    refine b71_0 hR rfl hp (fun h' => absurd h' (by rw [h]; decide)) (fun _ => b71_10 hR (j2 := 6 * p + f) rfl hp (by rw [e35, nI_m, nI_add]) (by omega) (fun h' => absurd h' hn3) (fun _ => ?_))
    rw [← efv]
    have hvv : ∃ v, fv G p = nI v ∧ (v = 1 ∨ ∃ j, j < 6 ∧ v = 3 + 2 * j) := by
      rcases hwr h with h' | ⟨j, hj, h'⟩
      · exact ⟨1, by rw [efv, h'], Or.inl rfl⟩
      · exact ⟨3 + 2 * j, by rw [efv, h'], Or.inr ⟨j, hj, rfl⟩⟩
    obtain ⟨v, ev, hv⟩ := hvv
    refine b71_47 hR rfl hp (fun _ => b71_57 hR (r69 (d := d) hR (w := w) hp e36 hn e28 (by omega) ev hv ?_) (b71_63 hR ?_)) (fun h' => absurd h h')
    · intro j hj hvj ho
      obtain ⟨m, hm, e43⟩ := i10 j hj
      have epx : pix (fv G p) = j := by rw [ev]; exact (pix_ix (v := v) hj (Or.inr hvj)).2
      have hne : ¬ fv G p = nI 1 := by
        rw [ev]
        intro h'
        have := nI_inj h' (by omega) (by decide)
        omega
      refine ⟨m, e43, ?_⟩
      simp only [chF, if_neg hn1', if_pos h] at h1
      split at h1
      · rename_i h2
        rcases h2 with h2 | h2 | h2
        · exact absurd h2 hne
        · rw [ho] at h2
          cases h2
        · rw [epx, e43, e36, nI_add, nI_ltI (by decide) (by omega)] at h2
          omega
      · cases h1
    · simp only [pfV, pfF, if_neg hn3, if_pos h]
  · have hn1' : ¬ G 34 p = nI 1 := by grind
    have hn2 : ¬ G 34 p = nI 2 := by grind
    have hn4 : ¬ G 34 p = nI 4 := by grind
    have hcc : chd G p 0 = 8 ∨ chd G p 4 ≠ 8 ∨ chd G p 3 ≠ 8 := by
      simp only [chF, if_neg hn1', if_neg hn2, if_neg hn4] at h1
      split at h1
      · rename_i h2
        rcases h2 with h2 | h2 | ⟨-, h2⟩
        · exact Or.inl h2
        · exact Or.inr (Or.inl h2)
        · exact Or.inr (Or.inr h2)
      · cases h1
    refine b71_0 hR rfl hp (fun _ => b71_29 hR rfl hp (fun _ => b71_41 hR (r70 (d := d) hR hp hcc) (b71_46 hR ?_)) (fun h' => absurd h h')) (fun h' => absurd (by rw [h]; decide) h')
    simp only [pfV, pfF, if_pos h]
end R6
