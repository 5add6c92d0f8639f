/-! @75.inx@ the reference: signals -/
section R2
variable {ns d x : Nat} {R : Nat → Nat → Nat → Option (Nat × Nat)} {Z A : Nat → Nat → Nat → Int32} {Y : Nat → Nat → Nat → Int64} {o : Int64} {c g : Nat → Int64} {G : Nat → Nat → Int32}
theorem r56' (hR : RS R) {t e p : Nat} (hp : p < 8) {s : Int32} (hI : Iv e t G) (ht : t < 2 ^ 30) : pE ns (d + 2) 56 [pm_r 20 0, pm_i (nI p), pm_i s] (mm x R Z Y o A c G g) (.inl none, mm x R Z Y o A c (hearF G p s) g) := by
  obtain ⟨h, h1, h2⟩ := hI.1.2.2.2.2.2.2.2 p hp
  exact r56 hR hp h2 (by omega)
theorem r57 (hR : RS R) {t e p : Nat} (hp : p < 8) (hI : Iv e t G) (ht : t < 2 ^ 30) : pE ns (d + 3) 57 [pm_r 20 0, pm_i (nI p)] (mm x R Z Y o A c G g) (.inl none, mm x R Z Y o A c (tellF G p) g) := by
  refine en rfl (t57_0 hR (j1 := 8 * p + 7) (by rw [nI_m, nI_add]) (by omega) (fun h => t57_17 hR rfl hp (fun h1 => ?_) (fun h1 h2 => ?_) (fun h1 h2 => ?_)) (fun h => ?_))
  · simp only [tellF, if_pos h, if_pos (Or.inl h1)]
  · simp only [tellF, if_pos h, if_pos (Or.inr h2)]
  · refine b57_61 hR (r56' hR hp hI ht) (b57_68 hR ?_)
    simp only [tellF, if_pos h]
    rw [if_neg (by rintro (h3 | h3); exact h1 h3; exact h2 h3)]
  · simp only [tellF, if_neg h]
theorem r58 (hR : RS R) {t e p : Nat} (h1p : 1 ≤ p) (hp : p < 8) (hI : Iv e t G) (he : e = p ∨ e = 8) (ht : t < 2 ^ 30) (ha : G 21 p = nI 1 ∨ G 21 p = nI 2) : pE ns (d + 4) 58 [pm_r 20 0, pm_i (nI p)] (mm x R Z Y o A c G g) (.inl none, mm x R Z Y o A c (haltF G p) g) := by
  obtain ⟨h1, h2, h3, -, -⟩ := iv_hal1 hI h1p hp he ha
  refine en rfl (b58_0 hR rfl hp ?_ (b58_36 hR rfl))
  rw [v_f (by decide), v_f (by decide), v_f (by decide), h3]
  exact r57 hR h2 h1 ht
/-- the first k files closed; the children below k handed on -/
def fzk (G : Nat → Nat → Int32) (p k : Nat) : Nat → Nat → Int32 := fun f j => if f = 32 ∧ 6 * p ≤ j ∧ j < 6 * p + k then nI 0 else G f j
def rpk (G : Nat → Nat → Int32) (p k : Nat) : Nat → Nat → Int32 := fun f j => if f = 22 ∧ 1 ≤ j ∧ j < k ∧ ¬ G 21 j = 0 ∧ G 22 j = nI p then nI 0 else G f j
theorem fzk_s (G : Nat → Nat → Int32) (p k : Nat) : fzk G p (k + 1) = pm_v (fzk G p k) 32 (6 * p + k) (nI 0) := by
  funext f j
  unfold pm_v fzk
  grind
theorem fzk_0 (G : Nat → Nat → Int32) (p : Nat) : fzk G p 0 = G := by
  funext f j
  unfold fzk
  rw [if_neg (by omega)]
theorem rpk_s {G : Nat → Nat → Int32} {p k : Nat} {v : Int32} (hv : v = if ¬ G 21 k = 0 ∧ G 22 k = nI p then nI 0 else G 22 k) (h1 : 1 ≤ k) : rpk G p (k + 1) = pm_v (rpk G p k) 22 k v := by
  funext f j
  unfold pm_v rpk
  subst hv
  grind
theorem rpk_1 (G : Nat → Nat → Int32) (p : Nat) : rpk G p 1 = G := by
  funext f j
  unfold rpk
  rw [if_neg (by omega)]
theorem rpk_f {G : Nat → Nat → Int32} {p k f j : Nat} (h : f ≠ 22) : rpk G p k f j = G f j := if_neg (fun e => h e.1)
theorem rpk_22 {G : Nat → Nat → Int32} {p k : Nat} : rpk G p k 22 k = G 22 k := if_neg (by omega)
theorem r59 (hR : RS R) {t e p : Nat} {how : Int32} (h1p : 1 ≤ p) (hp : p < 8) (hI : Iv e t G) (he : e = p ∨ e = 8) (ht : t < 2 ^ 30) (ha : A1 G p) : pE ns (d + 4) 59 [pm_r 20 0, pm_i (nI p), pm_i how] (mm x R Z Y o A c G g) (.inl none, mm x R Z Y o A c (finishF G p how) g) := by
  obtain ⟨h1, h2, h3, h4, -⟩ := iv_end (how := how) hI h1p hp he ha
  have hfz : fz G p 22 p = nI (pa G p) := by rw [← h3]; exact if_neg (by omega)
  have hpar : rpk (fz G p) p 8 22 p = nI (pa G p) := by
    unfold rpk
    rw [if_neg, hfz]
    rintro ⟨-, -, -, -, h⟩
    rw [hfz] at h
    exact h4 (nI_inj h (by omega) (by omega))
  have h33 : ∀ k, rpk (fz G p) p 8 33 k = G 33 k := fun k => by rw [rpk_f (by decide)]; exact if_neg (by omega)
  have hend : ∀ v, (v = if G 33 (8 * pa G p + 7) = nI 1 then nI 0 else nI 4) → pm_v (pm_v (pm_v (pm_v (rpk (fz G p) p 8) 21 p v) 29 p how) 25 p (nI 0)) 34 p (nI 0) = endF G p how := by
    intro v hv
    subst hv
    rfl
  refine en rfl (b59_0 hR ?_)
  have key2 : ∀ k, k ≤ 8 → 1 ≤ k → pW ns (d + 3) 59 28 [some (pm_r 20 0), some (pm_i (nI p)), some (pm_i how), some (pm_i (nI k))] [] (mm x R Z Y o A c (rpk (fz G p) p k) g) (fun r' => r' = (.inl none, mm x R Z Y o A c (finishF G p how) g)) := by
    refine dn (N := 8) (fun k => 1 ≤ k → _) ?_ ?_
    · intro _
      refine t59_28 hR (fun _ => t59_75 hR (j2 := 8 * pa G p + 7) rfl hp (by rw [hpar, nI_m, nI_add]) (by omega) (fun h => ?_) (fun h => ?_)) (fun h => absurd (by decide) h)
      · rw [h33] at h
        refine b59_103 hR (j1 := p) (j2 := p) rfl hp rfl hp ?_ (b59_135 hR rfl)
        rw [hpar, hend _ (by rw [if_pos h])]
        exact r57 hR h2 h1 ht
      · rw [h33] at h
        refine b59_107 hR (j1 := p) (j2 := p) rfl hp rfl hp ?_ (b59_135 hR rfl)
        rw [hpar, hend _ (by rw [if_neg h])]
        exact r57 hR h2 h1 ht
    · intro k hk ih h1k
      have ih := ih (by omega)
      refine t59_28 hR (fun h => absurd h (nI_ge hk (by decide))) (fun _ => t59_34 hR rfl hk (fun h => ?_) (fun h h' => ?_) (fun h h' => ?_))
      · rw [rpk_f (by decide)] at h
        rw [nI_s, rpk_22, ← rpk_s (by rw [if_neg (fun e => e.1 h)]) h1k]
        exact ih
      · rw [rpk_f (by decide)] at h
        rw [rpk_22] at h'
        rw [nI_s, ← rpk_s (by rw [if_pos ⟨h, h'⟩]) h1k]
        exact ih
      · rw [rpk_22] at h'
        rw [nI_s, rpk_22, ← rpk_s (by rw [if_neg (fun e => h' e.2)]) h1k]
        exact ih
  have key1 : ∀ k, k ≤ 6 → pW ns (d + 3) 59 2 [some (pm_r 20 0), some (pm_i (nI p)), some (pm_i how), some (pm_i (nI k))] [] (mm x R Z Y o A c (fzk G p k) g) (fun r' => r' = (.inl none, mm x R Z Y o A c (finishF G p how) g)) := by
    refine dn (N := 6) (fun k => _) ?_ ?_
    · refine t59_2 hR (fun _ => ?_) (fun h => absurd (by decide) h)
      have := key2 1 (by decide) (by decide)
      rw [rpk_1] at this
      exact this
    · intro k hk ih
      refine t59_2 hR (fun h => absurd h (nI_ge hk (by decide))) (fun _ => b59_8 hR (j1 := 6 * p + k) (by rw [nI_m, nI_add]) (by omega) ?_)
      rw [nI_s, ← fzk_s]
      exact ih
  have := key1 0 (by decide)
  rw [fzk_0] at this
  exact this
theorem r54' (hR : RS R) {t e : Nat} {q : Int32} (hI : Iv e t G) : pE ns (d + 2) 54 [pm_r 20 0, pm_i q] (mm x R Z Y o A c G g) (.inl (some (pm_i (bI (orph G q)))), mm x R Z Y o A c G g) := by
  refine r54 hR (fun p h1 hp hl => ?_)
  have nd := nd
  have ha := (lv_A (hI.1.1 p hp)).mp hl
  obtain ⟨k, h2, h3, -, -⟩ := hI.1.2.2.1 p h1 hp (by unfold A1 at ha; grind)
  exact ⟨k, h2, h3⟩
theorem r60 (hR : RS R) {t p s : Nat} (hp : p < 8) (hs : s < 8) (hI : Iv p t G) (ht : t < 2 ^ 30) (ha : G 21 p = nI 1 ∨ G 21 p = nI 2) : pE ns (d + 5) 60 [pm_r 20 0, pm_i (nI p), pm_i (nI s)] (mm x R Z Y o A c G g) (.inl none, mm x R Z Y o A c (byDefF G p s) g) := by
  have hA : A1 G p := by unfold A1; grind
  refine en rfl (t60_0 hR (fun h => ?_) (fun h h1 h2 => ?_) (fun h h1 h2 => ?_) (fun h h1 => ?_))
  · have : p = 0 := nI_inj (h.trans nI_0.symm) (by omega) (by decide)
    simp only [byDefF, if_pos this]
  · have hp0 : ¬ p = 0 := fun e => h (by rw [e]; exact nI_0)
    rw [nI_leI (by decide) (by omega)] at h1 h2
    simp only [byDefF, if_neg hp0]
    rw [if_neg (by omega), if_neg (by omega)]
  · have hp0 : ¬ p = 0 := fun e => h (by rw [e]; exact nI_0)
    rw [nI_leI (by decide) (by omega)] at h1 h2
    refine b60_28 hR rfl hp (r54' hR hI) (t60_38 hR (fun h3 => b60_41 hR (r58 hR (by omega) hp hI (Or.inl rfl) ht ha) (b60_46 hR ?_)) (fun h3 => ?_))
    · simp only [byDefF, if_neg hp0]
      rw [if_neg (by omega), if_pos ⟨by omega, bI_0.mp h3⟩]
    · simp only [byDefF, if_neg hp0]
      rw [if_neg (by omega), if_neg]
      rintro ⟨-, h4⟩
      rw [bI_n0, h4] at h3
      cases h3
  · have hp0 : ¬ p = 0 := fun e => h (by rw [e]; exact nI_0)
    rw [nI_leI (by decide) (by omega)] at h1
    refine b60_10 hR (by rw [nI_add]; exact r59 hR (by omega) hp hI (Or.inl rfl) ht hA) (b60_19 hR ?_)
    simp only [byDefF, if_neg hp0]
    rw [if_pos (by omega)]
end R2
