/-! @76.r2 71.b5@ the reference: delivery -/
section R3
variable {ns d x : Nat} {R : Nat → Nat → Nat → Option (Nat × Nat)} {Z A : Nat → Nat → Nat → Int32} {Y : Nat → Nat → Nat → Int64} {o : Int64} {c g : Nat → Int64} {G : Nat → Nat → Int32}
theorem fgt_33 {G : Nat → Nat → Int32} {p s k : Nat} : fgt G p s 33 k = G 33 k := v_f (by decide)
theorem r61 (hR : RS R) {t p : Nat} (hp : p < 8) (hI : Iv p t G) (ht : t + 8 < 2 ^ 30) : pE ns (d + 6) 61 [pm_r 20 0, pm_i (nI p)] (mm x R Z Y o A c G g) (.inl none, mm x R Z Y o A c (delF G p) g) := by
  refine en rfl (b61_0 hR ?_)
  have key : ∀ n s, s + n = 8 → 1 ≤ s → ∀ (t : Nat) (G : Nat → Nat → Int32) (u : Option pm_V), t + n < 2 ^ 30 → Iv p t G → Dn p s G → pW ns (d + 5) 61 2 [some (pm_r 20 0), some (pm_i (nI p)), some (pm_i (nI s)), u] [] (mm x R Z Y o A c G g) (fun r' => r' = (.inl none, mm x R Z Y o A c (delN G p s n) g)) := by
    intro n
    induction n with
    | zero =>
      intro s hs h1 t G u ht hI hD
      have : s = 8 := by omega
      subst this
      exact t61_2 hR (fun _ => rfl) (fun h => absurd (by decide) h)
    | succ n ih =>
      intro s hs h1 t G u ht hI hD
      have hs8 : s < 8 := by omega
      obtain ⟨h2, h3⟩ := iv_dst hI hp h1 hs8 hD
      have ih := fun u => ih (s + 1) (by omega) (by omega) (t + 1) (dst G p s) u (by omega) h2 h3
      have hno : ¬ ((G 21 p = nI 1 ∨ G 21 p = nI 2) ∧ due G p s = true) → ∀ u, pW ns (d + 5) 61 2 [some (pm_r 20 0), some (pm_i (nI p)), some (pm_i (nI (s + 1))), u] [] (mm x R Z Y o A c G g) (fun r' => r' = (.inl none, mm x R Z Y o A c (delN (dst G p s) p (s + 1) n) g)) := by
        intro h u
        have ih := ih u
        have e : dst G p s = G := if_neg h
        rw [e] at ih ⊢
        exact ih
      have hyes : (G 21 p = nI 1 ∨ G 21 p = nI 2) → due G p s = true → ∀ u, pW ns (d + 5) 61 60 [some (pm_r 20 0), some (pm_i (nI p)), some (pm_i (nI s)), u] [] (mm x R Z Y o A c G g) (fun r' => r' = (.inl none, mm x R Z Y o A c (delN (dst G p s) p (s + 1) n) g)) := by
        intro ha hd u
        have hf := iv_fgt (s := s) hI hp hs8
        have haf : (fgt G p s) 21 p = nI 1 ∨ (fgt G p s) 21 p = nI 2 := by
          unfold fgt
          rw [v_f (by decide)]
          exact ha
        refine t61_60 hR (j2 := 8 * p + s) rfl hp (by rw [nI_m, nI_add]) (by omega) (fun h => ?_) (fun h h' => ?_) (fun h h' => ?_)
        · change fgt G p s 33 _ = _ at h
          rw [fgt_33] at h
          refine b61_93 hR (r56' (G := fgt G p s) hR hp hf (by omega)) (b61_99 hR ?_)
          rw [nI_s]
          have e : dst G p s = hearF (fgt G p s) p (nI s) := by unfold dst; rw [if_pos ⟨ha, hd⟩, if_pos h]
          rw [← e]
          exact ih _
        · change ¬ fgt G p s 33 _ = _ at h
          change fgt G p s 33 _ = _ at h'
          rw [fgt_33] at h h'
          refine b61_116 hR (r60 (G := fgt G p s) hR hp hs8 hf (by omega) haf) (b61_122 hR ?_)
          rw [nI_s]
          have e : dst G p s = byDefF (fgt G p s) p s := by unfold dst; rw [if_pos ⟨ha, hd⟩, if_neg h, if_pos h']
          rw [← e]
          exact ih _
        · change ¬ fgt G p s 33 _ = _ at h
          change ¬ fgt G p s 33 _ = _ at h'
          rw [fgt_33] at h h'
          rw [nI_s]
          have e : dst G p s = fgt G p s := by unfold dst; rw [if_pos ⟨ha, hd⟩, if_neg h, if_neg h']
          have ih := ih u
          rw [e] at ih ⊢
          exact ih
      refine t61_2 hR (fun h => absurd h (nI_ge hs8 (by decide))) (fun _ => t61_8 hR rfl hp (fun h h' => ?_) (fun h h' => ?_) (fun h h' h'' => ?_) (fun h h' h'' => ?_) (fun h h' => ?_))
      · rw [nI_s]
        exact hno (fun e => by simp [due, h'] at e) _
      · exact hyes (Or.inl h) (by simp [due, h']) _
      · rw [nI_s]
        exact hno (fun e => by simp [due, h''] at e) _
      · exact hyes (Or.inr h') (by simp [due, h'']) _
      · rw [nI_s]
        exact hno (fun e => by rcases e.1 with e | e; exact h e; exact h' e) _
  exact key 7 1 rfl (Nat.le_refl 1) t G _ (by omega) hI (fun _ s h1 h2 => absurd h1 (by omega))
theorem r62 (hR : RS R) {t p s : Nat} (hp : p < 8) (hs1 : 1 ≤ s) (hs : s ≤ 8) (hI : Iv 8 t G) (ht : t + 8 < 2 ^ 30) : pE ns (d + 7) 62 [pm_r 20 0, pm_i (nI p), pm_i (nI s)] (mm x R Z Y o A c G g) (.inl none, mm x R Z Y o A c (comF G p s) g) := by
  have q8 : ∀ {a : Nat}, a ≤ 8 → (nI s = nI a ↔ s = a) := fun ha => nI_eq (by omega) (by omega)
  refine en rfl (b62_0 hR (r48 hR hp) ?_)
  -- behind the first part, if it isn't KILL
  have fin95 : s < 8 → A1 G p → ∀ u, pW ns (d + 6) 62 95 [some (pm_r 20 0), some (pm_i (nI p)), some (pm_i (nI s)), u] [] (mm x R Z Y o A c (ad1 G p s) g) (fun r' => r' = (.inl none, mm x R Z Y o A c (delF (admF G p s) p) g)) := by
    intro h8 ha u
    obtain ⟨ia, -⟩ := iv_adm (s := s) (iv_ex hI) hp h8 ha
    have hset : stp G p s = true → ∀ u, pW ns (d + 6) 62 123 [some (pm_r 20 0), some (pm_i (nI p)), some (pm_i (nI s)), u] [] (mm x R Z Y o A c (ad1 G p s) g) (fun r' => r' = (.inl none, mm x R Z Y o A c (delF (admF G p s) p) g)) := by
      intro hst u
      have e : admF G p s = pm_v (ad1 G p s) 25 p (ad1 G p s 25 p ||| ((nI 1) <<< (nI s &&& 31))) := by unfold admF; rw [if_pos hst]
      refine b62_123 hR rfl hp ?_ (b62_144 hR rfl)
      rw [← e]
      exact r61 hR hp ia (by omega)
    have hnot : stp G p s = false → ∀ u, pW ns (d + 6) 62 139 [some (pm_r 20 0), some (pm_i (nI p)), some (pm_i (nI s)), u] [] (mm x R Z Y o A c (ad1 G p s) g) (fun r' => r' = (.inl none, mm x R Z Y o A c (delF (admF G p s) p) g)) := by
      intro hst u
      have e : admF G p s = ad1 G p s := by unfold admF; rw [if_neg (by rw [hst]; decide)]
      refine b62_139 hR ?_ (b62_144 hR rfl)
      rw [e] at ia ⊢
      exact r61 hR hp ia (by omega)
    refine t62_95 hR (j1 := 8 * p + s) (by rw [nI_m, nI_add]) (by omega) (fun h => ?_) (fun h h' => ?_) (fun h h' h'' => ?_) (fun h h' h'' => ?_)
    · rw [ad1_33] at h
      exact hnot (by simp [stp, h]) _
    · rw [ad1_33] at h h'
      exact hset (by simp only [stp, h', decide_true, Bool.true_or, Bool.and_true]; decide) _
    · rw [ad1_33] at h h'
      rw [nI_leI (by decide) (by omega)] at h''
      exact hnot (by simp [stp, h, h']; omega) _
    · rw [ad1_33] at h h'
      rw [nI_leI (by decide) (by omega)] at h''
      exact hset (by simp [stp, h, h']; omega) _
  refine t62_5 hR (fun h => ?_) (fun h h6 => ?_) (fun h h6 h4 => ?_) (fun h h6 h4 h5 => ?_) (fun h h6 h4 h5 h8 h0 => ?_) (fun h h6 h4 h5 h8 h0 => ?_) (fun h h6 h4 h5 h8 => ?_)
  · simp [comF, bI_0.mp h]
  · have hl := bI_n0.mp h
    have ha := (lv_A (hI.1.1 p hp)).mp hl
    have e6 := (q8 (by decide)).mp h6
    subst e6
    have e : comF G p 6 = delF (admF G p 6) p := by simp [comF, hl]
    rw [e]
    have f := fin95 (by decide) ha
    refine b62_15 hR rfl hp (fun h3 => ?_) (fun h3 => ?_)
    · rw [v_f (by decide)] at h3
      refine b62_40 hR rfl hp (fun h => absurd h (by decide)) (fun _ => b62_57 hR (fun h => absurd h (by decide)) (fun _ => b62_77 hR (fun h => absurd h (by decide)) (fun _ => ?_)))
      have e : ad1 G p 6 = pm_v (pm_v G 25 p (G 25 p &&& -nI 49)) 21 p (G 30 p) := by unfold ad1; rw [if_pos rfl, if_pos h3]
      rw [v_f (by decide), ← e]
      exact f _
    · rw [v_f (by decide)] at h3
      refine b62_52 hR (fun h => absurd h (by decide)) (fun _ => b62_57 hR (fun h => absurd h (by decide)) (fun _ => b62_77 hR (fun h => absurd h (by decide)) (fun _ => ?_)))
      have e : ad1 G p 6 = pm_v G 25 p (G 25 p &&& -nI 49) := by unfold ad1; rw [if_pos rfl, if_neg h3]
      rw [← e]
      exact f _
  · have hl := bI_n0.mp h
    have ha := (lv_A (hI.1.1 p hp)).mp hl
    have e4 := (q8 (by decide)).mp h4
    subst e4
    have e : comF G p 4 = delF (admF G p 4) p := by simp [comF, hl]
    rw [e]
    refine t62_62 hR rfl hp (fun h => absurd h (by decide)) (fun h => absurd h (by decide)) (fun _ => ?_)
    exact fin95 (by decide) ha _
  · have hl := bI_n0.mp h
    have ha := (lv_A (hI.1.1 p hp)).mp hl
    have e5 := (q8 (by decide)).mp h5
    subst e5
    have e : comF G p 5 = delF (admF G p 5) p := by simp [comF, hl]
    rw [e]
    refine t62_62 hR rfl hp (fun h => absurd h (by decide)) (fun h => absurd h (by decide)) (fun _ => ?_)
    exact fin95 (by decide) ha _
  · have hl := bI_n0.mp h
    have e8 := (q8 (by decide)).mp h8
    rw [← nI_0, nI_leI (by omega) (by decide)] at h0
    have e0 : p = 0 := by omega
    simp [comF, hl, e8, e0]
  · have hl := bI_n0.mp h
    have ha := (lv_A (hI.1.1 p hp)).mp hl
    have e8 := (q8 (by decide)).mp h8
    rw [← nI_0, nI_leI (by omega) (by decide)] at h0
    have e0 : p ≠ 0 := by omega
    refine b62_87 hR (r59 (d := d + 2) hR (by omega) hp hI (Or.inr rfl) (by omega) ha) (b62_94 hR ?_)
    simp [comF, hl, e8, e0]
  · have hl := bI_n0.mp h
    have ha := (lv_A (hI.1.1 p hp)).mp hl
    rw [q8 (by decide)] at h4 h5 h6 h8
    have e : comF G p s = delF (admF G p s) p := by simp [comF, hl, h8]
    rw [e]
    have f := fin95 (by omega) ha
    have e : ad1 G p s = G := by unfold ad1; rw [if_neg h6, if_neg (by omega)]
    rw [e] at f
    exact f _
theorem r63 (hR : RS R) {t s : Nat} {q : Int32} (hs1 : 1 ≤ s) (hs : s ≤ 8) (hI : Iv 8 t G) (ht : t + 64 < 2 ^ 30) : pE ns (d + 8) 63 [pm_r 20 0, pm_i q, pm_i (nI s)] (mm x R Z Y o A c G g) (.inl none, mm x R Z Y o A c (cpF G q s) g) := by
  refine en rfl (b63_0 hR ?_)
  have key : ∀ n k, k + n = 8 → ∀ (t : Nat) (G : Nat → Nat → Int32), t + 7 * n + 8 < 2 ^ 30 → Iv 8 t G → pW ns (d + 7) 63 2 [some (pm_r 20 0), some (pm_i q), some (pm_i (nI s)), some (pm_i (nI k))] [] (mm x R Z Y o A c G g) (fun r' => r' = (.inl none, mm x R Z Y o A c (cpN G q s k n) g)) := by
    intro n
    induction n with
    | zero =>
      intro k hk t G ht hI
      have : k = 8 := by omega
      subst this
      exact t63_2 hR (fun _ => rfl) (fun h => absurd (by decide) h)
    | succ n ih =>
      intro k hk t G ht hI
      have hk8 : k < 8 := by omega
      have hno : ¬ (lv G k = true ∧ G 23 k = q) → pW ns (d + 7) 63 2 [some (pm_r 20 0), some (pm_i q), some (pm_i (nI s)), some (pm_i (nI k + nI 1))] [] (mm x R Z Y o A c G g) (fun r' => r' = (.inl none, mm x R Z Y o A c (cpN G q s k (n + 1)) g)) := by
        intro h
        have := ih (k + 1) (by omega) t G (by omega) hI
        rw [nI_s]
        simp only [cpN, if_neg h]
        exact this
      refine t63_2 hR (fun h => absurd h (nI_ge hk8 (by decide))) (fun _ => b63_8 hR (r48 hR hk8) (t63_13 hR (fun h => hno (fun e => by rw [bI_0.mp h] at e; exact absurd e.1 (by decide))) (fun h => t63_16 hR rfl hk8 (fun h' => ?_) (fun h' => hno (fun e => h' e.2)))))
      refine b63_26 hR (r62 hR hk8 hs1 hs hI (by omega)) (b63_32 hR ?_)
      have := ih (k + 1) (by omega) (t + 7) (comF G k s) (by omega) (iv_com hI hk8 hs)
      rw [nI_s]
      simp only [cpN, if_pos (And.intro (bI_n0.mp h) h')]
      exact this
  exact key 8 0 rfl t G (by omega) hI
end R3
