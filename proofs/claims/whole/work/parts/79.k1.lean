/-! @78.r7@ the reference: keys -/
abbrev thr (G : Nat → Nat → Int32) (v : Int32) : Nat → Nat → Int32 := pm_v G 20 0 v
def usN (G : Nat → Nat → Int32) : Nat := (G 20 27).toNatClampNeg + sumL G (G 20 26).toNatClampNeg
def isl (G : Nat → Nat → Int32) (c : Int32) : Bool := !decide (nI 8 ≤ G 20 26) && (!decide (c = nI 10) || decide (usN G < 24))
def putF (G : Nat → Nat → Int32) (c : Int32) : Nat → Nat → Int32 := if usN G = 24 then G else pm_v (pm_v G 44 (usN G) c) 20 27 (G 20 27 + nI 1)
def ldF (G : Nat → Nat → Int32) : Nat → Nat → Int32 := pm_v (pm_v (pm_v G 45 (G 20 26).toNatClampNeg (G 20 27)) 20 26 (G 20 26 + nI 1)) 20 27 (nI 0)
def clrF (G : Nat → Nat → Int32) : Nat → Nat → Int32 := pm_v (pm_v G 20 26 (nI 0)) 20 27 (nI 0)
def keyF (G : Nat → Nat → Int32) (c : Int32) : Nat → Nat → Int32 :=
  if c = nI 3 then cpF (clrF G) (G 20 25) 1 else if c = nI 26 then cpF (clrF G) (G 20 25) 4
  else if c = nI 8 then (if G 20 27 ≤ 0 then G else pm_v G 20 27 (G 20 27 - nI 1))
  else if c = nI 21 then pm_v G 20 27 (nI 0)
  else if c = nI 10 then (if isl G c = true then ldF (putF G c) else G)
  else if c = nI 4 then (if isl G c = true then ldF G else G)
  else if ¬ c < nI 32 ∧ ¬ nI 126 < c then putF G c else G
theorem iv_tty {t : Nat} {G G' : Nat → Nat → Int32} (hI : Iv 8 t G) (h : ∀ f k, f ≠ 20 → f ≠ 44 → f ≠ 45 → G' f k = G f k) (h20 : G' 20 20 = G 20 20) (h28 : G' 20 28 = G 20 28) (h11 : I11 G') : Iv 8 t G' := by
  refine ⟨is_frame (fun f hf k => h f k (by omega) (by omega) (by omega)) hI.1, ig_frame2 (fun f hf k => h f k (by omega) (by omega) (by omega)) (Nat.le_refl _) (I10_congr (fun k => h _ _ (by decide) (by decide) (by decide)) hI.2.2.2.1) h11 ?_ h20 hI.2⟩
  rw [h28]
  exact wr_b hI
theorem iv_thr {t : Nat} {G : Nat → Nat → Int32} {v : Int32} (hI : Iv 8 t G) : Iv 8 t (thr G v) := iv_tty hI (fun f k h1 h2 h3 => v_f h1) (v_k (by decide)) (v_k (by decide)) (I11_congr2 (fun k => v_f (by decide)) (v_k (by decide)) (v_k (by decide)) hI.2.2.2.2.1)
theorem sumL_c {G G' : Nat → Nat → Int32} : ∀ {n : Nat}, (∀ k, k < n → G' 45 k = G 45 k) → sumL G' n = sumL G n
  | 0, _ => rfl
  | n + 1, h => by
    simp only [sumL]
    rw [sumL_c (fun k hk => h k (by omega)), h n (by omega)]
theorem us_of {G : Nat → Nat → Int32} {r l : Nat} (e1 : G 20 26 = nI r) (e2 : G 20 27 = nI l) (hr : r ≤ 8) (hl : l ≤ 24) : usN G = l + sumL G r := by
  unfold usN
  rw [e1, e2, nI_clamp (by omega), nI_clamp (by omega)]
theorem us_le {G : Nat → Nat → Int32} (h : I11 G) : usN G ≤ 24 := by
  obtain ⟨r, l, hr, e1, e2, h24, -⟩ := h
  rw [us_of e1 e2 hr (by omega)]
  exact h24
theorem iv_clr {t : Nat} {G : Nat → Nat → Int32} (hI : Iv 8 t G) : Iv 8 t (clrF G) := by
  refine iv_tty hI (fun f k h1 h2 h3 => by unfold clrF; rw [v_f h1, v_f h1]) ?_ ?_ ?_
  · unfold clrF
    rw [v_k (by decide), v_k (by decide)]
  · unfold clrF
    rw [v_k (by decide), v_k (by decide)]
  · obtain ⟨r, l, hr, e1, e2, h24, hm⟩ := hI.2.2.2.2.1
    refine ⟨0, 0, by decide, by unfold clrF; rw [v_k (by decide), v_eq], by unfold clrF; rw [v_eq], by simp [sumL], fun k hk => ?_⟩
    obtain ⟨m, hm1, hm2⟩ := hm k hk
    exact ⟨m, hm1, by unfold clrF; rw [v_f (by decide), v_f (by decide)]; exact hm2⟩
theorem iv_27 {t r l l' : Nat} {G : Nat → Nat → Int32} (hI : Iv 8 t G) (e1 : G 20 26 = nI r) (hr : r ≤ 8) (h24 : l' + sumL G r ≤ 24) : Iv 8 t (pm_v G 20 27 (nI l')) := by
  refine iv_tty hI (fun f k h1 h2 h3 => v_f h1) (v_k (by decide)) (v_k (by decide)) ?_
  obtain ⟨r', l0, hr', e1', e2, h24', hm⟩ := hI.2.2.2.2.1
  refine ⟨r, l', hr, by rw [v_k (by decide)]; exact e1, v_eq, ?_, fun k hk => ?_⟩
  · rw [sumL_c (fun k hk => v_f (by decide))]
    exact h24
  · rw [v_f (by decide)]
    exact hm k hk
theorem iv_44 {t k : Nat} {G : Nat → Nat → Int32} {v : Int32} (hI : Iv 8 t G) : Iv 8 t (pm_v G 44 k v) := iv_tty hI (fun f k h1 h2 h3 => v_f h2) (v_f (by decide)) (v_f (by decide)) (I11_congr2 (fun k => v_f (by decide)) (v_f (by decide)) (v_f (by decide)) hI.2.2.2.2.1)
theorem iv_put {t : Nat} {G : Nat → Nat → Int32} {c : Int32} (hI : Iv 8 t G) : Iv 8 t (putF G c) := by
  unfold putF
  split
  · exact hI
  · rename_i h
    obtain ⟨r, l, hr, e1, e2, h24, hm⟩ := hI.2.2.2.2.1
    rw [us_of e1 e2 hr (by omega)] at h ⊢
    rw [e2, nI_s]
    refine iv_27 (r := r) (l := l) (iv_44 hI) (by rw [v_f (by decide)]; exact e1) hr ?_
    rw [sumL_c (G := G) (fun k hk => v_f (by decide))]
    omega
theorem iv_ld {t : Nat} {G : Nat → Nat → Int32} (hI : Iv 8 t G) (h8 : ¬ nI 8 ≤ G 20 26) : Iv 8 t (ldF G) := by
  obtain ⟨r, l, hr, e1, e2, h24, hm⟩ := hI.2.2.2.2.1
  rw [e1, nI_leI (by decide) (by omega)] at h8
  unfold ldF
  rw [e1, e2, nI_s, nI_clamp (by omega)]
  refine iv_tty hI (fun f k h1 h2 h3 => by rw [v_f h1, v_f h1, v_f h3]) ?_ ?_ ?_
  · rw [v_k (by decide), v_k (by decide), v_f (by decide)]
  · rw [v_k (by decide), v_k (by decide), v_f (by decide)]
  · refine ⟨r + 1, 0, by omega, by rw [v_k (by decide), v_eq], v_eq, ?_, fun k hk => ?_⟩
    · simp only [sumL]
      rw [sumL_c (G := G) (fun k hk => by rw [v_f (by decide), v_f (by decide), v_k (by omega)]), v_f (by decide), v_f (by decide), v_eq, nI_clamp (by omega)]
      omega
    · rw [v_f (by decide), v_f (by decide)]
      by_cases e : k = r
      · subst e
        exact ⟨l, by omega, v_eq⟩
      · rw [v_k e]
        exact hm k hk
theorem isl_8 {G : Nat → Nat → Int32} {c : Int32} (h : isl G c = true) : ¬ nI 8 ≤ G 20 26 := by
  unfold isl at h
  simp only [Bool.and_eq_true, Bool.not_eq_true', decide_eq_false_iff_not] at h
  exact h.1
theorem put_26 {G : Nat → Nat → Int32} {c : Int32} : putF G c 20 26 = G 20 26 := by
  unfold putF
  split
  · rfl
  · rw [v_k (by decide), v_f (by decide)]
theorem iv_key {t : Nat} {G : Nat → Nat → Int32} {c : Int32} (hI : Iv 8 t G) : Iv 8 (t + 56) (keyF G c) := by
  have hm : ∀ {G' : Nat → Nat → Int32}, Iv 8 t G' → Iv 8 (t + 56) G' := fun h => iv_mono h (by omega)
  obtain ⟨r, l, hr, e1, e2, h24, -⟩ := id hI.2.2.2.2.1
  unfold keyF
  split
  · exact iv_cp (iv_clr hI) (by decide)
  · split
    · exact iv_cp (iv_clr hI) (by decide)
    · split
      · split
        · exact hm hI
        · rename_i h
          refine hm ?_
          rw [e2, ← nI_0, nI_leI (by omega) (by decide)] at h
          rw [e2, pk_sub (by omega)]
          exact iv_27 (l := l) hI e1 hr (by omega)
      · split
        · exact hm (iv_27 (l := l) hI e1 hr (by omega))
        · split
          · split
            · rename_i h
              exact hm (iv_ld (iv_put hI) (by rw [put_26]; exact isl_8 h))
            · exact hm hI
          · split
            · split
              · rename_i h
                exact hm (iv_ld hI (isl_8 h))
              · exact hm hI
            · split
              · exact hm (iv_put hI)
              · exact hm hI
section K1
variable {ns d x : Nat} {R : Nat → Nat → Nat → Option (Nat × Nat)} {Z A : Nat → Nat → Nat → Int32} {Y : Nat → Nat → Nat → Int64} {o : Int64} {c g : Nat → Int64} {G : Nat → Nat → Int32}
theorem r76 (hR : RS R) (h : I11 G) : pE ns (d + 1) 76 [pm_r 20 0] (mm x R Z Y o A c G g) (.inl (some (pm_i (nI (usN G)))), mm x R Z Y o A c G g) := by
  obtain ⟨r, l, hr, e1, e2, h24, hm⟩ := h
  rw [us_of e1 e2 hr (by omega)]
  refine en rfl (b76_0 hR ?_)
  rw [e2]
  have key : ∀ n k s, k + n = r → s + sumL G k = l + sumL G k + sumL G k → pW ns d 76 7 [some (pm_r 20 0), some (pm_i (nI s)), some (pm_i (nI k))] [] (mm x R Z Y o A c G g) (fun r' => r' = (.inl (some (pm_i (nI (l + sumL G r)))), mm x R Z Y o A c G g)) := by
    intro n
    induction n with
    | zero =>
      intro k s hk hs
      have : k = r := by omega
      subst this
      refine t76_7 hR (fun _ => ?_) (fun h => ?_)
      · rw [show s = l + sumL G k from by omega]
      · rw [e1] at h
        exact absurd (by rw [nI_leI (by omega) (by omega)]; omega) h
    | succ n ih =>
      intro k s hk hs
      refine t76_7 hR (fun h => ?_) (fun _ => b76_15 hR rfl (by omega) ?_)
      · rw [e1, nI_leI (by omega) (by omega)] at h
        omega
      · obtain ⟨m, hm1, hm2⟩ := hm k (by omega)
        rw [hm2, nI_add, nI_s]
        refine ih (k + 1) (s + m) (by omega) ?_
        simp only [sumL]
        rw [hm2, nI_clamp (by omega)]
        omega
  exact key r 0 l (by omega) (by simp [sumL])
theorem r75 (hR : RS R) {v : Int32} (h : I11 G) : pE ns (d + 2) 75 [pm_r 20 0, pm_i v] (mm x R Z Y o A c G g) (.inl (some (pm_i (bI (isl G v)))), mm x R Z Y o A c G g) := by
  have hu := us_le h
  refine en rfl (t75_0 hR (fun h1 h2 => ?_) (fun h1 h2 => b75_15 hR (r76 hR h) (t75_19 hR (fun h3 => ?_) (fun h3 => ?_))) (fun h1 h2 => ?_) (fun h1 h2 => ?_))
  · simp [isl, h2, bI_f]
  · rw [nI_leI (by decide) (by omega)] at h3
    simp [isl, h1, show ¬ usN G < 24 from by omega, bI_f]
  · rw [nI_leI (by decide) (by omega)] at h3
    simp [isl, h2, show usN G < 24 from by omega, bI_t]
  · simp [isl, h2, bI_f]
  · simp [isl, h1, h2, bI_t]
theorem r77 (hR : RS R) {v : Int32} (h : I11 G) : pE ns (d + 2) 77 [pm_r 20 0, pm_i v] (mm x R Z Y o A c G g) (.inl none, mm x R Z Y o A c (putF G v) g) := by
  have hu := us_le h
  refine en rfl (b77_0 hR (r76 hR h) (t77_4 hR (fun h1 => ?_) (fun h1 => b77_10 hR (r76 hR h) (b77_18 hR (j1 := usN G) rfl ?_ ?_))))
  · have := nI_inj h1 (by omega) (by decide)
    simp [putF, this]
  · have : ¬ usN G = 24 := fun e => h1 (by rw [e])
    omega
  · have : ¬ usN G = 24 := fun e => h1 (by rw [e])
    rw [v_f (by decide)]
    simp only [putF, if_neg this]
theorem r78 (hR : RS R) (h : I11 G) (h8 : ¬ nI 8 ≤ G 20 26) : pE ns (d + 1) 78 [pm_r 20 0] (mm x R Z Y o A c G g) (.inl none, mm x R Z Y o A c (ldF G) g) := by
  obtain ⟨r, l, hr, e1, e2, h24, hm⟩ := h
  rw [e1, nI_leI (by decide) (by omega)] at h8
  refine en rfl (b78_0 hR e1 (by omega) ?_)
  unfold ldF
  rw [v_f (by decide), e1, nI_clamp (by omega)]
theorem r79 (hR : RS R) {t : Nat} {v : Int32} (hI : Iv 8 t G) (ht : t + 700 < 2 ^ 30) : pE ns (d + 10) 79 [pm_r 20 0, pm_i v] (mm x R Z Y o A c G g) (.inl none, mm x R Z Y o A c (settleF (keyF (thr G (nI 0)) v) g) g) := by
  have hT : Iv 8 t (thr G (nI 0)) := iv_thr hI
  have hK := iv_key (c := v) hT
  have i11 : I11 (thr G (nI 0)) := hT.2.2.2.2.1
  refine en rfl ?_
  have fin : pW ns (d + 9) 79 135 [some (pm_r 20 0), some (pm_i v)] [] (mm x R Z Y o A c (keyF (thr G (nI 0)) v) g) (fun r' => r' = (.inl none, mm x R Z Y o A c (settleF (keyF (thr G (nI 0)) v) g) g)) := b79_135 hR (r72 hR hK (by omega)) (b79_139 hR rfl)
  generalize hQ : (fun r' : pm_O × pm_M => r' = (.inl none, mm x R Z Y o A c (settleF (keyF (thr G (nI 0)) v) g) g)) = Q at fin ⊢
  clear hQ
  by_cases h3 : v = nI 3
  · subst h3
    simp only [keyF, if_true] at fin
    exact b79_0 hR (fun _ => b79_16 hR (fun _ => b79_36 hR (r63 (d := d + 1) hR (by decide) (by decide) (iv_clr hT) (by omega)) (b79_44 hR (fun h => absurd h (by decide)) (fun _ => b79_67 hR (fun h => absurd h (by decide)) (fun _ => b79_78 hR (fun h => absurd h (by decide)) (fun _ => b79_101 hR (fun h => absurd h (by decide)) (fun _ => b79_118 hR (fun _ => fin) (fun h => absurd (by decide) h))))))) (fun h => absurd rfl h)) (fun h => absurd rfl h)
  by_cases h26 : v = nI 26
  · subst h26
    rw [keyF, if_neg (by decide), if_pos rfl] at fin
    exact b79_0 hR (fun h => absurd h (by decide)) (fun _ => b79_10 hR (fun _ => b79_16 hR (fun h => absurd h (by decide)) (fun _ => b79_40 hR (r63 (d := d + 1) hR (by decide) (by decide) (iv_clr hT) (by omega)) (b79_44 hR (fun h => absurd h (by decide)) (fun _ => b79_67 hR (fun h => absurd h (by decide)) (fun _ => b79_78 hR (fun h => absurd h (by decide)) (fun _ => b79_101 hR (fun h => absurd h (by decide)) (fun _ => b79_118 hR (fun _ => fin) (fun h => absurd (by decide) h)))))))) (fun h => absurd rfl h))
  refine b79_0 hR (fun h => absurd h h3) (fun _ => b79_10 hR (fun h => absurd h h26) (fun _ => b79_44 hR (fun h8 => ?_) (fun h8 => b79_67 hR (fun h21 => ?_) (fun h21 => b79_78 hR (fun h10 => ?_) (fun h10 => b79_101 hR (fun h4 => ?_) (fun h4 => b79_118 hR (fun h32 => ?_) (fun h32 => b79_124 hR (fun h126 => ?_) (fun h126 => b79_130 hR (r77 (d := d + 7) hR i11) ?_))))))))
  · subst h8
    rw [keyF, if_neg (by decide), if_neg (by decide), if_pos rfl] at fin
    refine b79_50 hR (fun h => ?_) (fun h => ?_)
    · rw [if_pos h] at fin
      exact b79_67 hR (fun h => absurd h (by decide)) (fun _ => b79_78 hR (fun h => absurd h (by decide)) (fun _ => b79_101 hR (fun h => absurd h (by decide)) (fun _ => b79_118 hR (fun _ => fin) (fun h => absurd (by decide) h))))
    · rw [if_neg h] at fin
      exact b79_57 hR (fun h => absurd h (by decide)) (fun _ => b79_78 hR (fun h => absurd h (by decide)) (fun _ => b79_101 hR (fun h => absurd h (by decide)) (fun _ => b79_118 hR (fun _ => fin) (fun h => absurd (by decide) h))))
  · subst h21
    rw [keyF, if_neg (by decide), if_neg (by decide), if_neg (by decide), if_pos rfl] at fin
    exact b79_73 hR (fun h => absurd h (by decide)) (fun _ => b79_101 hR (fun h => absurd h (by decide)) (fun _ => b79_118 hR (fun _ => fin) (fun h => absurd (by decide) h)))
  · subst h10
    rw [keyF, if_neg (by decide), if_neg (by decide), if_neg (by decide), if_neg (by decide), if_pos rfl] at fin
    refine b79_84 hR (r75 (d := d + 7) hR i11) (b79_89 hR (fun h => ?_) (fun h => ?_))
    · rw [if_neg (by rw [bI_0.mp h]; decide)] at fin
      exact b79_101 hR (fun h => absurd h (by decide)) (fun _ => b79_118 hR (fun _ => fin) (fun h => absurd (by decide) h))
    · have hi := bI_n0.mp h
      rw [if_pos hi] at fin
      have hp := iv_put (c := nI 10) hT
      exact b79_92 hR (r77 (d := d + 7) hR i11) (b79_97 hR (r78 (d := d + 8) hR hp.2.2.2.2.1 (by rw [put_26]; exact isl_8 hi)) (b79_101 hR (fun h => absurd h (by decide)) (fun _ => b79_118 hR (fun _ => fin) (fun h => absurd (by decide) h))))
  · subst h4
    rw [keyF, if_neg (by decide), if_neg (by decide), if_neg (by decide), if_neg (by decide), if_neg (by decide), if_pos rfl] at fin
    refine b79_106 hR (r75 (d := d + 7) hR i11) (b79_111 hR (fun h => ?_) (fun h => ?_))
    · rw [if_neg (by rw [bI_0.mp h]; decide)] at fin
      exact b79_118 hR (fun _ => fin) (fun h => absurd (by decide) h)
    · have hi := bI_n0.mp h
      rw [if_pos hi] at fin
      exact b79_114 hR (r78 (d := d + 8) hR i11 (isl_8 hi)) (b79_118 hR (fun _ => fin) (fun h => absurd (by decide) h))
  · rw [keyF, if_neg h3, if_neg h26, if_neg h8, if_neg h21, if_neg h10, if_neg h4, if_neg (fun h => h.1 h32)] at fin
    exact fin
  · rw [keyF, if_neg h3, if_neg h26, if_neg h8, if_neg h21, if_neg h10, if_neg h4, if_neg (fun h => h.2 h126)] at fin
    exact fin
  · rw [keyF, if_neg h3, if_neg h26, if_neg h8, if_neg h21, if_neg h10, if_neg h4, if_pos ⟨h32, h126⟩] at fin
    exact fin
end K1
