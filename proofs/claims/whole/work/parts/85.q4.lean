/-! @85.q3@ the class: questions -/
section Q4
variable {ns d x : Nat} {R : Nat → Nat → Nat → Option (Nat × Nat)} {Z A : Nat → Nat → Nat → Int32} {Y : Nat → Nat → Nat → Int64} {o : Int64} {c g : Nat → Int64} {G : Nat → Nat → Int32} {H : Nat → Nat → Int32} {h : Nat → Int64}
theorem c16 (hR : RS R) (hr : Rel A c H h) {t : Nat} {p w : Int32} (hI : Iv 8 t H) : pE ns (d + 2) 16 [pm_r 0 0, pm_i p, pm_i w] (mm x R Z Y o A c G g) (.inl (some (pm_i (if tsk H p = true then prV H p.toNatClampNeg w else -nI 1))), mm x R Z Y o A c G g) := by
  refine en rfl (b16_0 hR (c24 hR hr) (t16_5 hR (fun q => ?_) (fun q => ?_)))
  · rw [if_neg (by rw [bI_0.mp q]; decide)]
  · have et := bI_n0.mp q
    obtain ⟨k, hk, e, hz⟩ := tsk_t et
    have hz' : H 21 k ≠ nI 0 := by rw [nI_0]; exact hz
    have ec : p.toNatClampNeg = k := by rw [e, nI_clamp (by omega)]
    rw [if_pos et, ec]
    have hgo : ∀ u0 u1, pW ns (d + 1) 16 64 [u0, u1, some (pm_i w), some (pm_r 8 k)] [] (mm x R Z Y o A c G g) (fun r' => r' = (.inl (some (pm_i (if w.toInt = 0 then H 21 k else if w.toInt = 1 then H 22 k else if w.toInt = 2 then H 23 k else if w.toInt = 3 then H 24 k else if w.toInt = 4 then H 25 k else if w.toInt = 5 then H 26 k else if w.toInt = 6 then H 27 k else if w.toInt = 7 then H 28 k else if w.toInt = 8 then (if H 21 k = nI 4 then H 29 k else -nI 1) else -nI 1))), mm x R Z Y o A c G g)) := by
      intro u0 u1
      refine b16_64 hR hk (fun h => b16_116 hR hk ?_) (fun h => b16_121 hR hk ?_) (fun h => b16_126 hR hk ?_) (fun h => b16_131 hR hk ?_) (fun h => b16_136 hR hk ?_) (fun h => b16_141 hR hk ?_) (fun h => b16_146 hR hk ?_) (fun h => b16_151 hR hk ?_) (fun h => b16_156 hR hk (fun h4 => b16_164 hR hk ?_) (fun h4 => b16_171 hR ?_)) (fun h0 h1 h2 h3 h4 h5 h6 h7 h8 => b16_173 hR ?_)
      · rw [r_6 hr hk]
        simp only [h, if_true]
      · rw [r_7 hr hk hz']
        simp [h]
      · rw [r_8 hr hk]
        simp [h]
      · rw [r_9 hr hk]
        simp [h]
      · rw [r_10 hr hk]
        simp [h]
      · rw [r_11 hr hk]
        simp [h]
      · rw [r_12 hr hk]
        simp [h]
      · rw [r_13 hr hk]
        simp [h]
      · rw [r_6 hr hk] at h4
        rw [(hr.2.1 k hk).2.2.1 h4, if_pos h4]
        simp [h]
      · rw [r_6 hr hk] at h4
        rw [if_neg h4]
        simp [h]
      · simp only [h0, h1, h2, h3, h4, h5, h6, h7, h8, if_false]
    have h42 : ¬ (¬ w < nI 10 ∧ ¬ nI 16 ≤ w) → ∀ u0 u1, pW ns (d + 1) 16 42 [u0, u1, some (pm_i w), some (pm_r 8 k)] [] (mm x R Z Y o A c G g) (fun r' => r' = (.inl (some (pm_i (prV H k w))), mm x R Z Y o A c G g)) := by
      intro hn u0 u1
      have e20 : w < nI 21 ↔ w ≤ nI 20 := by
        rw [Int32.lt_iff_toInt_lt, Int32.le_iff_toInt_le, show (nI 21).toInt = 21 by decide, show (nI 20).toInt = 20 by decide]
        omega
      have e28 : nI 27 < w ↔ nI 28 ≤ w := by
        rw [Int32.lt_iff_toInt_lt, Int32.le_iff_toInt_le, show (nI 27).toInt = 27 by decide, show (nI 28).toInt = 28 by decide]
        omega
      refine b16_42 hR hk (fun h21 => ?_) (fun h21 => b16_48 hR hk (fun h27 => ?_) (fun h27 => ?_))
      · unfold prV
        rw [if_neg hn, if_neg (fun e => e.1 (e20.mp h21))]
        exact hgo _ _
      · unfold prV
        rw [if_neg hn, if_neg (fun e => e.2 (e28.mp h27))]
        exact hgo _ _
      · rw [e20] at h21
        rw [e28] at h27
        have h20' : ¬ w < 0 := fun h' => h21 (Int32.le_of_lt (Int32.lt_trans h' (by decide)))
        obtain ⟨m, hm, em⟩ := nI_of h20'
        have h21m := h21
        have h27m := h27
        rw [em, nI_leI (by omega) (by decide)] at h21m
        rw [em, nI_leI (by decide) (by omega)] at h27m
        refine b16_54 hR hk (j1 := m - 20) (by rw [em, pk_sub (by omega)]) (by omega) ?_
        rw [r_a hr hk (by omega) (by omega)]
        unfold prV
        rw [if_neg hn, if_pos ⟨h21, h27⟩, em, pk_sub (by omega), nI_clamp (by omega)]
    refine b16_10 hR e hk (fun h10 => h42 (fun e => e.1 h10) _ _) (fun h10 => b16_23 hR hk (fun h16 => h42 (fun e => e.2 h16) _ _) (fun h16 => ?_))
    have h10' : ¬ w < 0 := fun h' => h10 (Int32.lt_trans h' (by decide))
    obtain ⟨m, hm, em⟩ := nI_of h10'
    have h10m := h10
    have h16m := h16
    rw [em, nI_ltI (by omega) (by decide)] at h10m
    rw [em, nI_leI (by decide) (by omega)] at h16m
    obtain ⟨v, hv, ev⟩ := hI.2.2.1 (6 * k + (m - 10)) (by omega)
    have h21 := c21 (ns := ns) (d := d) (x := x) (Z := Z) (Y := Y) (o := o) (A := A) (c := c) (G := G) (g := g) hR hv
    rw [← ev, ← r_f hr hk (k := m - 10) (by omega)] at h21
    refine b16_29 hR hk (j1 := m - 10) (by rw [em, pk_sub (by omega)]) (by omega) h21 (b16_41 hR ?_)
    unfold prV
    rw [if_pos ⟨h10, h16⟩, em, pk_sub (by omega), nI_clamp (by omega), r_f hr hk (by omega)]
theorem c17 (hR : RS R) (hr : Rel A c H h) {p w : Int32} (hk : Tk H) : pE ns (d + 2) 17 [pm_r 0 0, pm_i p, pm_i w] (mm x R Z Y o A c G g) (.inl (some (pm_i (tkV H p w))), mm x R Z Y o A c G g) := by
  refine en rfl (b17_0 hR (c24 hR hr) (t17_5 hR (fun q => ?_) (fun q q2 => ?_) (fun q q2 => ?_)))
  · simp [tkV, bI_0.mp q]
  · unfold tkV
    rw [if_neg (fun e => e.2.1 q2)]
  · have et := bI_n0.mp q
    obtain ⟨k, hk8, e, hz⟩ := tsk_t et
    have ec : p.toNatClampNeg = k := by rw [e, nI_clamp (by omega)]
    refine b17_12 hR e hk8 (fun q3 => ?_) (fun q3 => b17_25 hR ?_)
    · rw [r_12 hr hk8] at q3
      obtain ⟨m, hm, em⟩ := hk k hk8
      obtain ⟨j, hj, ej⟩ := nI_of q2
      have hjm : j < m := by
        rw [em, ej, nI_ltI (by omega) (by omega)] at q3
        exact q3
      refine b17_27 hR e hk8 (j2 := j) ej (by omega) ?_
      rw [r_t hr hk8 (by omega)]
      unfold tkV
      rw [if_pos ⟨et, q2, by rw [ec]; rw [em, ej, nI_ltI (by omega) (by omega)]; exact hjm⟩, ec, ej, nI_clamp (by omega)]
    · rw [r_12 hr hk8] at q3
      unfold tkV
      rw [if_neg (fun e => q3 (by rw [← ec]; exact e.2.2))]
theorem c20h (hR : RS R) (hr : Rel A c H h) {k n : Nat} {w : Int32} (hk : k < 8) (hn : n < 2 ^ 30) : pE ns (d + 1) 20 [pm_r 12 k, pm_i (nI n), pm_i w] (mm x R Z Y o A c G g) (.inl (some (pm_i (if ¬ w < 0 ∧ ¬ nI 16 ≤ w ∧ ¬ nI n ≤ w then H 40 (16 * k + (n - 1 - w.toNatClampNeg) % 16) else -nI 1))), mm x R Z Y o A c G g) := by
  refine en rfl (t20_0 hR hk (fun q => ?_) (fun q q2 => ?_) (fun q q2 q3 => ?_) (fun q q2 q3 => ?_))
  · rw [if_neg (fun e => e.1 q)]
  · rw [if_neg (fun e => e.2.1 q2)]
  · obtain ⟨j, hj, ej⟩ := nI_of q
    have hjm : j < n := by
      rw [ej, nI_ltI (by omega) (by omega)] at q3
      exact q3
    refine b20_17 hR hk (j1 := (n - 1 - j) % 16) (by rw [ej, pk_sub (by omega), pk_sub (by omega), pk_rem (by omega) (by decide) (by decide)]) (by omega) ?_
    rw [r_h hr hk (by omega), if_pos ⟨q, q2, by rw [Int32.not_le]; exact q3⟩, ej, nI_clamp (by omega)]
  · rw [if_neg (fun e => q3 (by rw [← Int32.not_le]; exact e.2.2))]
theorem c18 (hR : RS R) (hr : Rel A c H h) {t : Nat} {p w : Int32} (hI : Iv 8 t H) (ht : t < 2 ^ 30) : pE ns (d + 2) 18 [pm_r 0 0, pm_i p, pm_i w] (mm x R Z Y o A c G g) (.inl (some (pm_i (hdV H p w))), mm x R Z Y o A c G g) := by
  refine en rfl (b18_0 hR (c24 hR hr) (t18_5 hR (fun q => ?_) (fun q => ?_)))
  · simp [hdV, bI_0.mp q]
  · have et := bI_n0.mp q
    obtain ⟨k, hk8, e, hz⟩ := tsk_t et
    have ec : p.toNatClampNeg = k := by rw [e, nI_clamp (by omega)]
    obtain ⟨m, hm, em⟩ := hI.1.2.2.2.2.2.2.2 k hk8
    have h20 := c20h (ns := ns) (d := d) (x := x) (Z := Z) (Y := Y) (o := o) (G := G) (g := g) (w := w) (n := m) hR hr hk8 (by omega)
    have e13 : A 8 k 13 = nI m := by rw [r_13 hr hk8, em]
    rw [← e13] at h20
    refine b18_10 hR e hk8 h20 (b18_32 hR ?_)
    unfold hdV
    rw [ec, em, e13, nI_clamp (by omega)]
    by_cases hc : ¬ w < 0 ∧ ¬ nI 16 ≤ w ∧ ¬ nI m ≤ w
    · rw [if_pos hc, if_pos ⟨et, hc⟩]
    · rw [if_neg hc, if_neg (fun e => hc e.2)]
theorem c19 (hR : RS R) (hr : Rel A c H h) {t : Nat} {w : Int32} (hI : Iv 8 t H) (ht : t < 2 ^ 30) : pE ns (d + 4) 19 [pm_r 0 0, pm_i w] (mm x R Z Y o A c G g) (.inl (some (pm_i (tmV H w))), mm x R Z Y o A c G g) := by
  refine en rfl (b19_0 hR (fun q => b19_71 hR (c31 hR hr) (b19_75 hR ?_)) (fun q => b19_63 hR ?_) (fun q => b19_55 hR ?_) (fun q => b19_44 hR ?_) (fun q => b19_36 hR ?_) (fun h1 h2 h3 h4 h5 => ?_))
  · simp [tmV, q]
  · rw [r_wr hr]
    simp [tmV, q]
  · rw [r_rd hr]
    simp [tmV, q]
  · rw [hr.2.2.1]
    simp [tmV, q]
  · rw [r_fg hr]
    simp [tmV, q]
  · have e : tmV H w = if ¬ w < 0 ∧ ¬ nI 63 < w ∧ w < H 20 28 then H 46 (((H 20 28).toNatClampNeg - 1 - w.toNatClampNeg) % 64) else -nI 1 := by
      unfold tmV
      rw [if_neg h1, if_neg h2, if_neg h3, if_neg h4, if_neg h5]
    have e63 : nI 64 ≤ w ↔ nI 63 < w := by
      rw [Int32.lt_iff_toInt_lt, Int32.le_iff_toInt_le, show (nI 63).toInt = 63 by decide, show (nI 64).toInt = 64 by decide]
      omega
    obtain ⟨m, hm, em⟩ := wr_b hI
    have e6 : A 3 0 6 = nI m := by rw [r_wr hr, em]
    have h20 : pE ns (d + 2 + 1) 20 [pm_r 15 0, pm_i (A 3 0 6), pm_i w] (mm x R Z Y o A c G g) (.inl (some (pm_i (tmV H w))), mm x R Z Y o A c G g) := by
      rw [e6, e]
      refine en rfl (t20_0a hR (fun q => ?_) (fun q q2 => ?_) (fun q q2 q3 => ?_) (fun q q2 q3 => ?_))
      · rw [if_neg (fun e => e.1 q)]
      · rw [if_neg (fun e => e.2.1 (e63.mp q2))]
      · obtain ⟨j, hj, ej⟩ := nI_of q
        have hjm : j < m := by
          have q3' := q3
          rw [ej, nI_ltI (by omega) (by omega)] at q3'
          exact q3'
        refine b20_17a hR (j1 := (m - 1 - j) % 64) (by rw [ej, pk_sub (by omega), pk_sub (by omega), pk_rem (by omega) (by decide) (by decide)]) (by omega) ?_
        rw [r_sc hr (by omega), if_pos ⟨q, fun e => q2 (e63.mpr e), by rw [em]; exact q3⟩, em, ej, nI_clamp (by omega), nI_clamp (by omega)]
      · rw [if_neg (fun e => q3 (by rw [← em]; exact e.2.2))]
    exact b19_76 hR h20 (b19_94 hR rfl)
end Q4
