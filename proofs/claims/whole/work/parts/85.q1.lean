/-! @84.s2@ the class: keys, making, what the public methods ask first -/
theorem us_27 {G : Nat → Nat → Int32} {r l l' : Nat} (e1 : G 20 26 = nI r) (hr : r ≤ 8) (hl : l' ≤ 24) : usN (pm_v G 20 27 (nI l')) = l' + sumL G r := by
  rw [us_of (r := r) (l := l') (by rw [v_k (by decide)]; exact e1) v_eq hr hl, sumL_c (fun k _ => v_f (by decide))]
section Q1
variable {ns d x : Nat} {R : Nat → Nat → Nat → Option (Nat × Nat)} {Z A : Nat → Nat → Nat → Int32} {Y : Nat → Nat → Nat → Int64} {o : Int64} {c g : Nat → Int64} {G : Nat → Nat → Int32} {H : Nat → Nat → Int32} {h : Nat → Int64}
theorem rl_drop (hr : Rel A c H h) (h11 : I11 H) {l k : Nat} (e27 : H 20 27 = nI l) (hl : l ≤ 24) (hk : k ≤ l) : Rel (pm_u (pm_u A 6 0 1 (A 6 0 1 - nI k)) 3 0 4 (A 3 0 4 - nI k)) c (pm_v H 20 27 (nI (l - k))) h := by
  obtain ⟨r, l', hr8, e26, e27', hsum, hall⟩ := h11
  have : l' = l := nI_inj (e27'.symm.trans e27) (by omega) (by omega)
  subst this
  have eu := us_of e26 e27 hr8 (by omega)
  have eu' := us_27 (l' := l' - k) (l := l') e26 hr8 (by omega)
  have e6 := hr.2.2.1
  refine ⟨?_, rc_fx hr.2.1 (Fx.tr (fx_u (by omega)) (fx_u (by omega))) (fun f k hf => v_f (by omega)), ?_, ?_⟩
  · rw [r_ll hr, e27, pk_sub hk]
    exact rp_u (rp_a hr.1 tr6) tll
  · rw [u_ne (by omega), u_eq, e6, eu, eu', pk_sub (by omega)]
    congr 1
    omega
  · intro j hj
    rw [u_ne (by omega), u_ne (by omega), v_f (by decide)]
    exact hr.2.2.2 j (by omega)
theorem c127 (hR : RS R) (hr : Rel A c H h) (h11 : I11 H) {l k : Nat} (e27 : H 20 27 = nI l) (hl : l ≤ 24) (hk : k ≤ l) : cX ns (d + 1) 127 [pm_r 3 0, pm_i (nI k)] x R Z Y o A c G g (.inl none) (pm_v H 20 27 (nI (l - k))) h := by
  refine cxi rfl (b127_0 hR ⟨_, ?_, rfl⟩)
  rw [u_ne (by omega)]
  exact rl_drop hr h11 e27 hl hk
theorem rl_ld (hr : Rel A c H h) (h11 : I11 H) (h8 : ¬ nI 8 ≤ H 20 26) {r : Nat} (e26 : H 20 26 = nI r) (hr8 : r < 8) : Rel (pm_u (pm_u (pm_u A 14 0 r (A 3 0 4)) 3 0 3 (A 3 0 3 + nI 1)) 3 0 4 (nI 0)) c (ldF H) h := by
  obtain ⟨r', l, hr8', e26', e27, hsum, hall⟩ := h11
  have : r' = r := nI_inj (e26'.symm.trans e26) (by omega) (by omega)
  subst this
  have ef : ldF H = pm_v (pm_v (pm_v H 45 r' (H 20 27)) 20 26 (H 20 26 + nI 1)) 20 27 (nI 0) := by
    unfold ldF
    rw [e26, nI_clamp (by omega)]
  have eu : usN H = l + sumL H r' := us_of e26 e27 (by omega) (by omega)
  have eu' : usN (ldF H) = l + sumL H r' := by
    rw [us_of (r := r' + 1) (l := 0) (by rw [ef, v_k (by decide), v_eq, e26, nI_s]) (by rw [ef, v_eq]) (by omega) (by omega)]
    simp only [sumL]
    rw [sumL_c (G := H) (fun k hk => by rw [ef, v_f (by decide), v_f (by decide), v_k (by omega)]), ef, v_f (by decide), v_f (by decide), v_eq, e27, nI_clamp (by omega)]
    omega
  refine ⟨?_, rc_fx hr.2.1 (Fx.tr (Fx.tr (fx_u (by omega)) (fx_u (by omega))) (fx_u (by omega))) (fun f k hf => by rw [ef, v_f (by omega), v_f (by omega), v_f (by omega)]), ?_, ?_⟩
  · rw [ef, r_ll hr, r_rd hr]
    exact rp_u (rp_u (rp_u hr.1 (trl hr8)) trd) tll
  · rw [u_ne (by omega), u_ne (by omega), u_ne (by omega), hr.2.2.1, eu, eu']
  · intro j hj
    rw [u_ne (by omega), u_ne (by omega), u_ne (by omega), ef, v_f (by decide), v_f (by decide), v_f (by decide)]
    exact hr.2.2.2 j (by omega)
theorem c128 (hR : RS R) (hr : Rel A c H h) (h11 : I11 H) : cX ns (d + 1) 128 [pm_r 3 0] x R Z Y o A c G g (.inl none) (if nI 8 ≤ H 20 26 then H else ldF H) h := by
  have e3 := r_rd hr
  refine cxi rfl (t128_0 hR (fun k => ?_) (fun k => ?_))
  · rw [e3] at k
    rw [if_pos k]
    exact ⟨A, hr, rfl⟩
  · rw [e3] at k
    obtain ⟨r, l, hr8, e26, e27, hsum, hall⟩ := id h11
    have hr8' : r < 8 := by
      have k' := k
      rw [e26, nI_leI (by decide) (by omega)] at k'
      omega
    rw [if_neg k]
    refine b128_9 hR (j1 := r) (by rw [e3, e26]) hr8' ⟨_, ?_, rfl⟩
    rw [u_ne (by omega)]
    exact rl_ld hr h11 k e26 hr8'
theorem c103a (hR : RS R) (hr : Rel A c H h) : pE ns (d + 1) 103 [pm_r 6 0] (mm x R Z Y o A c G g) (.inl (some (pm_i (nI 24 - nI (usN H)))), mm x R Z Y o A c G g) := by
  refine en rfl (b103_0a hR ?_)
  rw [hr.2.2.1]
theorem c126 (hR : RS R) (hr : Rel A c H h) (h11 : I11 H) {v : Int32} : cX ns (d + 2) 126 [pm_r 3 0, pm_i v] x R Z Y o A c G g (.inl none) (putF H v) h := by
  have hu := us_le h11
  have e6 := hr.2.2.1
  have hc : nI 24 - nI (usN H) ≤ 0 ↔ usN H = 24 := by
    rw [pk_sub hu, ← nI_0, nI_leI (by omega) (by decide)]
    omega
  refine cxi rfl (b126_0 hR (c103a hR hr) (t126_7 hR (fun k => ?_) (fun k => ?_)))
  · rw [hc] at k
    unfold putF
    rw [if_pos k]
    exact ⟨A, hr, rfl⟩
  · rw [hc] at k
    have hu24 : usN H < 24 := by omega
    have hE : pE ns (d + 1) 104 [pm_r 6 0, pm_i v] (mm x R Z Y o A c G g) (.inl none, mm x R Z Y o (pm_u (pm_u A 7 0 (usN H) v) 6 0 1 (nI (usN H) + nI 1)) c G g) := by
      refine en rfl (t104_0a hR (fun k' => ?_) (fun _ => b104_12a hR (j1 := usN H) e6 hu24 ?_))
      · rw [e6] at k'
        exact absurd k' (nI_ge hu24 (by decide))
      · rw [u_ne (by omega), e6]
    refine b126_10 hR hE (b126_18 hR ⟨_, ?_, rfl⟩)
    obtain ⟨r, l, hr8, e26, e27, hsum, hall⟩ := h11
    have eu := us_of e26 e27 hr8 (by omega)
    have ef : putF H v = pm_v (pm_v H 44 (usN H) v) 20 27 (nI (l + 1)) := by
      unfold putF
      rw [if_neg k, e27, nI_s]
    have eu' : usN (putF H v) = usN H + 1 := by
      rw [ef, us_27 (r := r) (l := l) (by rw [v_f (by decide)]; exact e26) hr8 (by omega), sumL_c (G := H) (fun k _ => v_f (by decide)), eu]
      omega
    refine ⟨?_, rc_fx hr.2.1 (Fx.tr (Fx.tr (fx_u (by omega)) (fx_u (by omega))) (fx_u (by omega))) (fun f k hf => by rw [ef, v_f (by omega), v_f (by omega)]), ?_, ?_⟩
    · rw [ef, u_ne (by omega), u_ne (by omega), r_ll hr, e27, nI_s l]
      exact rp_u (rp_g (f := 44) (rp_a (rp_a hr.1 tr7) tr6) (by omega)) tll
    · rw [u_ne (by omega), u_eq, eu', nI_s]
    · intro j hj
      rw [eu'] at hj
      rw [u_ne (by omega), u_ne (by omega), ef, v_f (by decide)]
      by_cases e : j = usN H
      · subst e
        rw [u_eq, v_eq]
      · rw [u_ne (by omega), v_k e]
        exact hr.2.2.2 j (by omega)
theorem c129 (hR : RS R) (hr : Rel A c H h) : cX ns (d + 1) 129 [pm_r 3 0] x R Z Y o A c G g (.inl none) (clrF H) h := by
  have eu : usN (clrF H) = 0 := by
    unfold usN clrF
    rw [v_eq, v_k (by decide), v_eq]
    rfl
  refine cxi rfl (b129_0 hR ⟨_, ⟨?_, rc_fx hr.2.1 (Fx.tr (Fx.tr (fx_u (by omega)) (fx_u (by omega))) (fx_u (by omega))) (fun f k hf => by unfold clrF; rw [v_f (by omega), v_f (by omega)]), ?_, ?_⟩, rfl⟩)
  · unfold clrF
    exact rp_u (rp_u (rp_a hr.1 tr6) trd) tll
  · rw [u_ne (by omega), u_ne (by omega), u_eq, eu]
  · intro j hj
    omega
theorem c125 (hR : RS R) (hr : Rel A c H h) (h11 : I11 H) {v : Int32} (h3 : v ≠ nI 3) (h26 : v ≠ nI 26) : cX ns (d + 3) 125 [pm_r 3 0, pm_i v] x R Z Y o A c G g (.inl none) (keyF H v) h := by
  obtain ⟨r, l, hr8, e26, e27, hsum, hall⟩ := id h11
  have e4 := r_ll hr
  have e3 := r_rd hr
  have hu := us_le h11
  have key0 : keyF H v = if v = nI 8 then (if H 20 27 ≤ 0 then H else pm_v H 20 27 (H 20 27 - nI 1)) else if v = nI 21 then pm_v H 20 27 (nI 0) else if v = nI 10 then (if isl H v = true then ldF (putF H v) else H) else if v = nI 4 then (if isl H v = true then ldF H else H) else if ¬ v < nI 32 ∧ ¬ nI 126 < v then putF H v else H := by
    unfold keyF
    rw [if_neg h3, if_neg h26]
  rw [key0]
  refine cxi rfl (t125_0 hR (fun k => ?_) (fun k k1 => ?_) (fun k k1 k2 => ?_) (fun k k1 k2 k3 k4 => ?_) (fun k k1 k2 k3 k4 => ?_) (fun k k1 k2 k3 k4 => ?_) (fun k k1 k2 k3 k4 k5 => ?_) (fun k k1 k2 k3 k4 k5 => ?_))
  · rw [if_pos k]
    have em : (if A 3 0 4 < nI 1 then A 3 0 4 else nI 1) = nI (min 1 l) := by
      rw [e4, e27]
      by_cases hl : l < 1
      · rw [if_pos (nI_lt hl (by decide))]
        congr 1
        omega
      · rw [if_neg (nI_nlt (by omega) (by omega))]
        congr 1
        omega
    obtain ⟨A1, hr1, hE1⟩ := c127 (ns := ns) (d := d + 1) (x := x) (Z := Z) (Y := Y) (o := o) (G := G) (g := g) (k := min 1 l) hR hr h11 e27 (by omega) (by omega)
    rw [← em] at hE1
    refine b125_6 hR hE1 (b125_18 hR ⟨A1, ?_, rfl⟩)
    by_cases hle : H 20 27 ≤ 0
    · rw [if_pos hle]
      rw [e27, ← nI_0, nI_leI (by omega) (by decide)] at hle
      rw [show l - min 1 l = l by omega, v_id e27] at hr1
      exact hr1
    · rw [if_neg hle, e27]
      rw [e27, ← nI_0, nI_leI (by omega) (by decide)] at hle
      rw [pk_sub (by omega), show l - 1 = l - min 1 l by omega]
      exact hr1
  · rw [if_neg k, if_pos k1]
    obtain ⟨A1, hr1, hE1⟩ := c127 (ns := ns) (d := d + 1) (x := x) (Z := Z) (Y := Y) (o := o) (G := G) (g := g) (k := l) hR hr h11 e27 (by omega) (by omega)
    rw [← e27, ← e4] at hE1
    refine b125_27 hR hE1 (b125_35 hR ⟨A1, ?_, rfl⟩)
    rw [Nat.sub_self] at hr1
    exact hr1
  · rw [if_neg k, if_neg k1, if_neg (by rw [k2]; decide), if_pos k2]
    obtain ⟨A1, hr1, hE1⟩ := c128 (ns := ns) (d := d + 1) (x := x) (Z := Z) (Y := Y) (o := o) (G := G) (g := g) hR hr h11
    refine b125_43 hR hE1 (b125_47 hR ⟨A1, ?_, rfl⟩)
    have : isl H v = !decide (nI 8 ≤ H 20 26) := by
      simp [isl, k2, show ¬ nI 4 = nI 10 by decide]
    rw [this]
    by_cases h8 : nI 8 ≤ H 20 26
    · rw [if_pos h8] at hr1
      rw [if_neg (by simp [h8])]
      exact hr1
    · rw [if_neg h8] at hr1
      rw [if_pos (by simp [h8])]
      exact hr1
  · rw [e3] at k4
    rw [if_neg k, if_neg k1, if_pos k3, if_neg (by simp [isl, k4])]
    exact ⟨A, hr, rfl⟩
  · rw [e3] at k4
    rw [if_neg k, if_neg k1, if_pos k3]
    refine b125_65 hR (c103a (d := d + 1) hR hr) (t125_72 hR (fun k5 => ?_) (fun k5 => ?_))
    · rw [pk_sub hu, ← nI_0, nI_leI (by omega) (by decide)] at k5
      rw [if_neg (by simp [isl, k3]; omega)]
      exact ⟨A, hr, rfl⟩
    · rw [pk_sub hu, ← nI_0, nI_leI (by omega) (by decide)] at k5
      rw [if_pos (by simp [isl, k4]; right; omega)]
      obtain ⟨A1, hr1, hE1⟩ := c126 (ns := ns) (d := d) (x := x) (Z := Z) (Y := Y) (o := o) (G := G) (g := g) (v := v) hR hr h11
      have h11' : I11 (putF H v) := by
        have ef : putF H v = pm_v (pm_v H 44 (usN H) v) 20 27 (nI (l + 1)) := by
          unfold putF
          rw [if_neg (by omega), e27, nI_s]
        have eu := us_of e26 e27 hr8 (by omega)
        refine ⟨r, l + 1, hr8, by rw [put_26]; exact e26, by rw [ef, v_eq], ?_, fun k hk => by rw [ef, v_f (by decide), v_f (by decide)]; exact hall k hk⟩
        rw [sumL_c (G := H) (fun k _ => by rw [ef, v_f (by decide), v_f (by decide)])]
        omega
      obtain ⟨A2, hr2, hE2⟩ := c128 (ns := ns) (d := d + 1) (x := x) (Z := Z) (Y := Y) (o := o) (G := G) (g := g) hR hr1 h11'
      rw [put_26, if_neg k4] at hr2
      exact b125_75 hR hE1 (b125_80 hR hE2 (b125_84 hR ⟨A2, hr2, rfl⟩))
  · rw [if_neg k, if_neg k1, if_neg k3, if_neg k2, if_neg (fun e => e.1 k4)]
    exact ⟨A, hr, rfl⟩
  · rw [if_neg k, if_neg k1, if_neg k3, if_neg k2, if_neg (fun e => e.2 k5)]
    exact ⟨A, hr, rfl⟩
  · rw [if_neg k, if_neg k1, if_neg k3, if_neg k2, if_pos ⟨k4, k5⟩]
    obtain ⟨A1, hr1, hE1⟩ := c126 (ns := ns) (d := d) (x := x) (Z := Z) (Y := Y) (o := o) (G := G) (g := g) (v := v) hR hr h11
    exact b125_99 hR hE1 (b125_104 hR ⟨A1, hr1, rfl⟩)
theorem c1 (hR : RS R) (hr : Rel A c H h) {t : Nat} {v : Int32} (hI : Iv 8 t H) (ht : t + 900 < 2 ^ 30) (hst : St H) : cX ns (d + 8) 1 [pm_r 0 0, pm_i v] x R Z Y o A c G g (.inl none) (settleF (keyF H v) h) h := by
  have hK := iv_key (c := v) hI
  have hsK : St (keyF H v) := sz_key hst
  by_cases h3 : v = nI 3
  · subst h3
    have e : keyF H (nI 3) = cpF (clrF H) (H 20 25) 1 := by simp only [keyF, if_true]
    rw [e] at hK hsK ⊢
    obtain ⟨A1, hr1, hE1⟩ := c129 (ns := ns) (d := d + 6) (x := x) (Z := Z) (Y := Y) (o := o) (G := G) (g := g) hR hr
    obtain ⟨A2, hr2, hE2⟩ := c32 (ns := ns) (d := d + 2) (x := x) (Z := Z) (Y := Y) (o := o) (G := G) (g := g) (q := H 20 25) (s := 1) hR hr1 (by decide) (by decide) (iv_clr hI) (by omega)
    obtain ⟨A3, hr3, hE3⟩ := c37 (ns := ns) (d := d) (x := x) (Z := Z) (Y := Y) (o := o) (G := G) (g := g) hR hr2 hK (by omega) hsK
    have e5 : A1 3 0 5 = H 20 25 := by
      rw [r_fg hr1]
      unfold clrF
      rw [v_k (by decide), v_k (by decide)]
    refine cxi rfl (t1_0 hR (fun _ => b1_11 hR hE1 (t1_18 hR (fun _ => ?_) (fun k => absurd rfl k))) (fun k => absurd rfl k) (fun k => absurd rfl k))
    rw [e5]
    exact b1_31 hR hE2 (b1_39 hR hE3 (b1_55 hR ⟨A3, hr3, rfl⟩))
  by_cases h26 : v = nI 26
  · subst h26
    have e : keyF H (nI 26) = cpF (clrF H) (H 20 25) 4 := by rw [keyF, if_neg (by decide), if_pos rfl]
    rw [e] at hK hsK ⊢
    obtain ⟨A1, hr1, hE1⟩ := c129 (ns := ns) (d := d + 6) (x := x) (Z := Z) (Y := Y) (o := o) (G := G) (g := g) hR hr
    obtain ⟨A2, hr2, hE2⟩ := c32 (ns := ns) (d := d + 2) (x := x) (Z := Z) (Y := Y) (o := o) (G := G) (g := g) (q := H 20 25) (s := 4) hR hr1 (by decide) (by decide) (iv_clr hI) (by omega)
    obtain ⟨A3, hr3, hE3⟩ := c37 (ns := ns) (d := d) (x := x) (Z := Z) (Y := Y) (o := o) (G := G) (g := g) hR hr2 hK (by omega) hsK
    have e5 : A1 3 0 5 = H 20 25 := by
      rw [r_fg hr1]
      unfold clrF
      rw [v_k (by decide), v_k (by decide)]
    refine cxi rfl (t1_0 hR (fun k => absurd k (by decide)) (fun _ _ => b1_11 hR hE1 (t1_18 hR (fun k => absurd k (by decide)) (fun _ => ?_))) (fun _ k => absurd rfl k))
    rw [e5]
    exact b1_35 hR hE2 (b1_39 hR hE3 (b1_55 hR ⟨A3, hr3, rfl⟩))
  obtain ⟨A1, hr1, hE1⟩ := c125 (ns := ns) (d := d + 4) (x := x) (Z := Z) (Y := Y) (o := o) (G := G) (g := g) hR hr hI.2.2.2.2.1 h3 h26
  obtain ⟨A2, hr2, hE2⟩ := c37 (ns := ns) (d := d) (x := x) (Z := Z) (Y := Y) (o := o) (G := G) (g := g) hR hr1 hK (by omega) hsK
  exact cxi rfl (t1_0 hR (fun k => absurd k h3) (fun _ k => absurd k h26) (fun _ _ => b1_43 hR hE1 (b1_51 hR hE2 (b1_55 hR ⟨A2, hr2, rfl⟩))))
theorem c24 (hR : RS R) (hr : Rel A c H h) {p : Int32} : pE ns (d + 1) 24 [pm_r 0 0, pm_i p] (mm x R Z Y o A c G g) (.inl (some (pm_i (bI (tsk H p)))), mm x R Z Y o A c G g) := by
  refine en rfl (t24_0 hR (fun k => ?_) (fun k k' => ?_) (fun k k' => ?_))
  · simp [tsk, k, bI_f]
  · simp [tsk, k', bI_f]
  · rcases pk_ix p (n := 8) (by decide) with h' | h' | ⟨j, hj, e⟩
    · exact absurd h' k
    · exact absurd h' k'
    · have ec : p.toNatClampNeg = j := by rw [e, nI_clamp (by omega)]
      refine b24_10 hR e hj (fun q => b24_26 hR ?_) (fun q => b24_22 hR ?_)
      · rw [r_6 hr hj] at q
        simp [tsk, ec, q, bI_f]
      · rw [r_6 hr hj] at q
        simp [tsk, k, k', ec, q, bI_t]
theorem c23 (hR : RS R) (hr : Rel A c H h) {p : Nat} (hp : p < 8) (h1 : H 21 p = nI 1) : pE ns (d + 2) 23 [pm_r 0 0, pm_i (nI p)] (mm x R Z Y o A c G g) (.inl (some (pm_r 8 p)), mm x R Z Y o A c G g) := by
  have h24 := c24 (ns := ns) (d := d) (x := x) (Z := Z) (Y := Y) (o := o) (G := G) (g := g) (p := nI p) hR hr
  have et : tsk H (nI p) = true := by
    simp only [tsk, Bool.and_eq_true, Bool.not_eq_true', decide_eq_false_iff_not]
    exact ⟨nI_pos (by omega), nI_ge hp (by decide), by rw [nI_clamp (by omega), h1]; decide⟩
  rw [et, bI_t] at h24
  refine en rfl (b23_0 hR h24 (t23_5 hR (fun k => absurd k (by decide)) (fun _ => b23_8 hR rfl hp (fun _ => b23_29 hR rfl hp rfl) (fun k => absurd (by rw [r_6 hr hp]; exact h1) k))))
theorem c23x (hR : RS R) (hr : Rel A c H h) {p : Int32} (hx : x < 600) (h1 : rdy H p = false) : pE ns (d + 7) 23 [pm_r 0 0, pm_i p] (mm x R Z Y o A c G g) (.inr 0, mm (x + 1) R Z Y o A c G g) := by
  refine en rfl (b23_0 hR (c24 (d := d + 5) hR hr) (t23_5 hR (fun _ => b23_21 hR (by omega) hx rfl) (fun k => ?_)))
  obtain ⟨j, hj, e, -⟩ := tsk_t (bI_n0.mp k)
  subst e
  refine b23_8 hR rfl hj (fun k' => ?_) (fun _ => b23_21 hR (by omega) hx rfl)
  rw [r_6 hr hj] at k'
  rw [rdy_n hj k'] at h1
  cases h1
theorem c22 (hR : RS R) {n : Int32} (hn : badN n = false) : pE ns (d + 1) 22 [pm_i n] (mm x R Z Y o A c G g) (.inl none, mm x R Z Y o A c G g) := by
  simp only [badN, Bool.or_eq_false_iff, Bool.not_eq_false', decide_eq_false_iff_not, decide_eq_true_eq] at hn
  exact en rfl (t22_0 hR (fun k => absurd k hn.1) (fun _ _ => rfl) (fun _ k => absurd hn.2 k))
theorem c22x (hR : RS R) {n : Int32} (hx : x < 600) (hn : badN n = true) : pE ns (d + 7) 22 [pm_i n] (mm x R Z Y o A c G g) (.inr 1, mm (x + 1) R Z Y o A c G g) := by
  refine en rfl (t22_0 hR (fun _ => b22_11 hR (by omega) hx rfl) (fun k k' => ?_) (fun _ _ => b22_11 hR (by omega) hx rfl))
  simp [badN, k, k'] at hn
theorem c21 (hR : RS R) {v : Nat} (hv : v < 14) : pE ns (d + 1) 21 [pm_i (nI v)] (mm x R Z Y o A c G g) (.inl (some (pm_i (knd (nI v)))), mm x R Z Y o A c G g) := by
  refine en rfl (t21_0 hR (fun k => ?_) (fun k k' => ?_) (fun k k' => ?_))
  · have : v = 0 := nI_inj (k.trans nI_0.symm) (by omega) (by decide)
    subst this
    rfl
  · rw [k']
    rfl
  · have h0 : v ≠ 0 := fun e => k (by rw [e]; exact nI_0)
    have h1 : v ≠ 1 := fun e => k' (by rw [e])
    unfold knd
    rw [if_pos (nI_le (by omega) (by omega))]
end Q1
