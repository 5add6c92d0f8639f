/-! @83.a1@ the class: reading -/
theorem us_tl {p n : Nat} {G : Nat → Nat → Int32} (h11 : I11 G) (e36 : G 36 p = nI n) (hn : n ≤ 8) (hr1 : ¬ G 20 26 ≤ 0) : usN (tlF G p) + tlN G p = usN G := by
  obtain ⟨r, l, hr8, e26, e27, hsum, hall⟩ := h11
  obtain ⟨m, hm, e45⟩ := hall 0 (by decide)
  have hr : 1 ≤ r := by
    by_cases h0 : r = 0
    · rw [e26, h0] at hr1
      exact absurd (by decide) hr1
    · omega
  have hN : tlN G p = min n m := by
    unfold tlN
    rw [e36, e45, mnI_of (by omega) (by omega), nI_clamp (by omega)]
  have hm0 : (G 45 0).toNatClampNeg = m := by rw [e45, nI_clamp (by omega)]
  have esub : G 45 0 - nI (tlN G p) = nI (m - tlN G p) := by rw [e45, pk_sub (by omega)]
  have t1 : ∀ f k, f ≠ 41 → f ≠ 44 → f ≠ 45 → f ≠ 27 → tl1 G p f k = G f k := by
    intro f k h1 h2 h3 h4
    unfold tl1
    rw [v_f h4, v_f h3, mv_f h2, mv_f h1]
  have t45 : ∀ k, tl1 G p 45 k = if k = 0 then nI (m - tlN G p) else G 45 k := by
    intro k
    unfold tl1
    rw [v_f (by decide), esub]
    by_cases hk : k = 0
    · subst hk
      rw [v_eq, if_pos rfl]
    · rw [v_k hk, if_neg hk, mv_f (by decide), mv_f (by decide)]
  obtain ⟨h1, h2⟩ := sumL_v (G := G) (k := 0) (v := nI (m - tlN G p)) (n := r)
  have h2' := h2 (by omega)
  have hs1 : sumL (tl1 G p) r = sumL G r - tlN G p := by
    have e : ∀ k, tl1 G p 45 k = pm_v G 45 0 (nI (m - tlN G p)) 45 k := fun k => by
      rw [t45]
      by_cases hk : k = 0
      · subst hk; rw [v_eq, if_pos rfl]
      · rw [v_k hk, if_neg hk]
    rw [sumL_congr e, h1, if_pos (by omega), hm0, nI_clamp (by omega)]
    omega
  rw [us_of e26 e27 hr8 (by omega)]
  by_cases hd : G 45 0 - nI (tlN G p) ≤ 0
  · have e1 : tlF G p = mv 45 0 45 1 (pm_v (tl1 G p) 20 26 (G 20 26 - nI 1)) 0 ((G 20 26).toNatClampNeg - 1) := by unfold tlF; rw [if_pos hd]
    have er : (G 20 26).toNatClampNeg = r := by rw [e26, nI_clamp (by omega)]
    have s45 : ∀ k, tlF G p 45 k = if k < r - 1 then tl1 G p 45 (k + 1) else tl1 G p 45 k := by
      intro k
      rw [e1, er, mv_at (Or.inr (by decide))]
      by_cases hk : k < r - 1
      · rw [if_pos (by omega), if_pos hk, v_f (by decide)]
        congr 1
        omega
      · rw [if_neg (by omega), if_neg hk, v_f (by decide)]
    have f26 : tlF G p 20 26 = nI (r - 1) := by rw [e1, mv_f (by decide), v_eq, e26, pk_sub hr]
    have f27 : tlF G p 20 27 = nI l := by rw [e1, mv_f (by decide), v_k (by decide), t1 _ _ (by decide) (by decide) (by decide) (by decide), e27]
    have hsh := sumL_sh (G := tl1 G p) (G' := tlF G p) (n := r - 1) (fun k hk => by rw [s45, if_pos hk])
    have hmN : m = tlN G p := by
      rw [esub, ← nI_0, nI_leI (by omega) (by decide)] at hd
      omega
    rw [show r - 1 + 1 = r from by omega, hs1, t45, if_pos rfl, nI_clamp (by omega)] at hsh
    rw [us_of f26 f27 (by omega) (by omega)]
    omega
  · have e1 : tlF G p = tl1 G p := by unfold tlF; rw [if_neg hd]
    have f26 : tlF G p 20 26 = nI r := by rw [e1, t1 _ _ (by decide) (by decide) (by decide) (by decide), e26]
    have f27 : tlF G p 20 27 = nI l := by rw [e1, t1 _ _ (by decide) (by decide) (by decide) (by decide), e27]
    rw [us_of f26 f27 (by omega) (by omega), e1, hs1]
    omega
theorem mv_v {f a f2 b f3 k3 : Nat} {v : Int32} (h1 : f3 ≠ f) (h2 : f3 ≠ f2) : ∀ {n k : Nat} {G : Nat → Nat → Int32}, mv f a f2 b (pm_v G f3 k3 v) k n = pm_v (mv f a f2 b G k n) f3 k3 v
  | 0, k, G => rfl
  | n + 1, k, G => by
    simp only [mv]
    rw [v_f (fun e => h2 e.symm), v_swap h1, mv_v h1 h2]
def Fx (A A' : Nat → Nat → Nat → Int32) : Prop := ∀ i, A' 8 i 0 = A 8 i 0 ∧ A' 8 i 7 = A 8 i 7 ∧ A' 8 i 14 = A 8 i 14 ∧ A' 8 i 15 = A 8 i 15 ∧ A' 13 i 5 = A 13 i 5
theorem Fx.rf {A : Nat → Nat → Nat → Int32} : Fx A A := fun _ => ⟨rfl, rfl, rfl, rfl, rfl⟩
theorem Fx.tr {A A' A'' : Nat → Nat → Nat → Int32} (h : Fx A A') (h' : Fx A' A'') : Fx A A'' := fun i => ⟨(h' i).1.trans (h i).1, (h' i).2.1.trans (h i).2.1, (h' i).2.2.1.trans (h i).2.2.1, (h' i).2.2.2.1.trans (h i).2.2.2.1, (h' i).2.2.2.2.trans (h i).2.2.2.2⟩
theorem fx_u {A : Nat → Nat → Nat → Int32} {f i k : Nat} {v : Int32} (h : f ≠ 8 ∧ f ≠ 13 ∨ f = 8 ∧ k = 12) : Fx A (pm_u A f i k v) := fun j => ⟨u_ne (by omega), u_ne (by omega), u_ne (by omega), u_ne (by omega), u_ne (by omega)⟩
theorem rc_fx {A A' : Nat → Nat → Nat → Int32} {c h : Nat → Int64} {H H' : Nat → Nat → Int32} (hr : Rc A c H h) (hx : Fx A A') (hh : ∀ f k, (f = 21 ∨ f = 22 ∨ f = 29 ∨ f = 31 ∨ f = 34 ∨ f = 39) → H' f k = H f k) : Rc A' c H' h := by
  intro i hi
  obtain ⟨a1, a2, a3, a4, a5⟩ := hx i
  rw [a1, a2, a3, a4, a5, hh 21 i (by omega), hh 22 i (by omega), hh 29 i (by omega), hh 31 i (by omega), hh 34 i (by omega), hh 39 i (by omega)]
  exact hr i hi
theorem rp_mv44 {A : Nat → Nat → Nat → Int32} {a f2 b : Nat} : ∀ {n k : Nat} {H : Nat → Nat → Int32}, RP A H → RP A (mv 44 a f2 b H k n)
  | 0, k, H, hr => hr
  | n + 1, k, H, hr => by
    simp only [mv]
    exact rp_mv44 (rp_g (f := 44) hr (by omega))
section A2S
variable {ns d x : Nat} {R : Nat → Nat → Nat → Option (Nat × Nat)} {Z A : Nat → Nat → Nat → Int32} {Y : Nat → Nat → Nat → Int64} {o : Int64} {c g : Nat → Int64} {G : Nat → Nat → Int32} {H : Nat → Nat → Int32} {h : Nat → Int64}
/-- the terminal's characters: the first q of S are moved to p -/
theorem c105a (hR : RS R) {p n S q : Nat} (hp : p < 8) (hS : A 6 0 1 = nI S) (hS2 : S ≤ 24) (hn : n ≤ 8) (hq : min n S = q) (hr : RP A H) (h7 : ∀ k, k < S → A 7 0 k = H 44 k) : ∃ A', (RP A' (mv 41 (8 * p) 44 0 H 0 q) ∧ Fx A A' ∧ A' 6 0 1 = nI (S - q) ∧ (∀ k, k + q < S → A' 7 0 k = H 44 (k + q))) ∧ pE ns (d + 1) 105 [pm_r 6 0, pm_i (nI n), pm_r 11 p] (mm x R Z Y o A c G g) (.inl (some (pm_i (nI q))), mm x R Z Y o A' c G g) := by
  have hq8 : q ≤ 8 := by omega
  have hqS : q ≤ S := by omega
  have hw : pW ns d 105 0 (pm_ent [pm_r 6 0, pm_i (nI n), pm_r 11 p] ++ List.replicate (pm_maxL 105 - (pm_ent [pm_r 6 0, pm_i (nI n), pm_r 11 p]).length) none) [] (mm x R Z Y o A c G g) (fun r => ∃ A', (RP A' (mv 41 (8 * p) 44 0 H 0 q) ∧ Fx A A' ∧ A' 6 0 1 = nI (S - q) ∧ (∀ k, k + q < S → A' 7 0 k = H 44 (k + q))) ∧ r = (.inl (some (pm_i (nI q))), mm x R Z Y o A' c G g)) := by
    refine b105_0a hR hp ?_
    rw [hS, mn3 hn hS2, hq]
    have l2 : ∀ n' k (A' : Nat → Nat → Nat → Int32), q + k + n' = S → RP A' (mv 41 (8 * p) 44 0 H 0 q) → Fx A A' → A' 6 0 1 = nI S → (∀ j, A' 7 0 j = if j < k then H 44 (j + q) else A 7 0 j) → ∀ u1 u2, pW ns d 105 43 [some (pm_r 6 0), u1, u2, some (pm_i (nI q)), some (pm_i (nI (q + k)))] [] (mm x R Z Y o A' c G g) (fun r => ∃ A', (RP A' (mv 41 (8 * p) 44 0 H 0 q) ∧ Fx A A' ∧ A' 6 0 1 = nI (S - q) ∧ (∀ k, k + q < S → A' 7 0 k = H 44 (k + q))) ∧ r = (.inl (some (pm_i (nI q))), mm x R Z Y o A' c G g)) := by
      intro n'
      induction n' with
      | zero =>
        intro k A' hk hr' hx h6 h7' u1 u2
        refine t105_43a hR (fun _ => ⟨_, ⟨rp_a hr' tr6, Fx.tr hx (fx_u (by omega)), ?_, ?_⟩, rfl⟩) (fun k' => ?_)
        · rw [u_eq, h6, pk_sub hqS]
        · intro j hj
          rw [u_ne (by omega), h7', if_pos (by omega)]
        · rw [h6] at k'
          exact absurd (nI_le (by omega) (by omega)) k'
      | succ n' ih =>
        intro k A' hk hr' hx h6 h7' u1 u2
        refine t105_43a hR (fun k' => ?_) (fun _ => b105_52a hR (j1 := q + k) (j2 := k) rfl (by omega) (by rw [pk_sub (by omega)]; congr 1; omega) (by omega) ?_)
        · rw [h6, nI_leI (by omega) (by omega)] at k'
          omega
        · rw [nI_s]
          refine ih (k + 1) _ (by omega) (rp_a hr' tr7) (Fx.tr hx (fx_u (by omega))) (by rw [u_ne (by omega)]; exact h6) (fun j => ?_) _ _
          by_cases e : j = k
          · subst e
            rw [u_eq, if_pos (by omega), h7']
            by_cases e2 : q + j < j
            · omega
            · rw [if_neg e2, h7 _ (by omega), Nat.add_comm]
          · rw [u_ne (by omega), h7']
            by_cases e2 : j < k
            · rw [if_pos e2, if_pos (by omega)]
            · rw [if_neg e2, if_neg (by omega)]
    have l1 : ∀ n' k (A' : Nat → Nat → Nat → Int32) (K : Nat → Nat → Int32), k + n' = q → RP A' K → (∀ j, K 44 j = H 44 j) → mv 41 (8 * p) 44 0 K k n' = mv 41 (8 * p) 44 0 H 0 q → Fx A A' → A' 6 0 1 = nI S → (∀ j, A' 7 0 j = A 7 0 j) → ∀ u1, pW ns d 105 17 [some (pm_r 6 0), u1, some (pm_r 11 p), some (pm_i (nI q)), some (pm_i (nI k))] [] (mm x R Z Y o A' c G g) (fun r => ∃ A', (RP A' (mv 41 (8 * p) 44 0 H 0 q) ∧ Fx A A' ∧ A' 6 0 1 = nI (S - q) ∧ (∀ k, k + q < S → A' 7 0 k = H 44 (k + q))) ∧ r = (.inl (some (pm_i (nI q))), mm x R Z Y o A' c G g)) := by
      intro n'
      induction n' with
      | zero =>
        intro k A' K hk hr' h44 he hx h6 h7' u1
        have : k = q := by omega
        subst this
        refine t105_17a hR hp (fun _ => ?_) (fun k' => absurd (nI_le (Nat.le_refl _) (by omega)) k')
        refine l2 (S - k) 0 A' (by omega) (by rw [← he]; exact hr') hx h6 (fun j => ?_) _ _
        rw [h7', if_neg (by omega)]
      | succ n' ih =>
        intro k A' K hk hr' h44 he hx h6 h7' u1
        refine t105_17a hR hp (fun k' => ?_) (fun _ => b105_23a hR hp (j1 := k) (j2 := k) rfl (by omega) rfl (by omega) ?_)
        · rw [nI_leI (by omega) (by omega)] at k'
          omega
        · rw [nI_s]
          have e7 : A' 7 0 k = K 44 (0 + k) := by rw [h7', h7 _ (by omega), h44, Nat.zero_add]
          rw [e7]
          have hr2 : RP (pm_u A' 11 p k (K 44 (0 + k))) (pm_v K 41 (8 * p + k) (K 44 (0 + k))) := rp_u hr' (ttk hp (by omega))
          refine ih (k + 1) _ _ (by omega) hr2 (fun j => ?_) he (Fx.tr hx (fx_u (by omega))) (by rw [u_ne (by omega)]; exact h6) (fun j => by rw [u_ne (by omega)]; exact h7' j) _
          rw [v_f (by decide)]
          exact h44 j
    exact l1 q 0 A H (by omega) hr (fun _ => rfl) rfl Fx.rf hS (fun _ => rfl) _
  obtain ⟨r, ⟨A', h1, rfl⟩, hE⟩ := enQ rfl hw
  exact ⟨A', h1, hE⟩
theorem c131 (hR : RS R) {r : Nat} (hr : RP A H) (e26 : H 20 26 = nI r) (hr1 : 1 ≤ r) (hr8 : r ≤ 8) : ∃ A', (RP A' (pm_v (mv 45 0 45 1 H 0 (r - 1)) 20 26 (H 20 26 - nI 1)) ∧ Fx A A' ∧ A' 6 0 1 = A 6 0 1 ∧ (∀ k, A' 7 0 k = A 7 0 k)) ∧ pE ns (d + 1) 131 [pm_r 3 0] (mm x R Z Y o A c G g) (.inl none, mm x R Z Y o A' c G g) := by
  have hw : pW ns d 131 0 (pm_ent [pm_r 3 0] ++ List.replicate (pm_maxL 131 - (pm_ent [pm_r 3 0]).length) none) [] (mm x R Z Y o A c G g) (fun r' => ∃ A', (RP A' (pm_v (mv 45 0 45 1 H 0 (r - 1)) 20 26 (H 20 26 - nI 1)) ∧ Fx A A' ∧ A' 6 0 1 = A 6 0 1 ∧ (∀ k, A' 7 0 k = A 7 0 k)) ∧ r' = (.inl none, mm x R Z Y o A' c G g)) := by
    refine b131_0 hR ?_
    have key : ∀ n k (A' : Nat → Nat → Nat → Int32) (K : Nat → Nat → Int32), k + 1 + n = r → RP A' K → K 20 26 = nI r → mv 45 0 45 1 K k n = mv 45 0 45 1 H 0 (r - 1) → Fx A A' → A' 6 0 1 = A 6 0 1 → (∀ j, A' 7 0 j = A 7 0 j) → pW ns d 131 2 [some (pm_r 3 0), some (pm_i (nI (k + 1)))] [] (mm x R Z Y o A' c G g) (fun r' => ∃ A', (RP A' (pm_v (mv 45 0 45 1 H 0 (r - 1)) 20 26 (H 20 26 - nI 1)) ∧ Fx A A' ∧ A' 6 0 1 = A 6 0 1 ∧ (∀ k, A' 7 0 k = A 7 0 k)) ∧ r' = (.inl none, mm x R Z Y o A' c G g)) := by
      intro n
      induction n with
      | zero =>
        intro k A' K hk hr' eK he hx h6 h7
        have e3 : A' 3 0 3 = nI r := (hr' _ _ _ _ trd).trans eK
        refine t131_2 hR (fun _ => ⟨_, ⟨?_, Fx.tr hx (fx_u (by omega)), by rw [u_ne (by omega)]; exact h6, fun j => by rw [u_ne (by omega)]; exact h7 j⟩, rfl⟩) (fun k' => ?_)
        · rw [e3, e26, ← he]
          exact rp_u hr' trd
        · rw [e3] at k'
          exact absurd (nI_le (by omega) (by omega)) k'
      | succ n ih =>
        intro k A' K hk hr' eK he hx h6 h7
        have e3 : A' 3 0 3 = nI r := (hr' _ _ _ _ trd).trans eK
        refine t131_2 hR (fun k' => ?_) (fun _ => b131_10 hR (j1 := k + 1) (j2 := k) rfl (by omega) (by rw [pk_sub (by omega)]; rfl) (by omega) ?_)
        · rw [e3, nI_leI (by omega) (by omega)] at k'
          omega
        · rw [nI_s]
          have e14 : A' 14 0 (k + 1) = K 45 (1 + k) := by rw [Nat.add_comm 1 k]; exact hr' _ _ _ _ (trl (by omega))
          rw [e14]
          have hr2 : RP (pm_u A' 14 0 k (K 45 (1 + k))) (pm_v K 45 (0 + k) (K 45 (1 + k))) := by rw [Nat.zero_add]; exact rp_u hr' (trl (by omega))
          exact ih (k + 1) _ _ (by omega) hr2 (by rw [v_f (by decide)]; exact eK) he (Fx.tr hx (fx_u (by omega))) (by rw [u_ne (by omega)]; exact h6) (fun j => by rw [u_ne (by omega)]; exact h7 j)
    exact key (r - 1) 0 A H (by omega) hr e26 rfl Fx.rf rfl (fun _ => rfl)
  obtain ⟨r, ⟨A', h1, rfl⟩, hE⟩ := enQ rfl hw
  exact ⟨A', h1, hE⟩
theorem c130 (hR : RS R) (hr : Rel A c H h) {p n : Nat} (hp : p < 8) (h11 : I11 H) (e36 : H 36 p = nI n) (hn : n ≤ 8) (hr1 : ¬ H 20 26 ≤ 0) : ∃ A', (RP (pm_u A' 8 p 12 (nI (tlN H p))) (tlF H p) ∧ Fx A A' ∧ A' 6 0 1 = nI (usN H - tlN H p) ∧ (∀ k, k + tlN H p < usN H → A' 7 0 k = H 44 (k + tlN H p))) ∧ pE ns (d + 2) 130 [pm_r 3 0, pm_i (nI n), pm_r 11 p] (mm x R Z Y o A c G g) (.inl (some (pm_i (nI (tlN H p)))), mm x R Z Y o A' c G g) := by
  have hus := us_tl h11 e36 hn hr1
  have hus2 := us_le h11
  obtain ⟨r, l, hr8, e26, e27, hsum, hall⟩ := h11
  obtain ⟨m, hm, e45⟩ := hall 0 (by decide)
  have hrr : 1 ≤ r := by
    by_cases h0 : r = 0
    · rw [e26, h0] at hr1
      exact absurd (by decide) hr1
    · omega
  have hN : tlN H p = min n m := by
    unfold tlN
    rw [e36, e45, mnI_of (by omega) (by omega), nI_clamp (by omega)]
  have esub : H 45 0 - nI (tlN H p) = nI (m - tlN H p) := by rw [e45, pk_sub (by omega)]
  generalize hq : tlN H p = q at *
  obtain ⟨A1, ⟨hr1', hx1, h61, h71⟩, hE1⟩ := c105a (ns := ns) (d := d) (x := x) (Z := Z) (Y := Y) (o := o) (G := G) (g := g) (c := c) (n := min n m) (q := q) hR hp hr.2.2.1 hus2 (by omega) (by omega) hr.1 hr.2.2.2
  have ea : (if A 14 0 0 < nI n then A 14 0 0 else nI n) = nI (min n m) := by
    rw [r_rl hr (by decide), e45]
    by_cases hh : m < n
    · rw [if_pos (nI_lt hh (by omega))]
      congr 1
      omega
    · rw [if_neg (nI_nlt (by omega) (by omega))]
      congr 1
      omega
  rw [← ea] at hE1
  have hrA : RP A1 (mv 44 0 44 q (mv 41 (8 * p) 44 0 H 0 q) 0 (24 - q)) := rp_mv44 hr1'
  have e140 : A1 14 0 0 = H 45 0 := by
    have := hrA _ _ _ _ (trl (k := 0) (by decide))
    rw [this, mv_f (by decide), mv_f (by decide)]
  have hrB : RP (pm_u A1 14 0 0 (H 45 0 - nI q)) (pm_v (mv 44 0 44 q (mv 41 (8 * p) 44 0 H 0 q) 0 (24 - q)) 45 0 (H 45 0 - nI q)) := rp_u hrA (trl (by decide))
  have hw : pW ns (d + 1) 130 0 (pm_ent [pm_r 3 0, pm_i (nI n), pm_r 11 p] ++ List.replicate (pm_maxL 130 - (pm_ent [pm_r 3 0, pm_i (nI n), pm_r 11 p]).length) none) [] (mm x R Z Y o A c G g) (fun r' => ∃ A', (RP (pm_u A' 8 p 12 (nI q)) (tlF H p) ∧ Fx A A' ∧ A' 6 0 1 = nI (usN H - q) ∧ (∀ k, k + q < usN H → A' 7 0 k = H 44 (k + q))) ∧ r' = (.inl (some (pm_i (nI q))), mm x R Z Y o A' c G g)) := by
    refine b130_0 hR hp hE1 ?_
    refine t130_18 hR hp (fun k => ?_) (fun k => ?_)
    · rw [u_eq, e140] at k
      rw [e140]
      obtain ⟨A2, ⟨hr2, hx2, h62, h72⟩, hE2⟩ := c131 (ns := ns) (d := d) (x := x) (Z := Z) (Y := Y) (o := o) (G := G) (g := g) (c := c) (r := r) hR hrB (by rw [v_f (by decide), mv_f (by decide), mv_f (by decide)]; exact e26) hrr hr8
      refine b130_38 hR hE2 (b130_42 hR ⟨A2, ⟨?_, Fx.tr (Fx.tr hx1 (fx_u (by omega))) hx2, ?_, ?_⟩, rfl⟩)
      · have e : tlF H p = pm_v (pm_v (mv 45 0 45 1 (pm_v (mv 44 0 44 q (mv 41 (8 * p) 44 0 H 0 q) 0 (24 - q)) 45 0 (H 45 0 - nI q)) 0 (r - 1)) 20 26 (pm_v (mv 44 0 44 q (mv 41 (8 * p) 44 0 H 0 q) 0 (24 - q)) 45 0 (H 45 0 - nI q) 20 26 - nI 1)) 27 p (nI q) := by
          unfold tlF tl1
          rw [hq, if_pos (by rw [k]; decide), e26, nI_clamp (by omega), mv_v (by decide) (by decide), mv_v (by decide) (by decide), v_swap (f := 27) (f' := 20) (by decide), v_f (by decide), mv_f (by decide), mv_f (by decide), e26]
        rw [e]
        exact rp_u hr2 (t12 hp)
      · rw [h62, u_ne (by omega)]
        exact h61
      · intro j hj
        rw [h72, u_ne (by omega)]
        exact h71 j hj
    · rw [u_eq, e140] at k
      rw [e140]
      refine ⟨_, ⟨?_, Fx.tr hx1 (fx_u (by omega)), by rw [u_ne (by omega)]; exact h61, fun j hj => by rw [u_ne (by omega)]; exact h71 j hj⟩, rfl⟩
      have e : tlF H p = pm_v (pm_v (mv 44 0 44 q (mv 41 (8 * p) 44 0 H 0 q) 0 (24 - q)) 45 0 (H 45 0 - nI q)) 27 p (nI q) := by
        unfold tlF tl1
        rw [hq, if_neg]
        rw [esub, ← nI_0, nI_eq (by omega) (by decide)] at k
        rw [esub, ← nI_0, nI_leI (by omega) (by decide)]
        omega
      rw [e]
      exact rp_u hrB (t12 hp)
  obtain ⟨r, ⟨A', h1, rfl⟩, hE⟩ := enQ rfl hw
  exact ⟨A', h1, hE⟩
theorem rl_tl (hr : Rel A c H h) {A' : Nat → Nat → Nat → Int32} {p n : Nat} (h11 : I11 H) (e36 : H 36 p = nI n) (hn : n ≤ 8) (hr1 : ¬ H 20 26 ≤ 0) (hR' : RP (pm_u A' 8 p 12 (nI (tlN H p))) (tlF H p)) (hx : Fx A A') (h6 : A' 6 0 1 = nI (usN H - tlN H p)) (h7 : ∀ k, k + tlN H p < usN H → A' 7 0 k = H 44 (k + tlN H p)) : Rel (pm_u A' 8 p 12 (nI (tlN H p))) c (tlF H p) h := by
  have hus := us_tl h11 e36 hn hr1
  have hus2 := us_le h11
  refine ⟨hR', rc_fx hr.2.1 (Fx.tr hx (fx_u (by omega))) (fun f k hf => ?_), ?_, ?_⟩
  · unfold tlF tl1
    split
    · rw [mv_f (by omega), v_f (by omega), v_f (by omega), v_f (by omega), mv_f (by omega), mv_f (by omega)]
    · rw [v_f (by omega), v_f (by omega), mv_f (by omega), mv_f (by omega)]
  · rw [u_ne (by omega), h6]
    congr 1
    omega
  · intro k hk
    rw [u_ne (by omega), h7 k (by omega)]
    have e : ∀ j, tl1 H p 44 j = if j < 24 - tlN H p then H 44 (tlN H p + j) else H 44 j := by
      intro j
      unfold tl1
      rw [v_f (by decide), v_f (by decide), mv_at (Or.inr (by omega))]
      by_cases hj : j < 24 - tlN H p
      · rw [if_pos (by omega), if_pos hj, mv_f (by decide)]
        rfl
      · rw [if_neg (by omega), if_neg hj, mv_f (by decide)]
    have e2 : tlF H p 44 k = tl1 H p 44 k := by
      unfold tlF
      split
      · rw [mv_f (by decide), v_f (by decide)]
      · rfl
    rw [e2, e, if_pos (by omega), Nat.add_comm]
theorem c42 (hR : RS R) (hr : Rel A c H h) {p n : Nat} (hp : p < 8) (i1 : I1 H) (i2 : I2 H) (i3 : I3 H) (h11 : I11 H) (e36 : H 36 p = nI n) (hn : n ≤ 8) : (H 23 p = H 20 25 → H 20 26 ≤ 0 → pE ns (d + 3) 42 [pm_r 0 0, pm_r 8 p] (mm x R Z Y o A c G g) (.inl (some (pm_i (-nI 9))), mm x R Z Y o A c G g)) ∧ (H 23 p = H 20 25 → ¬ H 20 26 ≤ 0 → cX ns (d + 3) 42 [pm_r 0 0, pm_r 8 p] x R Z Y o A c G g (.inl (some (pm_i (nI (tlN H p))))) (tlF H p) h) ∧ (¬ H 23 p = H 20 25 → pE ns (d + 3) 42 [pm_r 0 0, pm_r 8 p] (mm x R Z Y o A c G g) (.inl (some (pm_i (if unask H p = true then -nI 5 else -nI 10))), mm x R Z Y o A c G g)) := by
  have h0 := nI_0
  have e8 := r_8 hr hp
  have e5 := r_fg hr
  have e3 := r_rd hr
  obtain ⟨r, l, hr8, e26, e27, hsum, hall⟩ := id h11
  have hz : H 20 26 = 0 ↔ H 20 26 ≤ 0 := by
    rw [e26, ← h0, nI_eq (by omega) (by decide), nI_leI (by omega) (by decide)]
    omega
  refine ⟨fun hg hle => ?_, fun hg hle => ?_, fun hg => ?_⟩
  · exact en rfl (t42_0 hR hp (fun _ _ => rfl) (fun _ k => absurd (by rw [e3]; exact hz.mpr hle) k) (fun k => absurd (by rw [e8, e5]; exact hg) k) (fun k => absurd (by rw [e8, e5]; exact hg) k) (fun k => absurd (by rw [e8, e5]; exact hg) k))
  · obtain ⟨A1, ⟨hq1, hq2, hq3, hq4⟩, hE1⟩ := c130 (ns := ns) (d := d) (x := x) (Z := Z) (Y := Y) (o := o) (G := G) (g := g) hR hr hp h11 e36 hn hle
    rw [← e36, ← r_k2 hr hp] at hE1
    refine cxi rfl (t42_0 hR hp (fun _ k => absurd (hz.mp (by rw [← e3]; exact k)) hle) (fun _ _ => b42_81 hR hp hE1 (b42_100 hR hp hp ?_)) (fun k => absurd (by rw [e8, e5]; exact hg) k) (fun k => absurd (by rw [e8, e5]; exact hg) k) (fun k => absurd (by rw [e8, e5]; exact hg) k))
    rw [u_eq]
    exact ⟨_, rl_tl hr h11 e36 hn hle hq1 hq2 hq3 hq4, rfl⟩
  · have eno := r_no hr hp
    have e10 := r_a hr hp (k := 5) (by decide) (by decide)
    have hno : nI p = 0 ↔ p = 0 := by
      rw [← h0]
      exact nI_eq (by omega) (by decide)
    refine en rfl (t42_0 hR hp (fun k => absurd (by rw [← e8, ← e5]; exact k) hg) (fun k => absurd (by rw [← e8, ← e5]; exact k) hg) (fun _ k => ?_) (fun _ k k' => ?_) (fun _ k k' => b42_31 hR hp (c115 (d := d + 1) hR hr hp (by decide)) (t42_36 hR hp (fun k2 => b42_49 hR hp (c27 (d := d) hR hr i1 i2 i3) (t42_57 hR (fun k3 => ?_) (fun k3 => ?_))) (fun k2 => ?_))))
    · rw [eno, hno] at k
      rw [if_pos (by simp [unask, k])]
    · rw [e10] at k'
      rw [if_pos (by simp [unask, k'])]
    · rw [eno, hno] at k
      rw [e10] at k'
      rw [e8] at k3
      rw [if_neg (by simp [unask, k, k', bI_0.mp k2, bI_0.mp k3])]
    · rw [e8] at k3
      rw [if_pos (by simp [unask, bI_n0.mp k3])]
    · rw [if_pos (by simp [unask, bI_n0.mp k2])]
theorem c41 (hR : RS R) (hr : Rel A c H h) {p : Nat} {b : Int64} (hp : p < 8) (i1 : I1 H) (i2 : I2 H) (i3 : I3 H) (hc : Cl H p) (i10 : I10 H) (h11 : I11 H) (h34 : H 34 p = nI 1) : (chF H p = 0 → pE ns (d + 4) 41 [pm_r 0 0, pm_r 8 p] (mm x R Z Y o A c G g) (.inl (some (pm_i (-nI 9))), mm x R Z Y o A c G g)) ∧ (chF H p = 2 → pE ns (d + 4) 41 [pm_r 0 0, pm_r 8 p] (mm x R Z Y o A c G g) (.inl (some (pm_i (-nI 10))), mm x R Z Y o A c G g)) ∧ (chF H p = 1 → cX ns (d + 4) 41 [pm_r 0 0, pm_r 8 p] x R Z Y o A c G g (.inl (some (pm_i (pfV H p)))) (pfF H b p) h) := by
  obtain ⟨f, hf, e35, ⟨n, hn, e36, hn1⟩, hrd, hwr⟩ := hc
  have ecf : cfi H p = f := by rw [cfi, e35, nI_clamp (by omega)]
  have efv : fv H p = H 32 (6 * p + f) := by rw [fv, ecf]
  have nd := nd
  have hn3 : ¬ H 34 p = nI 3 := by grind
  have hn2 : ¬ H 34 p = nI 2 := by grind
  have h113 := c113f (ns := ns) (d := d + 2) (x := x) (Z := Z) (Y := Y) (o := o) (G := G) (g := g) hR hr hp hf
  rw [← efv, ← e35, ← r_k1 hr hp] at h113
  rcases hrd h34 with hv | ⟨j, hj, hv⟩
  · rw [← efv] at hv
    obtain ⟨q1, q2, q3⟩ := c42 (ns := ns) (d := d) (x := x) (Z := Z) (Y := Y) (o := o) (G := G) (g := g) hR hr hp i1 i2 i3 h11 e36 hn
    have hch : chF H p = if H 23 p = H 20 25 then (if H 20 26 ≤ 0 then 0 else 1) else if unask H p = true then 1 else 2 := by
      simp only [chF, if_pos h34, if_pos hv]
    have epv : pfV H p = if H 23 p = H 20 25 then nI (tlN H p) else -nI 5 := by
      simp only [pfV, if_neg hn3, if_neg hn2, if_pos hv]
    have epf : pfF H b p = if H 23 p = H 20 25 then tlF H p else H := by
      simp only [pfF, if_neg hn3, if_neg hn2, if_pos hv]
    rw [hch, epv, epf]
    by_cases hg : H 23 p = H 20 25
    · rw [if_pos hg, if_pos hg, if_pos hg]
      by_cases hle : H 20 26 ≤ 0
      · rw [if_pos hle]
        exact ⟨fun _ => en rfl (b41_0 hR hp h113 (t41_11 hR hp (fun _ => b41_17 hR hp (q1 hg hle) (b41_22 hR rfl)) (fun k => absurd hv k) (fun k => absurd hv k) (fun k => absurd hv k))), fun k => absurd k (by decide), fun k => absurd k (by decide)⟩
      · rw [if_neg hle]
        refine ⟨fun k => absurd k (by decide), fun k => absurd k (by decide), fun _ => ?_⟩
        obtain ⟨A1, hr1, hE1⟩ := q2 hg hle
        exact cxi rfl (b41_0 hR hp h113 (t41_11 hR hp (fun _ => b41_17 hR hp hE1 (b41_22 hR ⟨A1, hr1, rfl⟩)) (fun k => absurd hv k) (fun k => absurd hv k) (fun k => absurd hv k)))
    · rw [if_neg hg, if_neg hg, if_neg hg]
      have q3 := q3 hg
      by_cases hu : unask H p = true
      · rw [if_pos hu]
        rw [if_pos hu] at q3
        exact ⟨fun k => absurd k (by decide), fun k => absurd k (by decide), fun _ => cxi rfl (b41_0 hR hp h113 (t41_11 hR hp (fun _ => b41_17 hR hp q3 (b41_22 hR ⟨A, hr, rfl⟩)) (fun k => absurd hv k) (fun k => absurd hv k) (fun k => absurd hv k)))⟩
      · rw [if_neg hu]
        rw [if_neg hu] at q3
        exact ⟨fun k => absurd k (by decide), fun _ => en rfl (b41_0 hR hp h113 (t41_11 hR hp (fun _ => b41_17 hR hp q3 (b41_22 hR rfl)) (fun k => absurd hv k) (fun k => absurd hv k) (fun k => absurd hv k))), fun k => absurd k (by decide)⟩
  · rw [← efv] at hv
    have hne : ¬ fv H p = nI 1 := by
      rw [hv]
      intro h'
      have := nI_inj h' (by omega) (by decide)
      omega
    obtain ⟨ei, ep⟩ := pix_ix (v := 2 + 2 * j) hj (Or.inl rfl)
    have epx : pix (fv H p) = j := by rw [hv]; exact ep
    have ei' : fv H p / nI 2 - nI 1 = nI j := by rw [hv]; exact ei
    have eop : fv H p + nI 1 = nI (3 + 2 * j) := by rw [hv, nI_add]; congr 1; omega
    obtain ⟨m, hm, e43⟩ := i10 j hj
    have e4 := r_pm hr hj
    have hch : chF H p = if 0 < H 43 j ∨ opn H (nI (3 + 2 * j)) = false then 1 else 0 := by
      simp only [chF, if_pos h34, if_neg hne, epx, eop]
    have hpos : 0 < H 43 j ↔ ¬ H 43 j = 0 := by
      rw [e43, ← nI_0, nI_ltI (by decide) (by omega), nI_eq (by omega) (by decide)]
      omega
    have epv : pfV H p = nI (tbN H p j) := by simp only [pfV, if_neg hn3, if_neg hn2, if_neg hne, epx]
    have epf : pfF H b p = tbF H p j := by simp only [pfF, if_neg hn3, if_neg hn2, if_neg hne, epx]
    have hN : tbN H p j = min n m := by
      unfold tbN
      rw [e36, e43, mnI_of (by omega) (by omega), nI_clamp (by omega)]
    have hbeg : ∀ Q : pm_O × pm_M → Prop, ((H 43 j = 0 ∧ opn H (nI (3 + 2 * j)) = true) → Q (.inl (some (pm_i (-nI 9))), mm x R Z Y o A c G g)) → ((¬ H 43 j = 0 ∨ opn H (nI (3 + 2 * j)) = false) → ∀ v, pW ns (d + 3) 41 68 [some (pm_r 0 0), some (pm_r 8 p), some (pm_i v), some (pm_i (nI j))] [] (mm x R Z Y o A c G g) Q) → pW ns (d + 3) 41 0 (pm_ent [pm_r 0 0, pm_r 8 p] ++ List.replicate (pm_maxL 41 - (pm_ent [pm_r 0 0, pm_r 8 p]).length) none) [] (mm x R Z Y o A c G g) Q := by
      intro Q q1 q2
      refine b41_0 hR hp h113 (t41_11 hR hp (fun k => absurd k hne) (fun _ k => ?_) (fun _ _ _ => ?_) (fun _ _ k => ?_))
      · rw [ei'] at k
        exact absurd k (nI_pos (by omega))
      · rw [ei']
        refine b41_41 hR hp rfl hj (fun k => ?_) (fun k => ?_)
        · rw [e4] at k
          refine b41_53 hR hp (by rw [nI_m, nI_add]; exact c28 (d := d + 2) hR hr) (t41_62 hR hp (fun k2 => q2 (Or.inr (bI_0.mp k2)) _) (fun k2 => q1 ⟨k, bI_n0.mp k2⟩))
        · rw [e4] at k
          exact q2 (Or.inl k) _
      · rw [ei'] at k
        exact absurd (nI_lt hj (by decide)) k
    rw [hch, epv, epf]
    refine ⟨fun k => ?_, fun k => ?_, fun k => ?_⟩
    · have hn : ¬ (0 < H 43 j ∨ opn H (nI (3 + 2 * j)) = false) := by
        intro e
        rw [if_pos e] at k
        cases k
      rw [hpos] at hn
      exact en rfl (hbeg _ (fun _ => rfl) (fun e => absurd e hn))
    · split at k <;> cases k
    · have hy : 0 < H 43 j ∨ opn H (nI (3 + 2 * j)) = false := by
        by_cases e : 0 < H 43 j ∨ opn H (nI (3 + 2 * j)) = false
        · exact e
        · rw [if_neg e] at k
          cases k
      rw [hpos] at hy
      obtain ⟨A1, hr1, hE1⟩ := c105 (ns := ns) (d := d + 2) (x := x) (Z := Z) (Y := Y) (o := o) (G := G) (g := g) (p := p) hR hr hj hp e43 hm hn
      rw [← e36, ← r_k2 hr hp] at hE1
      refine cxi rfl (hbeg _ (fun e => ?_) (fun _ v => b41_68 hR hp rfl hj hE1 (b41_89 hR hp hp ?_)))
      · rcases hy with e' | e'
        · exact absurd e.1 e'
        · rw [e.2] at e'
          cases e'
      · rw [u_eq, hN]
        refine ⟨_, ?_, rfl⟩
        unfold tbF
        rw [hN, e43, nI_clamp (by omega)]
        rw [e43] at hr1
        exact rl_u hr1 (t12 hp) (by simp)
end A2S
