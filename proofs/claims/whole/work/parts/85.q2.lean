/-! @85.q1@ the class: public methods -/
theorem stl {G : Nat → Nat → Int32} {g : Nat → Int64} (h : sel G = 8) : settleF G g = G := by
  unfold settleF
  simp only [stN, if_pos h]
theorem rp_33 {A : Nat → Nat → Nat → Int32} {H : Nat → Nat → Int32} {q : Nat} {v : Int32} (hr : RP A H) : RP A (pm_v H 33 (8 * q + 0) v) := by
  intro f i k y hy
  rw [v_ne]
  · exact hr _ _ _ _ hy
  · rintro ⟨e1, e2⟩
    have e := (tr_in hy).1
    have ey : y = (33, 8 * q + 0) := Prod.ext e1 e2
    rw [ey] at e
    have : ti (33, 8 * q + 0) = (10, q, 0) := by
      simp only [ti]
      simp
    rw [this] at e
    simp only [Prod.mk.injEq] at e
    obtain ⟨rfl, rfl, rfl⟩ := e
    simp [tr] at hy
theorem rl_33 {A : Nat → Nat → Nat → Int32} {c h : Nat → Int64} {H : Nat → Nat → Int32} {q : Nat} {v : Int32} (hr : Rel A c H h) : Rel A c (pm_v H 33 (8 * q + 0) v) h := ⟨rp_33 hr.1, rc_fx hr.2.1 Fx.rf (fun f k hf => v_f (by omega)), rt_congr hr.2.2 rfl (fun _ => rfl) (v_f (by decide)) (v_f (by decide)) (fun k => v_f (by decide)) (fun k => v_f (by decide))⟩
section Q2
variable {ns d x : Nat} {R : Nat → Nat → Nat → Option (Nat × Nat)} {Z A : Nat → Nat → Nat → Int32} {Y : Nat → Nat → Nat → Int64} {o : Int64} {c g : Nat → Int64} {G : Nat → Nat → Int32} {H : Nat → Nat → Int32} {h : Nat → Int64}
theorem c110 (hR : RS R) (hr : Rel A c H h) {p q : Nat} (hp : p < 8) (hq : q < 8) (hpq : p ≠ q) (hz : H 21 p ≠ nI 0) (h34 : H 34 q = nI 0) : cX ns (d + 1) 110 [pm_r 8 q, pm_r 8 p] x R Z Y o A c G g (.inl none) (fkF H p q) h := by
  refine cxi rfl (b110_0 hR hq hp ?_)
  have fin : ∀ (A' : Nat → Nat → Nat → Int32), Rel A' c (mv 33 (8 * q) 33 (8 * p) (mv 32 (6 * q) 32 (6 * p) H 0 6) 1 7) h → Rel (pm_u (pm_u (pm_u (pm_u (pm_u (pm_u (pm_u (pm_u A' 8 q 6 (nI 1)) 8 q 7 (nI p)) 8 q 8 (H 23 p)) 8 q 9 (H 24 p)) 8 q 10 (nI 0)) 8 q 11 (nI 0)) 8 q 12 (nI 0)) 8 q 13 (nI 0)) c (fkF H p q) h := by
    intro A' hr'
    generalize hK : mv 33 (8 * q) 33 (8 * p) (mv 32 (6 * q) 32 (6 * p) H 0 6) 1 7 = K at hr'
    have e34 : K 34 q = nI 0 := by rw [← hK, mv_f (by decide), mv_f (by decide)]; exact h34
    -- parent first, then the state
    have a1 : Rel (pm_u A' 8 q 7 (nI p)) c (pm_v K 22 q (nI p)) h := rl_p hq hr'
    have a2 : Rel (pm_u (pm_u A' 8 q 7 (nI p)) 8 q 6 (nI 1)) c (pm_v (pm_v K 22 q (nI p)) 21 q (nI 1)) h := rl_21 hq a1 (fun _ => by rw [u_eq, v_eq]) (fun e => absurd e (by decide)) (fun e => absurd e (by decide)) (fun e => absurd (by rw [v_f (by decide)]; exact e34) e)
    rw [u_swap (f := 8) (k := 6) (f' := 8) (k' := 7) (by omega)]
    have a3 := rl_u (v := H 23 p) a2 (t8 hq) (by simp)
    have a4 := rl_u (v := H 24 p) a3 (t9 hq) (by simp)
    have a5 := rl_u (v := nI 0) a4 (t10 hq) (by simp)
    have a6 := rl_u (v := nI 0) a5 (t11 hq) (by simp)
    have a7 := rl_u (v := nI 0) a6 (t12 hq) (by simp)
    have a8 := rl_u (v := nI 0) a7 (t13 hq) (by simp)
    simp only at a8
    have a9 := rl_g (f := 29) (i := q) (v := nI 0) a8 (Or.inr (Or.inr (Or.inl ⟨rfl, fun _ => by
      rw [v_f (by decide), v_f (by decide), v_f (by decide), v_f (by decide), v_f (by decide), v_f (by decide), v_eq]
      decide⟩)))
    have a10 := rl_g (f := 31) (i := q) (v := nI 0) a9 (Or.inr (Or.inr (Or.inr (Or.inl ⟨rfl, fun _ => by
      rw [v_f (by decide), v_f (by decide), v_f (by decide), v_f (by decide), v_f (by decide), v_f (by decide), v_f (by decide), v_eq]
      decide⟩))))
    have a11 := rl_33 (q := q) (v := H 33 (8 * p + 0)) a10
    have e : fkF H p q = pm_v (pm_v (pm_v (pm_v (pm_v (pm_v (pm_v (pm_v (pm_v (pm_v (pm_v K 22 q (nI p)) 21 q (nI 1)) 23 q (H 23 p)) 24 q (H 24 p)) 25 q (nI 0)) 26 q (nI 0)) 27 q (nI 0)) 28 q (nI 0)) 29 q (nI 0)) 31 q (nI 0)) 33 (8 * q + 0) (H 33 (8 * p + 0)) := by
      funext f j
      by_cases h33 : f = 33
      · subst h33
        by_cases ej : j = 8 * q
        · subst ej
          rw [show 8 * q = 8 * q + 0 from rfl, v_eq]
          simp [fkF]
        · rw [v_k (by omega), v_f (by decide), v_f (by decide), v_f (by decide), v_f (by decide), v_f (by decide), v_f (by decide), v_f (by decide), v_f (by decide), v_f (by decide), v_f (by decide), ← hK, mv_dj (N := 8) (by omega) (by omega), mv_f (by decide), mv_f (by decide)]
          simp only [fkF]
          by_cases hj : 8 * q ≤ j ∧ j < 8 * q + 8
          · simp only [if_neg (show ¬ (33 : Nat) = 32 by decide), if_true, if_pos hj]
            rw [if_pos (by omega)]
          · simp only [if_neg (show ¬ (33 : Nat) = 32 by decide), if_true, if_neg hj]
            rw [if_neg (by omega)]
      · rw [v_f h33]
        by_cases h32 : f = 32
        · subst h32
          rw [v_f (by decide), v_f (by decide), v_f (by decide), v_f (by decide), v_f (by decide), v_f (by decide), v_f (by decide), v_f (by decide), v_f (by decide), v_f (by decide), ← hK, mv_f (by decide), mv_dj (N := 6) (by omega) (by omega)]
          simp only [fkF, if_true, Nat.add_zero]
        · have eK : K f j = H f j := by rw [← hK, mv_f h33, mv_f h32]
          simp only [fkF, pm_v, if_neg h33, if_neg h32, eK]
          by_cases e : j = q
          · subst e
            simp only [and_true, if_true]
            by_cases f1 : f = 34
            · simp [f1, h34]
            by_cases f2 : f = 31
            · simp [f2]
            by_cases f3 : f = 29
            · simp [f3]
            by_cases f4 : f = 28
            · simp [f4]
            by_cases f5 : f = 27
            · simp [f5]
            by_cases f6 : f = 26
            · simp [f6]
            by_cases f7 : f = 25
            · simp [f7]
            by_cases f8 : f = 24
            · simp [f8]
            by_cases f9 : f = 23
            · simp [f9]
            by_cases f10 : f = 22
            · simp [f10]
            by_cases f11 : f = 21
            · simp [f11]
            simp [f1, f2, f3, f4, f5, f6, f7, f8, f9, f10, f11]
          · simp [e]
    rw [e]
    exact a11
  have l2 : ∀ m j (A' : Nat → Nat → Nat → Int32) (K : Nat → Nat → Int32), j + m = 8 → 1 ≤ j → (∀ f k, f ≠ 33 → f ≠ 32 → K f k = H f k) → Rel A' c K h → mv 33 (8 * q) 33 (8 * p) K j m = mv 33 (8 * q) 33 (8 * p) (mv 32 (6 * q) 32 (6 * p) H 0 6) 1 7 → pW ns d 110 28 [some (pm_r 8 q), some (pm_r 8 p), some (pm_i (nI j))] [] (mm x R Z Y o A' c G g) (cQ x R Z Y o c G g (.inl none) (fkF H p q) h) := by
    intro m
    induction m with
    | zero =>
      intro j A' K hj h1j hK hr' he
      have : j = 8 := by omega
      subst this
      simp only [mv] at he
      refine t110_28 hR hq hp (fun _ => ⟨_, ?_, rfl⟩) (fun k => absurd (by decide) k)
      rw [u_ne (f2 := 8) (k2 := 0) (by omega), r_no hr' hp, u_ne (f2 := 8) (k2 := 8) (by omega), u_ne (f2 := 8) (k2 := 8) (by omega), r_8 hr' hp, u_ne (f2 := 8) (k2 := 9) (by omega), u_ne (f2 := 8) (k2 := 9) (by omega), u_ne (f2 := 8) (k2 := 9) (by omega), r_9 hr' hp, hK 23 p (by decide) (by decide), hK 24 p (by decide) (by decide)]
      exact fin A' (by simp only [mv]; rw [← he]; exact hr')
    | succ m ih =>
      intro j A' K hj h1j hK hr' he
      refine t110_28 hR hq hp (fun k => absurd k (nI_nlt (by omega) (by decide))) (fun _ => b110_34 hR hq hp rfl (by omega) ?_)
      rw [nI_s, r_a hr' hp h1j (by omega)]
      have hr2 : Rel (pm_u A' 10 q j (K 33 (8 * p + j))) c (pm_v K 33 (8 * q + j) (K 33 (8 * p + j))) h := rl_u hr' (tac hq h1j (by omega)) (by simp)
      exact ih (j + 1) _ _ (by omega) (by omega) (fun f k h1 h2 => by rw [v_f h1]; exact hK f k h1 h2) hr2 he
  have l1 : ∀ m j (A' : Nat → Nat → Nat → Int32) (K : Nat → Nat → Int32), j + m = 6 → (∀ f k, f ≠ 33 → f ≠ 32 → K f k = H f k) → Rel A' c K h → mv 32 (6 * q) 32 (6 * p) K j m = mv 32 (6 * q) 32 (6 * p) H 0 6 → pW ns d 110 2 [some (pm_r 8 q), some (pm_r 8 p), some (pm_i (nI j))] [] (mm x R Z Y o A' c G g) (cQ x R Z Y o c G g (.inl none) (fkF H p q) h) := by
    intro m
    induction m with
    | zero =>
      intro j A' K hj hK hr' he
      have : j = 6 := by omega
      subst this
      have he' : K = mv 32 (6 * q) 32 (6 * p) H 0 6 := he
      exact t110_2 hR hq hp (fun _ => l2 7 1 A' K rfl (by decide) hK hr' (by rw [he'])) (fun k => absurd (by decide) k)
    | succ m ih =>
      intro j A' K hj hK hr' he
      refine t110_2 hR hq hp (fun k => absurd k (nI_ge (by omega) (by decide))) (fun _ => b110_8 hR hq hp rfl (by omega) ?_)
      rw [nI_s, r_f hr' hp (by omega)]
      have hr2 : Rel (pm_u A' 9 q j (K 32 (6 * p + j))) c (pm_v K 32 (6 * q + j) (K 32 (6 * p + j))) h := rl_u hr' (tfi hq (by omega)) (by simp)
      exact ih (j + 1) _ _ (by omega) (fun f k h1 h2 => by rw [v_f h2]; exact hK f k h1 h2) hr2 he
  exact l1 6 0 A H rfl (fun _ _ _ _ => rfl) hr rfl
theorem c2x (hR : RS R) (hr : Rel A c H h) {p : Int32} (hx : x < 600) (h1 : rdy H p = false) : pE ns (d + 8) 2 [pm_r 0 0, pm_i p] (mm x R Z Y o A c G g) (.inr 0, mm (x + 1) R Z Y o A c G g) := en rfl (b2_0x hR (c23x hR hr hx h1) rfl)
theorem c3x (hR : RS R) (hr : Rel A c H h) {p a : Int32} (hx : x < 600) (h1 : rdy H p = false) : pE ns (d + 8) 3 [pm_r 0 0, pm_i p, pm_i a] (mm x R Z Y o A c G g) (.inr 0, mm (x + 1) R Z Y o A c G g) := en rfl (b3_0x hR (c23x hR hr hx h1) rfl)
theorem c4x (hR : RS R) (hr : Rel A c H h) {p : Int32} (hx : x < 600) (h1 : rdy H p = false) : pE ns (d + 8) 4 [pm_r 0 0, pm_i p] (mm x R Z Y o A c G g) (.inr 0, mm (x + 1) R Z Y o A c G g) := en rfl (b4_0x hR (c23x hR hr hx h1) rfl)
theorem c5x (hR : RS R) (hr : Rel A c H h) {p a b : Int32} (hx : x < 600) (h1 : rdy H p = false) : pE ns (d + 8) 5 [pm_r 0 0, pm_i p, pm_i a, pm_i b] (mm x R Z Y o A c G g) (.inr 0, mm (x + 1) R Z Y o A c G g) := en rfl (b5_0x hR (c23x hR hr hx h1) rfl)
theorem c6x (hR : RS R) (hr : Rel A c H h) {p a : Int32} (hx : x < 600) (h1 : rdy H p = false) : pE ns (d + 8) 6 [pm_r 0 0, pm_i p, pm_i a] (mm x R Z Y o A c G g) (.inr 0, mm (x + 1) R Z Y o A c G g) := en rfl (b6_0x hR (c23x hR hr hx h1) rfl)
theorem c7x (hR : RS R) (hr : Rel A c H h) {p a b : Int32} (hx : x < 600) (h1 : rdy H p = false) : pE ns (d + 8) 7 [pm_r 0 0, pm_i p, pm_i a, pm_i b] (mm x R Z Y o A c G g) (.inr 0, mm (x + 1) R Z Y o A c G g) := en rfl (b7_0x hR (c23x hR hr hx h1) rfl)
theorem c8x (hR : RS R) (hr : Rel A c H h) {p a b : Int32} {w : Int64} (hx : x < 600) (h1 : rdy H p = false) : pE ns (d + 8) 8 [pm_r 0 0, pm_i p, pm_i a, pm_l w, pm_i b] (mm x R Z Y o A c G g) (.inr 0, mm (x + 1) R Z Y o A c G g) := en rfl (b8_0x hR (c23x hR hr hx h1) rfl)
theorem c9x (hR : RS R) (hr : Rel A c H h) {p a : Int32} (hx : x < 600) (h1 : rdy H p = false) : pE ns (d + 8) 9 [pm_r 0 0, pm_i p, pm_i a] (mm x R Z Y o A c G g) (.inr 0, mm (x + 1) R Z Y o A c G g) := en rfl (b9_0x hR (c23x hR hr hx h1) rfl)
theorem c10x (hR : RS R) (hr : Rel A c H h) {p : Int32} (hx : x < 600) (h1 : rdy H p = false) : pE ns (d + 8) 10 [pm_r 0 0, pm_i p] (mm x R Z Y o A c G g) (.inr 0, mm (x + 1) R Z Y o A c G g) := en rfl (b10_0x hR (c23x hR hr hx h1) rfl)
theorem c11x (hR : RS R) (hr : Rel A c H h) {p a b : Int32} (hx : x < 600) (h1 : rdy H p = false) : pE ns (d + 8) 11 [pm_r 0 0, pm_i p, pm_i a, pm_i b] (mm x R Z Y o A c G g) (.inr 0, mm (x + 1) R Z Y o A c G g) := en rfl (b11_0x hR (c23x hR hr hx h1) rfl)
theorem c12x (hR : RS R) (hr : Rel A c H h) {p a b : Int32} (hx : x < 600) (h1 : rdy H p = false) : pE ns (d + 8) 12 [pm_r 0 0, pm_i p, pm_i a, pm_i b] (mm x R Z Y o A c G g) (.inr 0, mm (x + 1) R Z Y o A c G g) := en rfl (b12_0x hR (c23x hR hr hx h1) rfl)
theorem c13x (hR : RS R) (hr : Rel A c H h) {p a : Int32} (hx : x < 600) (h1 : rdy H p = false) : pE ns (d + 8) 13 [pm_r 0 0, pm_i p, pm_i a] (mm x R Z Y o A c G g) (.inr 0, mm (x + 1) R Z Y o A c G g) := en rfl (b13_0x hR (c23x hR hr hx h1) rfl)
theorem c14x (hR : RS R) (hr : Rel A c H h) {p a b : Int32} (hx : x < 600) (h1 : rdy H p = false) : pE ns (d + 8) 14 [pm_r 0 0, pm_i p, pm_i a, pm_i b] (mm x R Z Y o A c G g) (.inr 0, mm (x + 1) R Z Y o A c G g) := en rfl (b14_0x hR (c23x hR hr hx h1) rfl)
theorem c15x (hR : RS R) (hr : Rel A c H h) {p a : Int32} (hx : x < 600) (h1 : rdy H p = false) : pE ns (d + 8) 15 [pm_r 0 0, pm_i p, pm_i a] (mm x R Z Y o A c G g) (.inr 0, mm (x + 1) R Z Y o A c G g) := en rfl (b15_0x hR (c23x hR hr hx h1) rfl)
theorem c2 (hR : RS R) (hr : Rel A c H h) {p t : Nat} (hp : p < 8) (hI : Iv 8 t H) (ht : t + 900 < 2 ^ 30) (hst : St H) (h1 : H 21 p = nI 1) : cX ns (d + 8) 2 [pm_r 0 0, pm_i (nI p)] x R Z Y o A c G g (.inl (some (pm_i (if fkq H = 8 then -nI 2 else nI (fkq H))))) (if fkq H = 8 then H else settleF (fkF H p (fkq H)) h) h := by
  have nd := nd
  refine cxi rfl (b2_0 hR (c23 (d := d + 5) hR hr hp h1) (b2_5 hR hp ?_))
  have key : ∀ n k, k + n = 8 → (∀ j, j < k → ¬ H 21 j = 0) → (1 ≤ k → fkq H = fst (fun k => decide (H 21 k = 0)) k n) → pW ns (d + 7) 2 8 [some (pm_r 0 0), some (pm_i (nI p)), some (pm_r 8 p), some (pm_i (nI k))] [] (mm x R Z Y o A c G g) (cQ x R Z Y o c G g (.inl (some (pm_i (if fkq H = 8 then -nI 2 else nI (fkq H))))) (if fkq H = 8 then H else settleF (fkF H p (fkq H)) h) h) := by
    intro n
    induction n with
    | zero =>
      intro k hk hj hf
      have : k = 8 := by omega
      subst this
      have e : fkq H = 8 := hf (by decide)
      rw [if_pos e, if_pos e]
      exact t2_8 hR hp (fun _ => ⟨A, hr, rfl⟩) (fun k => absurd (by decide) k)
    | succ n ih =>
      intro k hk hj hf
      have hk8 : k < 8 := by omega
      refine t2_8 hR hp (fun k => absurd k (nI_ge hk8 (by decide))) (fun _ => b2_14 hR hp rfl hk8 (fun q => ?_) (fun q => b2_42 hR hp ?_))
      · rw [r_6 hr hk8] at q
        have hk1 : 1 ≤ k := by
          by_cases e : k = 0
          · subst e
            have := hI.1.2.1.1
            rw [q, ← nI_0] at this
            grind
          · omega
        have hf := hf hk1
        simp only [fst] at hf
        rw [if_pos (by simpa using q)] at hf
        have hne : ¬ fkq H = 8 := by omega
        have hpk : p ≠ k := by
          intro e
          rw [e, q, ← nI_0] at h1
          exact absurd h1 (by decide)
        have h34 : H 34 k = nI 0 := (hI.1.2.2.2.2.2.2.1 k hk8).2.2.1 (by rw [q, ← nI_0]; grind) (by rw [q, ← nI_0]; grind)
        obtain ⟨A1, hr1, hE1⟩ := c110 (ns := ns) (d := d + 6) (x := x) (Z := Z) (Y := Y) (o := o) (G := G) (g := g) hR hr hp hk8 hpk (by rw [h1]; decide) h34
        obtain ⟨A2, hr2, hE2⟩ := c37 (ns := ns) (d := d) (x := x) (Z := Z) (Y := Y) (o := o) (G := G) (g := g) hR hr1 (iv_fk hI hp h1 hk1 hk8 q) (by omega) (sz_fk hst)
        rw [if_neg hne, if_neg hne, hf]
        exact b2_26 hR hp rfl hk8 hE1 (b2_36 hR hE2 (b2_40 hR ⟨A2, hr2, rfl⟩))
      · rw [r_6 hr hk8] at q
        rw [nI_s]
        refine ih (k + 1) (by omega) (fun j hj' => ?_) (fun _ => ?_)
        · by_cases e : j = k
          · rw [e]
            exact q
          · exact hj j (by omega)
        · by_cases e : k = 0
          · subst e
            have : n = 7 := by omega
            subst this
            rfl
          · have hf := hf (by omega)
            simp only [fst] at hf
            rw [if_neg (by simpa using q)] at hf
            exact hf
  exact key 8 0 rfl (fun j hj => by omega) (fun e => by omega)
theorem c3 (hR : RS R) (hr : Rel A c H h) {p t : Nat} {s : Int32} (hp : p < 8) (hI : Iv 8 t H) (ht : t + 900 < 2 ^ 30) (hst : St H) (h1 : H 21 p = nI 1) : cX ns (d + 8) 3 [pm_r 0 0, pm_i (nI p), pm_i s] x R Z Y o A c G g (.inl (some (pm_i (if p = 0 then -nI 7 else nI 0)))) (if p = 0 then H else settleF (finishF H p (s &&& nI 63)) h) h := by
  have hA : A1 H p := Or.inl h1
  have eno := r_no hr hp
  have hno : nI p = 0 ↔ p = 0 := by
    rw [← nI_0]
    exact nI_eq (by omega) (by decide)
  refine cxi rfl (b3_0 hR (c23 (d := d + 5) hR hr hp h1) (t3_5 hR hp (fun q => ?_) (fun q => ?_)))
  · rw [eno, hno] at q
    rw [if_pos q, if_pos q]
    exact ⟨A, hr, rfl⟩
  · rw [eno, hno] at q
    rw [if_neg q, if_neg q]
    obtain ⟨m, hm, em⟩ := pk_andE s (m := nI 63) 6 (by decide)
    obtain ⟨w1, w2, w3, w4, w5⟩ := iv_end (how := s &&& nI 63) hI (by omega) hp (Or.inr rfl) hA
    obtain ⟨A1', hr1, hE1⟩ := c35 (ns := ns) (d := d + 5) (x := x) (Z := Z) (Y := Y) (o := o) (G := G) (g := g) (w := s &&& nI 63) hR hr hI (by omega) hp (Or.inr rfl) hA
    obtain ⟨A2, hr2, hE2⟩ := c33 (ns := ns) (d := d + 3) (x := x) (Z := Z) (Y := Y) (o := o) (G := G) (g := g) (s := 7) hR hr1 w2 (by decide) (by decide) w1 (by omega) ((lv_A (w1.1.1 _ w2)).mpr w5)
    have e : comF (endF H p (s &&& nI 63)) (pa H p) 7 = finishF H p (s &&& nI 63) := com7 w1 w2 w5
    rw [e] at hr2
    have hs2 : St (finishF H p (s &&& nI 63)) := by
      rw [em]
      exact sz_finish (by omega) hst
    obtain ⟨A3, hr3, hE3⟩ := c37 (ns := ns) (d := d) (x := x) (Z := Z) (Y := Y) (o := o) (G := G) (g := g) hR hr2 (iv_finish hI (by omega) hp (Or.inr rfl) hA) (by omega) hs2
    exact b3_16 hR hp hE1 (b3_25 hR hp w2 hE2 (b3_35 hR hE3 (b3_40 hR ⟨A3, hr3, rfl⟩)))
theorem c114 (hR : RS R) (hr : Rel A c H h) {p : Nat} (hp : p < 8) : ∀ n k, k + n = 6 → pE ns (d + 1) 114 [pm_r 8 p, pm_i (nI k)] (mm x R Z Y o A c G g) (.inl (some (pm_i (nI (fst (zf H p) k n)))), mm x R Z Y o A c G g) := by
  intro n k hk
  refine en rfl (b114_0 hR hp ?_)
  have key : ∀ n j, j + n = 6 → ∀ v, pW ns d 114 2 [some (pm_r 8 p), some (pm_i v), some (pm_i (nI j))] [] (mm x R Z Y o A c G g) (fun r' => r' = (.inl (some (pm_i (nI (fst (zf H p) j n)))), mm x R Z Y o A c G g)) := by
    intro n
    induction n with
    | zero =>
      intro j hj v
      have : j = 6 := by omega
      subst this
      exact t114_2 hR hp (fun _ => rfl) (fun k => absurd (by decide) k)
    | succ n ih =>
      intro j hj v
      have hj6 : j < 6 := by omega
      refine t114_2 hR hp (fun k => absurd k (nI_ge hj6 (by decide))) (fun _ => b114_8 hR hp rfl hj6 (fun q => b114_17 hR ?_) (fun q => b114_19 hR hp ?_))
      · rw [r_f hr hp hj6] at q
        simp only [fst]
        rw [if_pos (by simpa [zf] using q)]
      · rw [r_f hr hp hj6] at q
        simp only [fst]
        rw [if_neg (by simpa [zf] using q), nI_s]
        exact ih (j + 1) (by omega) v
  exact key n k hk _
theorem c114z (hR : RS R) {p : Nat} (hp : p < 8) : pE ns (d + 1) 114 [pm_r 8 p, pm_i (nI 7)] (mm x R Z Y o A c G g) (.inl (some (pm_i (nI 6))), mm x R Z Y o A c G g) := en rfl (b114_0 hR hp (t114_2 hR hp (fun _ => rfl) (fun k => absurd (by decide) k)))
theorem c4 (hR : RS R) (hr : Rel A c H h) {p t : Nat} (hp : p < 8) (hI : Iv 8 t H) (ht : t + 900 < 2 ^ 30) (hst : St H) (h1 : H 21 p = nI 1) : cX ns (d + 8) 4 [pm_r 0 0, pm_i (nI p)] x R Z Y o A c G g (.inl (some (pm_i (if snd (zf H p) 0 6 = 6 ∨ npi H = 6 then -nI 2 else nI (fst (zf H p) 0 6 + 8 * snd (zf H p) 0 6))))) (if snd (zf H p) 0 6 = 6 ∨ npi H = 6 then H else settleF (ppF H p (fst (zf H p) 0 6) (snd (zf H p) 0 6) (npi H)) h) h := by
  have h0 := h34_0 hI hp h1
  have hs6 : snd (zf H p) 0 6 ≤ 6 := by
    have := (snd_le (P := zf H p) (n := 6) (k := 0)).2
    omega
  have ha6 : fst (zf H p) 0 6 ≤ 6 := by
    have := fst_le (P := zf H p) (n := 6) (k := 0)
    omega
  have hn6 : npi H ≤ 6 := by
    have := fst_le (P := fun k => !isp H k) (n := 6) (k := 0)
    unfold npi
    omega
  have h2 : pE ns (d + 7) 114 [pm_r 8 p, pm_i (nI (fst (zf H p) 0 6) + nI 1)] (mm x R Z Y o A c G g) (.inl (some (pm_i (nI (snd (zf H p) 0 6)))), mm x R Z Y o A c G g) := by
    rw [nI_s, snd_fst]
    by_cases hh : fst (zf H p) 0 6 < 0 + 6
    · rw [if_pos hh]
      exact c114 (d := d + 6) hR hr hp _ _ (by omega)
    · rw [if_neg hh, show fst (zf H p) 0 6 = 6 by omega]
      exact c114z (d := d + 6) hR hp
  refine cxi rfl (b4_0 hR (c23 (d := d + 5) hR hr hp h1) (b4_5 hR hp (c114 (d := d + 6) hR hr hp 6 0 rfl) (b4_11 hR hp h2 (b4_19 hR hp (c30 (d := d + 4) hR hr) (t4_25 hR hp (fun k => ?_) (fun k k' => ?_) (fun k k' => ?_))))))
  · rw [nI_leI (by decide) (by omega)] at k
    rw [if_pos (Or.inl (by omega)), if_pos (Or.inl (by omega))]
    exact ⟨A, hr, rfl⟩
  · rw [nI_leI (by decide) (by omega)] at k
    rw [nI_ltI (by omega) (by decide)] at k'
    have hfs := fst_snd (P := zf H p) (n := 6) (k := 0) (by omega)
    have hn : ¬ (snd (zf H p) 0 6 = 6 ∨ npi H = 6) := by omega
    rw [if_neg hn, if_neg hn]
    have a1 : Rel (pm_u A 4 (npi H) 1 (nI 0)) c (pm_v H 43 (npi H) (nI 0)) h := rl_u hr (tpm k') (by simp)
    have a2 : Rel (pm_u (pm_u A 4 (npi H) 1 (nI 0)) 9 p (fst (zf H p) 0 6) (nI (2 + 2 * npi H))) c (pm_v (pm_v H 43 (npi H) (nI 0)) 32 (6 * p + fst (zf H p) 0 6) (nI (2 + 2 * npi H))) h := rl_u a1 (tfi hp (by omega)) (by simp)
    have a3 : Rel (pm_u (pm_u (pm_u A 4 (npi H) 1 (nI 0)) 9 p (fst (zf H p) 0 6) (nI (2 + 2 * npi H))) 9 p (snd (zf H p) 0 6) (nI (3 + 2 * npi H))) c (ppF H p (fst (zf H p) 0 6) (snd (zf H p) 0 6) (npi H)) h := rl_u a2 (tfi hp (by omega)) (by simp)
    obtain ⟨A3, hr3, hE3⟩ := c37 (ns := ns) (d := d) (x := x) (Z := Z) (Y := Y) (o := o) (G := G) (g := g) hR a3 (iv_pp hI hp h0 (by omega) (by omega) k') (by omega) (Sz.tr (Sz.tr (sz_v (by decide)) (sz_v (by decide))) (sz_v (by decide)) hst)
    refine b4_44 hR hp rfl k' rfl (by omega) rfl (by omega) (by rw [nI_m, nI_add, nI_add]; exact hE3) (b4_84 hR ?_)
    rw [nI_m, nI_add]
    exact ⟨A3, hr3, rfl⟩
  · rw [nI_ltI (by omega) (by decide)] at k'
    rw [if_pos (Or.inr (by omega)), if_pos (Or.inr (by omega))]
    exact ⟨A, hr, rfl⟩
/-- the value of a file as the class reads it: 0 where there is none -/
theorem c113v (hR : RS R) (hr : Rel A c H h) {t p : Nat} {f : Int32} (hp : p < 8) (hI : Iv 8 t H) : ∃ v, v < 14 ∧ pE ns (d + 1) 113 [pm_r 8 p, pm_i f] (mm x R Z Y o A c G g) (.inl (some (pm_i (nI v))), mm x R Z Y o A c G g) ∧ ((fof H p f < 0 ∧ v = 0 ∧ (f < 0 ∨ nI 6 ≤ f)) ∨ (fof H p f = nI v ∧ ∃ k, k < 6 ∧ f = nI k ∧ H 32 (6 * p + k) = nI v)) := by
  rcases pk_ix f (n := 6) (by decide) with h' | h' | ⟨k, hk, e⟩
  · have : fof H p f = -nI 1 := if_neg (fun e => e.1 h')
    refine ⟨0, by decide, en rfl (t113_0 hR hp (fun _ => rfl) (fun h'' => absurd h' h'') (fun h'' => absurd h' h'')), Or.inl ⟨by rw [this]; decide, rfl, Or.inl h'⟩⟩
  · have h5 : ¬ f ≤ nI 5 := fun h5 => absurd (Int32.le_trans h' h5) (by decide)
    have : fof H p f = -nI 1 := if_neg (fun e => h5 e.2)
    refine ⟨0, by decide, en rfl (t113_0 hR hp (fun _ => rfl) (fun _ _ => rfl) (fun _ h'' => absurd h' h'')), Or.inl ⟨by rw [this]; decide, rfl, Or.inr h'⟩⟩
  · subst e
    obtain ⟨v, hv, ev⟩ := hI.2.2.1 (6 * p + k) (by omega)
    have : fof H p (nI k) = H 32 (6 * p + k) := by
      unfold fof
      rw [if_pos ⟨nI_pos (by omega), nI_le (by omega) (by decide)⟩, nI_clamp (by omega)]
    refine ⟨v, hv, ?_, Or.inr ⟨by rw [this, ev], k, hk, rfl, ev⟩⟩
    rw [← ev]
    exact c113f hR hr hp hk
theorem c5 (hR : RS R) (hr : Rel A c H h) {p t : Nat} {a b : Int32} (hp : p < 8) (hI : Iv 8 t H) (ht : t + 900 < 2 ^ 30) (hst : St H) (h1 : H 21 p = nI 1) : cX ns (d + 8) 5 [pm_r 0 0, pm_i (nI p), pm_i a, pm_i b] x R Z Y o A c G g (.inl (some (pm_i (if fof H p a ≤ 0 ∨ fof H p b < 0 then -nI 1 else b)))) (if fof H p a ≤ 0 ∨ fof H p b < 0 then H else settleF (cyF H p a b) h) h := by
  have h0 := h34_0 hI hp h1
  obtain ⟨v, hv, hE, hva⟩ := c113v (ns := ns) (d := d + 6) (x := x) (Z := Z) (Y := Y) (o := o) (G := G) (g := g) (f := a) hR hr hp hI
  have e0 : nI v = 0 ↔ fof H p a ≤ 0 := by
    rcases hva with ⟨q1, rfl, -⟩ | ⟨q1, -⟩
    · exact ⟨fun _ => Int32.le_of_lt q1, fun _ => nI_0⟩
    · rw [q1, ← nI_0, nI_eq (by omega) (by decide), nI_leI (by omega) (by decide)]
      omega
  have bad : (b < 0 ∨ ¬ b < nI 6) → fof H p b < 0 := by
    intro hb
    have : fof H p b = -nI 1 := by
      refine if_neg (fun e => ?_)
      rcases hb with hb | hb
      · exact e.1 hb
      · exact hb (Int32.lt_of_le_of_lt e.2 (by decide))
    rw [this]
    decide
  refine cxi rfl (b5_0 hR (c23 (d := d + 5) hR hr hp h1) (b5_5 hR hp hE (t5_13 hR hp (fun k => ?_) (fun k k' => ?_) (fun k k' k2 => ?_) (fun k k' k2 => ?_))))
  · rw [e0] at k
    rw [if_pos (Or.inl k), if_pos (Or.inl k)]
    exact ⟨A, hr, rfl⟩
  · rw [if_pos (Or.inr (bad (Or.inl k'))), if_pos (Or.inr (bad (Or.inl k')))]
    exact ⟨A, hr, rfl⟩
  · have k3 := mt e0.mpr k
    rcases pk_ix b (n := 6) (by decide) with h' | h' | ⟨j, hj, e⟩
    · exact absurd h' k'
    · exact absurd k2 (by rw [Int32.not_lt]; exact h')
    · have hb : fof H p b = H 32 (6 * p + j) := by
        rw [e]
        unfold fof
        rw [if_pos ⟨nI_pos (by omega), nI_le (by omega) (by decide)⟩, nI_clamp (by omega)]
      obtain ⟨w, hw, ew⟩ := hI.2.2.1 (6 * p + j) (by omega)
      have hb0 : ¬ fof H p b < 0 := by
        rw [hb, ew]
        exact nI_pos (by omega)
      have hn : ¬ (fof H p a ≤ 0 ∨ fof H p b < 0) := fun e => e.elim k3 hb0
      have efv : fof H p a = nI v := by
        rcases hva with ⟨q1, -⟩ | ⟨q1, -⟩
        · exact absurd (Int32.le_of_lt q1) k3
        · exact q1
      have a1 : Rel (pm_u A 9 p j (nI v)) c (cyF H p a b) h := by
        unfold cyF
        rw [e, nI_clamp (by omega), efv]
        exact rl_u hr (tfi hp hj) (by simp)
      obtain ⟨A3, hr3, hE3⟩ := c37 (ns := ns) (d := d) (x := x) (Z := Z) (Y := Y) (o := o) (G := G) (g := g) hR a1 (iv_cy hI hp h0 k3 hb0) (by omega) (sz_v (by decide) hst)
      rw [if_neg hn, if_neg hn]
      exact b5_32 hR hp e hj hE3 (b5_45 hR ⟨A3, hr3, rfl⟩)
  · rw [if_pos (Or.inr (bad (Or.inr k2))), if_pos (Or.inr (bad (Or.inr k2)))]
    exact ⟨A, hr, rfl⟩
theorem c6 (hR : RS R) (hr : Rel A c H h) {p t : Nat} {a : Int32} (hp : p < 8) (hI : Iv 8 t H) (ht : t + 900 < 2 ^ 30) (hst : St H) (h1 : H 21 p = nI 1) : cX ns (d + 8) 6 [pm_r 0 0, pm_i (nI p), pm_i a] x R Z Y o A c G g (.inl (some (pm_i (if fof H p a ≤ 0 then -nI 1 else nI 0)))) (if fof H p a ≤ 0 then H else settleF (pm_v H 32 (6 * p + a.toNatClampNeg) (nI 0)) h) h := by
  have h0 := h34_0 hI hp h1
  obtain ⟨v, hv, hE, hva⟩ := c113v (ns := ns) (d := d + 6) (x := x) (Z := Z) (Y := Y) (o := o) (G := G) (g := g) (f := a) hR hr hp hI
  have e0 : nI v = 0 ↔ fof H p a ≤ 0 := by
    rcases hva with ⟨q1, rfl, -⟩ | ⟨q1, -⟩
    · exact ⟨fun _ => Int32.le_of_lt q1, fun _ => nI_0⟩
    · rw [q1, ← nI_0, nI_eq (by omega) (by decide), nI_leI (by omega) (by decide)]
      omega
  refine cxi rfl (b6_0 hR (c23 (d := d + 5) hR hr hp h1) (b6_5 hR hp hE (t6_11 hR hp (fun k => ?_) (fun k => ?_))))
  · rw [e0] at k
    rw [if_pos k, if_pos k]
    exact ⟨A, hr, rfl⟩
  · rw [e0] at k
    rcases hva with ⟨q1, -⟩ | ⟨q1, j, hj, e, -⟩
    · exact absurd (Int32.le_of_lt q1) k
    · have a1 : Rel (pm_u A 9 p j (nI 0)) c (pm_v H 32 (6 * p + j) (nI 0)) h := rl_u hr (tfi hp hj) (by simp)
      obtain ⟨A3, hr3, hE3⟩ := c37 (ns := ns) (d := d) (x := x) (Z := Z) (Y := Y) (o := o) (G := G) (g := g) hR a1 (iv_32 hI hp h0 hj (by decide)) (by omega) (sz_v (by decide) hst)
      rw [if_neg k, if_neg k, e, nI_clamp (by omega)]
      exact b6_16 hR hp rfl hj hE3 (b6_27 hR ⟨A3, hr3, rfl⟩)
end Q2
